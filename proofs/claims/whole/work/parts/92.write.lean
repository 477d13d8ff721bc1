/-! Both write a position alike. -/
def rcC (k : Nat) : Nat := if k = 0 then 75 else if k = 1 then 81 else if k = 2 then 107 else 113
def rgC (r : Nat) : Nat → Nat → List Nat
  | 0, _ => if r = 0 then [45] else []
  | d + 1, k => (if r.testBit k then [rcC k] else []) ++ rgC r d (k + 1)
def psC (p : Nat) : List Nat := if p < 64 then [97 + p % 8, 49 + p / 8] else [45]
def rsS (bd : Nat → Int32) : Nat → List Nat
  | 0 => []
  | r + 1 => rwS bd r 8 0 0 ++ [if r = 0 then 32 else 47] ++ rsS bd r
def tlS (z : Pz) : List Nat := [if z.2.1 = 0 then 119 else 98] ++ [32] ++ rgC z.2.2.1 4 0 ++ [32] ++ psC z.2.2.2.1 ++ [32] ++ nmS z.2.2.2.2.1 ++ [32] ++ nmS z.2.2.2.2.2
def wrS (z : Pz) : List Nat := rsS z.1 8 ++ tlS z
theorem rsS_len (bd : Nat → Int32) : ∀ r, (rsS bd r).length ≤ 9 * r
  | 0 => Nat.le_refl _
  | r + 1 => by
    unfold rsS
    have h1 := rwS_len bd r 8 0 0
    have h2 := rsS_len bd r
    rw [List.length_append, List.length_append, List.length_singleton]
    rw [frC_0] at h1
    simp at h1
    omega
theorem rgC_len (r : Nat) : ∀ d k, (rgC r d k).length ≤ d + 1
  | 0, k => by
    unfold rgC
    split <;> simp
  | d + 1, k => by
    unfold rgC
    have := rgC_len r d (k + 1)
    rw [List.length_append]
    split
    · simp; omega
    · simp; omega
theorem psC_len (p : Nat) : (psC p).length ≤ 2 := by
  unfold psC
  split <;> simp
set_option maxRecDepth 100000 in
theorem rsh_tb : (List.range 16).all (fun r => (List.range 4).all (fun k => (decide (((nI r >>> (nI k &&& 31)) &&& 1) = 1) == r.testBit k) && (decide (((nI r >>> (nI k &&& 31)) &&& 1) = 0) == !(r.testBit k)) && decide (m_J0_charAt_5068e [75, 81, 107, 113] (nI k) = some (nI (rcC k))))) = true := by decide +kernel
theorem rsh_all {r k : Nat} (hr : r < 16) (hk : k < 4) : (((nI r >>> (nI k &&& 31)) &&& 1) = 1 ↔ r.testBit k = true) ∧ (((nI r >>> (nI k &&& 31)) &&& 1) = 0 ↔ r.testBit k = false) ∧ m_J0_charAt_5068e [75, 81, 107, 113] (nI k) = some (nI (rcC k)) := by
  have := all_lt (all_lt rsh_tb hr) hk
  simp only [Bool.and_eq_true, beq_iff_eq, decide_eq_true_eq] at this
  obtain ⟨⟨a, b⟩, c⟩ := this
  refine ⟨?_, ?_, c⟩
  · rw [← a, decide_eq_true_eq]
  · rw [← decide_eq_true_eq (p := ((nI r >>> (nI k &&& 31)) &&& 1) = 0), b]
    simp
theorem rcC_lt (k : Nat) : rcC k < 65536 := by
  unfold rcC
  split
  · omega
  · split
    · omega
    · split <;> omega
/-- the end of the text, from the passed square on -/
def endC (z : Pz) : List Nat := [32] ++ psC z.2.2.2.1 ++ [32] ++ nmS z.2.2.2.2.1 ++ [32] ++ nmS z.2.2.2.2.2
theorem endC_len (z : Pz) : (endC z).length ≤ 17 := by
  unfold endC
  have h1 := psC_len z.2.2.2.1
  have h2 := nmS_len z.2.2.2.2.1
  have h3 := nmS_len z.2.2.2.2.2
  simp only [List.length_append, List.length_singleton]
  omega
theorem x10_write_end {z : Pz} (hp : z.2.2.2.1 ≤ 64) (hh : z.2.2.2.2.1 < 1000000) (hn : z.2.2.2.2.2 < 1000000) (code v1 v2 : Int32) {l : List Nat} {arr : Nat → Int32} (h : wrP l arr) (hl : l.length + 17 ≤ 128) : ∃ arr', m_X10_write_b140 code v1 v2 (pI z.2.2.2.1) (nI z.2.2.2.2.1) (nI z.2.2.2.2.2) (nI l.length) z.1 arr = some (nI (l ++ endC z).length, code, nI (l ++ endC z).length, arr') ∧ wrP (l ++ endC z) arr' := by
  have n1 := nmS_len z.2.2.2.2.1
  have n2 := nmS_len z.2.2.2.2.2
  obtain ⟨a1, p1, q1⟩ := x10_put h (by omega) 32
  have p1 : m_X10_put (nI l.length) arr 32 = _ := p1
  have tail : ∀ (l2 : List Nat) (arr2 : Nat → Int32), wrP l2 arr2 → l2.length + 14 ≤ 128 → ∃ arr', m_X10_write_b191 code v1 v2 (pI z.2.2.2.1) (nI z.2.2.2.2.1) (nI z.2.2.2.2.2) (nI l2.length) z.1 arr2 = some (nI (l2 ++ ([32] ++ nmS z.2.2.2.2.1 ++ [32] ++ nmS z.2.2.2.2.2)).length, code, nI (l2 ++ ([32] ++ nmS z.2.2.2.2.1 ++ [32] ++ nmS z.2.2.2.2.2)).length, arr') ∧ wrP (l2 ++ ([32] ++ nmS z.2.2.2.2.1 ++ [32] ++ nmS z.2.2.2.2.2)) arr' := by
    intro l2 arr2 h2 hl2
    obtain ⟨b1, r1, s1⟩ := x10_put h2 (by omega) 32
    have r1 : m_X10_put (nI l2.length) arr2 32 = _ := r1
    obtain ⟨b2, r2, s2⟩ := x10_putNumber hh s1 (by rw [List.length_append]; simp; omega)
    obtain ⟨b3, r3, s3⟩ := x10_put s2 (by simp only [List.length_append, List.length_singleton]; omega) 32
    have r3 : m_X10_put (nI (l2 ++ [32] ++ nmS z.2.2.2.2.1).length) b2 32 = _ := r3
    obtain ⟨b4, r4, s4⟩ := x10_putNumber hn s3 (by simp only [List.length_append, List.length_singleton]; omega)
    have ee : l2 ++ [32] ++ nmS z.2.2.2.2.1 ++ [32] ++ nmS z.2.2.2.2.2 = l2 ++ ([32] ++ nmS z.2.2.2.2.1 ++ [32] ++ nmS z.2.2.2.2.2) := by simp
    rw [ee] at r4 s4
    refine ⟨b4, ?_, s4⟩
    unfold m_X10_write_b191
    rw [ob_s r1]
    try dsimp only
    rw [ob_s r2]
    try dsimp only
    rw [ob_s r3]
    try dsimp only
    rw [ob_s r4]
  unfold m_X10_write_b140
  rw [ob_s p1]
  try dsimp only
  have hl1 : (l ++ [32]).length = l.length + 1 := by simp
  by_cases g : z.2.2.2.1 < 64
  · have hg : ¬ pI z.2.2.2.1 = -1 := by
      rw [← pI_no]
      intro e
      have := (pI_inj hp (Nat.le_refl _)).mp e
      omega
    obtain ⟨a2, p2, q2⟩ := x10_put q1 (by omega) (97 + z.2.2.2.1 % 8)
    obtain ⟨a3, p3, q3⟩ := x10_put q2 (by rw [List.length_append, hl1]; simp; omega) (49 + z.2.2.2.1 / 8)
    obtain ⟨a4, t1, t2⟩ := tail _ a3 q3 (by simp only [List.length_append, List.length_singleton]; omega)
    have e1 : (97 : Int32) + nI (z.2.2.2.1 % 8) = nI (97 + z.2.2.2.1 % 8) := nI_add 97 _
    have e2 : (49 : Int32) + nI (z.2.2.2.1 / 8) = nI (49 + z.2.2.2.1 / 8) := nI_add 49 _
    rw [if_neg hg]
    rw [pI_lt g] at t1 ⊢
    rw [ob_s (x10_columnOf (by omega)), e1, ob_s p2]
    try dsimp only
    rw [ob_s (x10_rowOf (by omega)), e2, ob_s p3]
    try dsimp only
    have ee : l ++ [32] ++ [97 + z.2.2.2.1 % 8] ++ [49 + z.2.2.2.1 / 8] ++ ([32] ++ nmS z.2.2.2.2.1 ++ [32] ++ nmS z.2.2.2.2.2) = l ++ endC z := by
      unfold endC psC
      rw [if_pos g]
      simp
    rw [ee] at t1 t2
    exact ⟨a4, t1, t2⟩
  · have e64 : z.2.2.2.1 = 64 := by omega
    have hg : pI z.2.2.2.1 = -1 := by rw [e64]; exact pI_no
    obtain ⟨a2, p2, q2⟩ := x10_put q1 (by omega) 45
    have p2 : m_X10_put (nI (l ++ [32]).length) a1 45 = _ := p2
    obtain ⟨a4, t1, t2⟩ := tail _ a2 q2 (by simp only [List.length_append, List.length_singleton]; omega)
    rw [if_pos hg, ob_s p2]
    try dsimp only
    have ee : l ++ [32] ++ [45] ++ ([32] ++ nmS z.2.2.2.2.1 ++ [32] ++ nmS z.2.2.2.2.2) = l ++ endC z := by
      unfold endC psC
      rw [if_neg g]
      simp
    rw [ee] at t1 t2
    exact ⟨a4, t1, t2⟩
theorem write_l69 {z : Pz} (hr : z.2.2.1 < 16) (hp : z.2.2.2.1 ≤ 64) (hh : z.2.2.2.2.1 < 1000000) (hn : z.2.2.2.2.2 < 1000000) (code v1 : Int32) : ∀ (d k n : Nat) (l : List Nat) (arr : Nat → Int32), k + d = 4 → wrP l arr → l.length + (d + 1) + 17 ≤ 128 → ∃ arr', m_X10_write_l69 v1 (nI z.2.2.1) (pI z.2.2.2.1) (nI z.2.2.2.2.1) (nI z.2.2.2.2.2) z.1 (n + d + 1) code (nI l.length) arr (nI k) = some (nI (l ++ rgC z.2.2.1 d k ++ endC z).length, code, nI (l ++ rgC z.2.2.1 d k ++ endC z).length, arr') ∧ wrP (l ++ rgC z.2.2.1 d k ++ endC z) arr' := by
  intro d
  induction d with
  | zero =>
    intro k n l arr e h hl
    have e : k = 4 := by omega
    subst e
    rw [m_X10_write_l69_s]
    unfold m_X10_write_b69 rgC
    have c0 : nI z.2.2.1 = 0 ↔ z.2.2.1 = 0 := nI_eq0 (by omega)
    rw [if_pos (by decide)]
    by_cases q : z.2.2.1 = 0
    · obtain ⟨a1, p1, q1⟩ := x10_put h (by omega) 45
      have p1 : m_X10_put (nI l.length) arr 45 = _ := p1
      rw [if_pos (c0.mpr q), if_pos q, ob_s p1]
      try dsimp only
      exact x10_write_end hp hh hn code v1 (nI z.2.2.1) q1 (by rw [List.length_append]; simp; omega)
    · rw [if_neg (fun g => q (c0.mp g)), if_neg q, List.append_nil]
      exact x10_write_end hp hh hn code v1 (nI z.2.2.1) h (by omega)
  | succ d ih =>
    intro k n l arr e h hl
    have hk4 : ¬ (4 : Int32) ≤ nI k := nI_ge (b := 4) (by omega) (by omega)
    obtain ⟨s1, s2, s3⟩ := rsh_all hr (k := k) (by omega)
    rw [show n + (d + 1) + 1 = n + d + 1 + 1 from rfl, m_X10_write_l69_s]
    unfold m_X10_write_b69 m_X10_write_b118 m_X10_write_b121 rgC
    rw [if_neg hk4]
    cases q : z.2.2.1.testBit k with
    | false =>
      rw [if_neg (fun g => by rw [s1.mp g] at q; cases q), ol_r, nI_1]
      simp only [Bool.false_eq_true, if_false, List.nil_append]
      exact ih (k + 1) n l arr (by omega) h (by omega)
    | true =>
      rw [if_pos (s1.mpr q)]
      simp only [if_true]
      obtain ⟨a1, p1, q1⟩ := x10_put h (by omega) (rcC k)
      obtain ⟨a2, i1, i2⟩ := ih (k + 1) n (l ++ [rcC k]) a1 (by omega) q1 (by rw [List.length_append]; simp; omega)
      have ee : l ++ [rcC k] ++ rgC z.2.2.1 d (k + 1) ++ endC z = l ++ ([rcC k] ++ rgC z.2.2.1 d (k + 1)) ++ endC z := by simp
      rw [ee] at i1 i2
      refine ⟨a2, ?_, i2⟩
      rw [← i1]
      have : k = 0 ∨ k = 1 ∨ k = 2 ∨ k = 3 := by omega
      rcases this with w | w | w | w
      · subst w
        have p1 : m_X10_put (nI l.length) arr 75 = _ := p1
        rw [if_pos (by decide), ob_s p1]
        try dsimp only
        rw [ol_r, nI_1]
      · subst w
        have p1 : m_X10_put (nI l.length) arr 81 = _ := p1
        rw [if_neg (by decide), if_pos (by decide), ob_s p1]
        try dsimp only
        rw [ol_r, nI_1]
      · subst w
        have p1 : m_X10_put (nI l.length) arr 107 = _ := p1
        rw [if_neg (by decide), if_neg (by decide), if_pos (by decide), ob_s p1]
        try dsimp only
        rw [ol_r, nI_1]
      · subst w
        have p1 : m_X10_put (nI l.length) arr 113 = _ := p1
        rw [if_neg (by decide), if_neg (by decide), if_neg (by decide), ob_s p1]
        try dsimp only
        rw [ol_r, nI_1]
theorem tl_eq (z : Pz) : tlS z = [if z.2.1 = 0 then 119 else 98] ++ [32] ++ rgC z.2.2.1 4 0 ++ endC z := by
  unfold tlS endC
  simp
theorem m1_next (d : Nat) : nI d + (-1) = (if d = 0 then -1 else nI (d - 1)) := by
  by_cases q : d = 0
  · subst q; decide
  · rw [if_neg q, nI_m1 (by omega)]
theorem write_l13 {z : Pz} (hb : gbd z.1) (hc : z.2.1 < 2) (hr : z.2.2.1 < 16) (hp : z.2.2.2.1 ≤ 64) (hh : z.2.2.2.2.1 < 1000000) (hn : z.2.2.2.2.2 < 1000000) (code : Int32) : ∀ (d n : Nat) (l : List Nat) (arr : Nat → Int32), d ≤ 8 → wrP l arr → l.length + 9 * d + 24 ≤ 128 → ∃ arr', m_X10_write_l13 (nI z.2.1) (nI z.2.2.1) (pI z.2.2.2.1) (nI z.2.2.2.2.1) (nI z.2.2.2.2.2) z.1 (n + d + 1) code (nI l.length) arr (if d = 0 then -1 else nI (d - 1)) = some (nI (l ++ rsS z.1 d ++ tlS z).length, code, nI (l ++ rsS z.1 d ++ tlS z).length, arr') ∧ wrP (l ++ rsS z.1 d ++ tlS z) arr' := by
  intro d
  induction d with
  | zero =>
    intro n l arr _ h hl
    rw [if_pos rfl, m_X10_write_l13_s]
    unfold m_X10_write_b13
    rw [if_pos (by decide)]
    have fin : ∀ ch : Nat, (ch = if z.2.1 = 0 then 119 else 98) → ∃ arr', m_X10_write_b58 code (nI z.2.1) (nI z.2.2.1) (pI z.2.2.2.1) (nI z.2.2.2.2.1) (nI z.2.2.2.2.2) (nI l.length) z.1 arr (nI ch) = some (nI (l ++ rsS z.1 0 ++ tlS z).length, code, nI (l ++ rsS z.1 0 ++ tlS z).length, arr') ∧ wrP (l ++ rsS z.1 0 ++ tlS z) arr' := by
      intro ch hch
      obtain ⟨a1, p1, q1⟩ := x10_put h (by omega) ch
      obtain ⟨a2, p2, q2⟩ := x10_put q1 (by rw [List.length_append]; simp; omega) 32
      have p2 : m_X10_put (nI (l ++ [ch]).length) a1 32 = _ := p2
      obtain ⟨a3, t1, t2⟩ := write_l69 hr hp hh hn code (nI z.2.1) 4 0 (kF - 5) (l ++ [ch] ++ [32]) a2 (by omega) q2 (by simp only [List.length_append, List.length_singleton]; omega)
      have ee : l ++ [ch] ++ [32] ++ rgC z.2.2.1 4 0 ++ endC z = l ++ rsS z.1 0 ++ tlS z := by
        rw [tl_eq, ← hch]
        unfold rsS
        simp
      rw [ee] at t1 t2
      refine ⟨a3, ?_, t2⟩
      unfold m_X10_write_b58
      rw [ob_s p1]
      try dsimp only
      rw [ob_s p2]
      exact t1
    have : z.2.1 = 0 ∨ z.2.1 = 1 := by omega
    rcases this with q | q
    · have q0 : nI z.2.1 = 0 := by rw [q]; rfl
      rw [if_pos q0]
      exact fin 119 (by rw [if_pos q])
    · have q0 : ¬ nI z.2.1 = 0 := by rw [q]; decide
      rw [if_neg q0]
      exact fin 98 (by rw [if_neg (by omega)])
  | succ d ih =>
    intro n l arr hd h hl
    rw [if_neg (by omega), show d + 1 - 1 = d by omega, show n + (d + 1) + 1 = n + d + 1 + 1 from rfl, m_X10_write_l13_s]
    unfold m_X10_write_b13 m_X10_write_b34
    have hlen := rwS_len z.1 d 8 0 0
    rw [frC_0] at hlen
    simp at hlen
    obtain ⟨a1, p1, q1⟩ := x10_putRow hb (r := d) (by omega) h (by omega)
    obtain ⟨a2, p2, q2⟩ := x10_put q1 (by rw [List.length_append]; omega) (if d = 0 then 32 else 47)
    obtain ⟨a3, i1, i2⟩ := ih n _ a2 (by omega) q2 (by simp only [List.length_append, List.length_singleton]; omega)
    have ee : l ++ rwS z.1 d 8 0 0 ++ [if d = 0 then 32 else 47] ++ rsS z.1 d ++ tlS z = l ++ rsS z.1 (d + 1) ++ tlS z := by
      show _ = l ++ (rwS z.1 d 8 0 0 ++ [if d = 0 then 32 else 47] ++ rsS z.1 d) ++ tlS z
      simp
    rw [ee] at i1 i2
    refine ⟨a3, ?_, i2⟩
    rw [if_neg (nI_pos (by omega)), ob_s p1]
    try dsimp only
    rw [← i1, m1_next]
    by_cases q : d = 0
    · subst q
      have p2 : m_X10_put (nI (l ++ rwS z.1 0 8 0 0).length) a1 32 = some (nI (l ++ rwS z.1 0 8 0 0 ++ [if 0 = 0 then 32 else 47]).length, a2) := p2
      rw [if_pos (by decide), ob_s p2]
      try dsimp only
      rw [ol_r]
    · rw [if_neg q] at p2
      have p2 : m_X10_put (nI (l ++ rwS z.1 d 8 0 0).length) a1 47 = _ := p2
      rw [if_neg (nI_nle (by omega) (by omega)), ob_s p2]
      try dsimp only
      rw [ol_r]
      rw [if_neg q, if_neg q]
theorem x10_write {z : Pz} (hb : gbd z.1) (hc : z.2.1 < 2) (hr : z.2.2.1 < 16) (hp : z.2.2.2.1 ≤ 64) (hh : z.2.2.2.2.1 < 1000000) (hn : z.2.2.2.2.2 < 1000000) (code wc : Int32) (arr : Nat → Int32) : ∃ arr', m_X10_write code (nI z.2.1) (nI z.2.2.1) (pI z.2.2.2.1) (nI z.2.2.2.2.1) (nI z.2.2.2.2.2) wc z.1 arr = some (nI (wrS z).length, 0, nI (wrS z).length, arr') ∧ wrP (wrS z) arr' := by
  obtain ⟨a, e1, e2⟩ := write_l13 hb hc hr hp hh hn 0 8 (kF - 9) [] arr (by omega) (fun i c e => by simp at e) (by simp)
  rw [List.nil_append] at e1 e2
  exact ⟨a, e1, e2⟩
theorem wrS_len (z : Pz) : (wrS z).length ≤ 96 := by
  have h1 := rsS_len z.1 8
  have h2 := rgC_len z.2.2.1 4 0
  have h3 := endC_len z
  unfold wrS
  rw [tl_eq]
  simp only [List.length_append, List.length_singleton]
  omega
/-- the class -/
theorem addRights_l {r : Nat} (hr : r < 16) : ∀ (d k n : Nat) (l : List Nat) (arr : Nat → Int32), k + d = 4 → wrP l arr → l.length + (d + 1) ≤ 128 → ∃ arr', m_X8_addRights_l2 (n + d + 1) (nI l.length) arr (nI r) (nI k) = some (nI (l ++ rgC r d k).length, arr') ∧ wrP (l ++ rgC r d k) arr' := by
  intro d
  induction d with
  | zero =>
    intro k n l arr e h hl
    have e : k = 4 := by omega
    subst e
    rw [m_X8_addRights_l2_s]
    unfold m_X8_addRights_b2 m_X8_addRights_b41 rgC
    have c0 : nI r = 0 ↔ r = 0 := nI_eq0 (by omega)
    rw [if_pos (by decide)]
    by_cases q : r = 0
    · obtain ⟨a1, p1, q1⟩ := x8_add h (by omega) (c := 45) (by omega)
      have p1 : m_X8_add (nI l.length) arr 45 = _ := p1
      rw [if_pos (c0.mpr q), if_pos q, ob_s p1]
      exact ⟨a1, rfl, q1⟩
    · rw [if_neg (fun g => q (c0.mp g)), if_neg q, List.append_nil]
      exact ⟨arr, rfl, h⟩
  | succ d ih =>
    intro k n l arr e h hl
    have hk4 : ¬ (4 : Int32) ≤ nI k := nI_ge (b := 4) (by omega) (by omega)
    obtain ⟨s1, s2, s3⟩ := rsh_all hr (k := k) (by omega)
    rw [show n + (d + 1) + 1 = n + d + 1 + 1 from rfl, m_X8_addRights_l2_s]
    unfold m_X8_addRights_b2 m_X8_addRights_b25 rgC
    rw [if_neg hk4]
    cases q : r.testBit k with
    | false =>
      rw [if_pos (s2.mpr q), ol_r, nI_1]
      simp only [Bool.false_eq_true, if_false, List.nil_append]
      exact ih (k + 1) n l arr (by omega) h (by omega)
    | true =>
      rw [if_neg (fun g => by rw [s2.mp g] at q; cases q), ob_s s3]
      simp only [if_true]
      obtain ⟨a1, p1, q1⟩ := x8_add h (by omega) (rcC_lt k)
      obtain ⟨a2, i1, i2⟩ := ih (k + 1) n (l ++ [rcC k]) a1 (by omega) q1 (by rw [List.length_append]; simp; omega)
      rw [ob_s p1]
      try dsimp only
      rw [ol_r, nI_1]
      have ee : l ++ [rcC k] ++ rgC r d (k + 1) = l ++ ([rcC k] ++ rgC r d (k + 1)) := by simp
      rw [ee] at i1 i2
      exact ⟨a2, i1, i2⟩
theorem x8_addPassed {p : Nat} (hp : p ≤ 64) {l : List Nat} {arr : Nat → Int32} (h : wrP l arr) (hl : l.length + 2 ≤ 128) : ∃ arr', m_X8_addPassed (nI l.length) arr (pI p) = some (nI (l ++ psC p).length, arr') ∧ wrP (l ++ psC p) arr' := by
  unfold m_X8_addPassed psC
  by_cases g : p < 64
  · have hg : ¬ pI p = -1 := by
      rw [← pI_no]
      intro e
      have := (pI_inj hp (Nat.le_refl _)).mp e
      omega
    have em : nI p - nI p / 8 * 8 = nI (p % 8) := pk_rem (d := 8) (by omega) (by omega) (by omega)
    have ed : nI p / 8 = nI (p / 8) := pk_div (d := 8) (by omega) (by omega) (by omega)
    have e1 : (97 : Int32) + nI (p % 8) = nI (97 + p % 8) := nI_add 97 _
    have e2 : (49 : Int32) + nI (p / 8) = nI (49 + p / 8) := nI_add 49 _
    obtain ⟨a1, p1, q1⟩ := x8_add h (by omega) (c := 97 + p % 8) (by omega)
    obtain ⟨a2, p2, q2⟩ := x8_add q1 (by rw [List.length_append]; simp; omega) (c := 49 + p / 8) (by omega)
    rw [if_neg hg, pI_lt g, em, ed, e1, e2, ch_nar (by omega), ch_nar (by omega), ob_s p1]
    try dsimp only
    rw [ob_s p2, if_pos g]
    have ee : l ++ [97 + p % 8] ++ [49 + p / 8] = l ++ [97 + p % 8, 49 + p / 8] := by simp
    rw [ee] at q2 ⊢
    exact ⟨a2, rfl, q2⟩
  · have e64 : p = 64 := by omega
    have hg : pI p = -1 := by rw [e64]; exact pI_no
    obtain ⟨a1, p1, q1⟩ := x8_add h (by omega) (c := 45) (by omega)
    have p1 : m_X8_add (nI l.length) arr 45 = _ := p1
    rw [if_pos hg, ob_s p1, if_neg g]
    exact ⟨a1, rfl, q1⟩
theorem x8_put_end {z : Pz} (hr : z.2.2.1 < 16) (hp : z.2.2.2.1 ≤ 64) (hh : z.2.2.2.2.1 < 1000000) (hn : z.2.2.2.2.2 < 1000000) (v1 : Int32) {l : List Nat} {arr : Nat → Int32} (h : wrP l arr) (hl : l.length + 24 ≤ 128) {ch : Nat} (hch : ch = if z.2.1 = 0 then 119 else 98) : ∃ arr', m_X8_put_b54 (nI l.length) arr v1 (nI z.2.2.1) (pI z.2.2.2.1) (nI z.2.2.2.2.1) (nI z.2.2.2.2.2) z.1 (nI ch) = some (nI (l ++ tlS z).length, nI (l ++ tlS z).length, arr') ∧ wrP (l ++ tlS z) arr' := by
  have n0 := psC_len z.2.2.2.1
  have n1 := nmS_len z.2.2.2.2.1
  have n2 := nmS_len z.2.2.2.2.2
  have n3 := rgC_len z.2.2.1 4 0
  have hc6 : ch < 65536 := by rw [hch]; split <;> omega
  obtain ⟨a1, p1, q1⟩ := x8_add h (by omega) hc6
  obtain ⟨a2, p2, q2⟩ := x8_add q1 (by simp only [List.length_append, List.length_singleton]; omega) (c := 32) (by omega)
  have p2 : m_X8_add (nI (l ++ [ch]).length) a1 32 = _ := p2
  obtain ⟨a3, p3, q3⟩ := addRights_l hr 4 0 (kF - 5) (l ++ [ch] ++ [32]) a2 (by omega) q2 (by simp only [List.length_append, List.length_singleton]; omega)
  have p3 : m_X8_addRights (nI (l ++ [ch] ++ [32]).length) a2 (nI z.2.2.1) = some (nI (l ++ [ch] ++ [32] ++ rgC z.2.2.1 4 0).length, a3) := p3
  obtain ⟨a4, p4, q4⟩ := x8_add q3 (by simp only [List.length_append, List.length_singleton]; omega) (c := 32) (by omega)
  have p4 : m_X8_add (nI (l ++ [ch] ++ [32] ++ rgC z.2.2.1 4 0).length) a3 32 = _ := p4
  obtain ⟨a5, p5, q5⟩ := x8_addPassed hp q4 (by simp only [List.length_append, List.length_singleton]; omega)
  obtain ⟨a6, p6, q6⟩ := x8_add q5 (by simp only [List.length_append, List.length_singleton]; omega) (c := 32) (by omega)
  have p6 : m_X8_add (nI (l ++ [ch] ++ [32] ++ rgC z.2.2.1 4 0 ++ [32] ++ psC z.2.2.2.1).length) a5 32 = _ := p6
  obtain ⟨a7, p7, q7⟩ := x8_addNumber hh q6 (by simp only [List.length_append, List.length_singleton]; omega)
  obtain ⟨a8, p8, q8⟩ := x8_add q7 (by simp only [List.length_append, List.length_singleton]; omega) (c := 32) (by omega)
  have p8 : m_X8_add (nI (l ++ [ch] ++ [32] ++ rgC z.2.2.1 4 0 ++ [32] ++ psC z.2.2.2.1 ++ [32] ++ nmS z.2.2.2.2.1).length) a7 32 = _ := p8
  obtain ⟨a9, p9, q9⟩ := x8_addNumber hn q8 (by simp only [List.length_append, List.length_singleton]; omega)
  have ee : l ++ [ch] ++ [32] ++ rgC z.2.2.1 4 0 ++ [32] ++ psC z.2.2.2.1 ++ [32] ++ nmS z.2.2.2.2.1 ++ [32] ++ nmS z.2.2.2.2.2 = l ++ tlS z := by
    unfold tlS
    rw [← hch]
    simp
  rw [ee] at p9 q9
  refine ⟨a9, ?_, q9⟩
  unfold m_X8_put_b54
  rw [ob_s p1]
  try dsimp only
  rw [ob_s p2]
  try dsimp only
  rw [ob_s p3]
  try dsimp only
  rw [ob_s p4]
  try dsimp only
  rw [ob_s p5]
  try dsimp only
  rw [ob_s p6]
  try dsimp only
  rw [ob_s p7]
  try dsimp only
  rw [ob_s p8]
  try dsimp only
  rw [ob_s p9]
theorem put_l8 {z : Pz} (hb : gbd z.1) (hc : z.2.1 < 2) (hr : z.2.2.1 < 16) (hp : z.2.2.2.1 ≤ 64) (hh : z.2.2.2.2.1 < 1000000) (hn : z.2.2.2.2.2 < 1000000) : ∀ (d n : Nat) (l : List Nat) (arr : Nat → Int32), d ≤ 8 → wrP l arr → l.length + 9 * d + 24 ≤ 128 → ∃ arr', m_X8_put_l8 (nI z.2.1) (nI z.2.2.1) (pI z.2.2.2.1) (nI z.2.2.2.2.1) (nI z.2.2.2.2.2) z.1 (n + d + 1) (nI l.length) arr (if d = 0 then -1 else nI (d - 1)) = some (nI (l ++ rsS z.1 d ++ tlS z).length, nI (l ++ rsS z.1 d ++ tlS z).length, arr') ∧ wrP (l ++ rsS z.1 d ++ tlS z) arr' := by
  intro d
  induction d with
  | zero =>
    intro n l arr _ h hl
    rw [if_pos rfl, m_X8_put_l8_s]
    unfold m_X8_put_b8
    rw [if_pos (by decide)]
    have e0 : l ++ rsS z.1 0 ++ tlS z = l ++ tlS z := by
      unfold rsS
      simp
    rw [e0]
    have : z.2.1 = 0 ∨ z.2.1 = 1 := by omega
    rcases this with q | q
    · have q0 : nI z.2.1 = 0 := by rw [q]; rfl
      rw [if_pos q0]
      exact x8_put_end hr hp hh hn (nI z.2.1) h (by omega) (ch := 119) (by rw [if_pos q])
    · have q0 : ¬ nI z.2.1 = 0 := by rw [q]; decide
      rw [if_neg q0]
      exact x8_put_end hr hp hh hn (nI z.2.1) h (by omega) (ch := 98) (by rw [if_neg (by omega)])
  | succ d ih =>
    intro n l arr hd h hl
    rw [if_neg (by omega), show d + 1 - 1 = d by omega, show n + (d + 1) + 1 = n + d + 1 + 1 from rfl, m_X8_put_l8_s]
    unfold m_X8_put_b8 m_X8_put_b30
    have hlen := rwS_len z.1 d 8 0 0
    rw [frC_0] at hlen
    simp at hlen
    obtain ⟨a1, p1, q1⟩ := x8_addRow hb (r := d) (by omega) h (by omega)
    obtain ⟨a2, p2, q2⟩ := x8_add q1 (by rw [List.length_append]; omega) (c := if d = 0 then 32 else 47) (by split <;> omega)
    obtain ⟨a3, i1, i2⟩ := ih n _ a2 (by omega) q2 (by simp only [List.length_append, List.length_singleton]; omega)
    have ee : l ++ rwS z.1 d 8 0 0 ++ [if d = 0 then 32 else 47] ++ rsS z.1 d ++ tlS z = l ++ rsS z.1 (d + 1) ++ tlS z := by
      show _ = l ++ (rwS z.1 d 8 0 0 ++ [if d = 0 then 32 else 47] ++ rsS z.1 d) ++ tlS z
      simp
    rw [ee] at i1 i2
    refine ⟨a3, ?_, i2⟩
    rw [if_neg (nI_pos (by omega)), ob_s p1]
    try dsimp only
    rw [← i1, m1_next]
    by_cases q : d = 0
    · subst q
      have p2 : m_X8_add (nI (l ++ rwS z.1 0 8 0 0).length) a1 32 = some (nI (l ++ rwS z.1 0 8 0 0 ++ [if 0 = 0 then 32 else 47]).length, a2) := p2
      rw [if_pos (by decide), ob_s p2]
      try dsimp only
      rw [ol_r]
    · rw [if_neg q] at p2
      have p2 : m_X8_add (nI (l ++ rwS z.1 d 8 0 0).length) a1 47 = _ := p2
      rw [if_neg (nI_nle (by omega) (by omega)), ob_s p2]
      try dsimp only
      rw [ol_r]
      rw [if_neg q, if_neg q]
theorem x8_put {z : Pz} (hb : gbd z.1) (hc : z.2.1 < 2) (hr : z.2.2.1 < 16) (hp : z.2.2.2.1 ≤ 64) (hh : z.2.2.2.2.1 < 1000000) (hn : z.2.2.2.2.2 < 1000000) (wl : Int32) (arr : Nat → Int32) : ∃ arr', m_X8_put wl arr (nI z.2.1) (nI z.2.2.1) (pI z.2.2.2.1) (nI z.2.2.2.2.1) (nI z.2.2.2.2.2) z.1 = some (nI (wrS z).length, nI (wrS z).length, arr') ∧ wrP (wrS z) arr' := by
  obtain ⟨a, e1, e2⟩ := put_l8 hb hc hr hp hh hn 8 (kF - 9) [] arr (by omega) (fun i c e => by simp at e) (by simp)
  rw [List.nil_append] at e1 e2
  exact ⟨a, e1, e2⟩
