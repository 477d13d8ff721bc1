/-! Both read characters alike: next, one character, a row of squares. -/
/-- n characters are typed -/
def tyP (ch : Nat → Nat) (len : Nat) (arr : Nat → Int32) : Prop := ∀ i, i < len → arr i = nI (ch i)
def chP (ch : Nat → Nat) (len : Nat) : Prop := len ≤ 128 ∧ ∀ i, i < len → 32 ≤ ch i ∧ ch i ≤ 126
/-- the next character; 0 at the end -/
def nx (ch : Nat → Nat) (len a : Nat) : Nat := if a < len then ch a else 0
theorem nx_le {ch : Nat → Nat} {len : Nat} (h : chP ch len) (a : Nat) : nx ch len a ≤ 126 := by
  unfold nx
  split
  · exact (h.2 a (by assumption)).2
  · omega
theorem nx_pos {ch : Nat → Nat} {len a : Nat} (h : nx ch len a ≠ 0) : a < len := by
  unfold nx at h
  split at h
  · assumption
  · exact absurd rfl h
theorem nx_c {ch : Nat → Nat} {len : Nat} (h : chP ch len) (a : Nat) : nx ch len a = 0 ∨ 32 ≤ nx ch len a := by
  unfold nx
  split
  · exact Or.inr (h.2 a (by assumption)).1
  · exact Or.inl rfl
theorem nx_end {ch : Nat → Nat} {len a : Nat} (h : chP ch len) (ha : a ≤ len) : nx ch len a = 0 ↔ a = len := by
  unfold nx
  by_cases q : a < len
  · have := (h.2 a q).1
    rw [if_pos q]
    omega
  · rw [if_neg q]
    omega
/-- as the class has it -/
def eI (q : Nat) : Int32 := if q = 0 then -1 else nI q
theorem eI_eq {q c : Nat} (hq : q ≤ 126) (hc : c ≤ 126) (h0 : c ≠ 0) : eI q = nI c ↔ q = c := by
  unfold eI
  by_cases g : q = 0
  · rw [if_pos g]
    constructor
    · intro h
      exact absurd (nI_pos' (n := c) (by omega)) (by rw [← h]; decide)
    · omega
  · rw [if_neg g]
    exact nI_eq (by omega) (by omega)
theorem x10_next {ch : Nat → Nat} {len : Nat} (h : chP ch len) {arr : Nat → Int32} (ht : tyP ch len arr) {a : Nat} (ha : a < 2 ^ 30) : m_X10_next (nI len) (nI a) arr = some (nI (nx ch len a)) := by
  have hl := h.1
  unfold m_X10_next m_X10_next_b24 nx
  by_cases q : a < len
  · rw [if_neg (nI_ge q (by omega)), oin_n (by omega) (by omega), nI_clamp (by omega), ht a q, if_pos q]
  · rw [if_pos (nI_le (by omega) (by omega)), if_neg q]
    rfl
theorem x5_next {ch : Nat → Nat} {len : Nat} (h : chP ch len) {arr : Nat → Int32} (ht : tyP ch len arr) {a : Nat} (ha : a < 2 ^ 30) : m_X5_next (nI len) (nI a) arr = some (eI (nx ch len a)) := by
  have hl := h.1
  unfold m_X5_next m_X5_next_b24 nx
  by_cases q : a < len
  · rw [if_neg (nI_ge q (by omega)), oin_n (by omega) (by omega), nI_clamp (by omega), ht a q, if_pos q]
    unfold eI
    rw [if_neg (by have := (h.2 a q).1; omega)]
  · rw [if_pos (nI_le (by omega) (by omega)), if_neg q]
    rfl
def skA (ch : Nat → Nat) (len a c : Nat) : Nat := if nx ch len a = c then a + 1 else a
theorem x10_takes {ch : Nat → Nat} {len : Nat} (h : chP ch len) {arr : Nat → Int32} (ht : tyP ch len arr) {a : Nat} (ha : a < 2 ^ 30) {c : Nat} (hc : c ≤ 126) : m_X10_takes (nI len) (nI a) arr (nI c) = some (bI (decide (nx ch len a = c)), nI (skA ch len a c)) := by
  have hx := nx_le h a
  have ce : nI (nx ch len a) = nI c ↔ nx ch len a = c := nI_eq (by omega) (by omega)
  unfold m_X10_takes m_X10_takes_b13 m_X10_takes_b32 skA
  rw [ob_s (x10_next h ht ha)]
  by_cases q : nx ch len a = c
  · rw [if_pos (ce.mpr q), if_neg (by decide), if_pos q, obl_1, nI_1]
    simp [q, bI]
  · rw [if_neg (fun g => q (ce.mp g)), if_pos (by decide), if_neg q, obl_0]
    simp [q, bI]
theorem x5_skip {ch : Nat → Nat} {len : Nat} (h : chP ch len) {arr : Nat → Int32} (ht : tyP ch len arr) {a : Nat} (ha : a < 2 ^ 30) {c : Nat} (hc : c ≤ 126) (h0 : c ≠ 0) : m_X5_skip (nI len) (nI a) arr (nI c) = some (bI (decide (nx ch len a = c)), nI (skA ch len a c)) := by
  have hx := nx_le h a
  have ce := eI_eq hx hc h0
  unfold m_X5_skip skA
  rw [ob_s (x5_next h ht ha)]
  by_cases q : nx ch len a = c
  · rw [if_pos (ce.mpr q), if_pos q, ol_r, obl_1, nI_1]
    simp [q, bI]
  · rw [if_neg (fun g => q (ce.mp g)), if_neg q, obl_0]
    simp [q, bI]
theorem skA_le {ch : Nat → Nat} {len a c : Nat} (ha : a ≤ len) (h0 : c ≠ 0) : skA ch len a c ≤ len := by
  unfold skA
  split
  · have := nx_pos (ch := ch) (len := len) (a := a) (by omega)
    omega
  · exact ha
/-- the man of a letter -/
def mnC (q : Nat) : Int32 := if q = 66 then 3 else if q = 75 then 6 else if q = 78 then 2 else if q = 80 then 1 else if q = 81 then 5 else if q = 82 then 4 else if q = 98 then -3 else if q = 107 then -6 else if q = 110 then -2 else if q = 112 then -1 else if q = 113 then -5 else if q = 114 then -4 else 0
set_option maxRecDepth 100000 in
theorem mn_tb : (List.range 127).all (fun q => decide (m_X10_manOf (nI q) = some (mnC q)) && decide (m_X5_manOf (eI q) = some (mnC q)) && decide (-6 ≤ (mnC q).toInt) && decide ((mnC q).toInt ≤ 6)) = true := by decide +kernel
theorem mn_all {q : Nat} (h : q ≤ 126) : m_X10_manOf (nI q) = some (mnC q) ∧ m_X5_manOf (eI q) = some (mnC q) ∧ mOK (mnC q) := by
  have := all_lt mn_tb (i := q) (by omega)
  simp only [Bool.and_eq_true, decide_eq_true_eq] at this
  exact ⟨this.1.1.1, this.1.1.2, this.1.2, this.2⟩
theorem mn_0 : mnC 0 = 0 := by decide
/-- a digit for free squares that is right here -/
def okD (q col : Nat) (aft : Bool) : Bool := decide (49 ≤ q) && decide (q ≤ 56) && !aft && decide (col + q ≤ 56)
/-- a row of squares: whether it is right, where it ends, the men -/
def rrS (ch : Nat → Nat) (len row : Nat) : Nat → Nat → Nat → Bool → (Nat → Int32) → Bool × Nat × (Nat → Int32)
  | 0, a, _, _, bd => (true, a, bd)
  | f + 1, a, col, aft, bd => if 8 ≤ col then (true, a, bd) else if mnC (nx ch len a) ≠ 0 then rrS ch len row f (a + 1) (col + 1) false (upd bd (8 * row + col) (mnC (nx ch len a))) else if okD (nx ch len a) col aft then rrS ch len row f (a + 1) (col + (nx ch len a - 48)) true bd else (false, a, bd)
/-- the squares of a row from a column on, and of the rows below, are free -/
def frP (bd : Nat → Int32) (row col : Nat) : Prop := ∀ s, s < 8 * row + 8 → (8 * row + col ≤ s ∨ s < 8 * row) → bd s = 0
theorem frP_up {bd : Nat → Int32} {row col : Nat} (h : frP bd row col) (hc : col < 8) (m : Int32) : frP (upd bd (8 * row + col) m) row (col + 1) := by
  intro s hs h2
  rw [pk_un (by omega)]
  exact h s hs (by omega)
theorem frP_le {bd : Nat → Int32} {row col col' : Nat} (h : frP bd row col) (hc : col ≤ col') : frP bd row col' := fun s hs h2 => h s hs (by omega)
theorem readRow_l {ch : Nat → Nat} {len : Nat} (h : chP ch len) {arr : Nat → Int32} (ht : tyP ch len arr) {row : Nat} (hr : row < 8) : ∀ (f n a col : Nat) (aft : Bool) (bd : Nat → Int32), 8 ≤ col + f → col ≤ 8 → a ≤ len → gbd bd → frP bd row col → m_X10_readRow_l4 (nI len) arr (n + f + 1) (nI a) bd (nI row) (nI col) (bI aft) = some (bI (rrS ch len row f a col aft bd).1, nI (rrS ch len row f a col aft bd).2.1, (rrS ch len row f a col aft bd).2.2) ∧ (rrS ch len row f a col aft bd).2.1 ≤ len ∧ gbd (rrS ch len row f a col aft bd).2.2 ∧ ((rrS ch len row f a col aft bd).1 = true → frP (rrS ch len row f a col aft bd).2.2 row 8) := by
  have hl := h.1
  intro f
  induction f with
  | zero =>
    intro n a col aft bd hf hc ha hg hfr
    have : col = 8 := by omega
    subst this
    refine ⟨?_, ha, hg, fun _ => hfr⟩
    rw [m_X10_readRow_l4_s]
    unfold m_X10_readRow_b4
    rw [if_pos (by decide)]
    rfl
  | succ f ih =>
    intro n a col aft bd hf hc ha hg hfr
    rw [show n + (f + 1) + 1 = n + f + 1 + 1 from rfl, m_X10_readRow_l4_s]
    unfold m_X10_readRow_b4 rrS
    by_cases q8 : 8 ≤ col
    · have : col = 8 := by omega
      subst this
      rw [if_pos (by decide), if_pos (Nat.le_refl 8)]
      exact ⟨rfl, ha, hg, fun _ => hfr⟩
    · have hn8 : ¬ (8 : Int32) ≤ nI col := nI_ge (b := 8) (by omega) (by omega)
      have hx := nx_le h a
      obtain ⟨m1, m2, m3⟩ := mn_all hx
      have ei : 8 * nI row + nI col = nI (8 * row + col) := by
        have : 8 * nI row = nI (8 * row) := pk_mul 8 row
        rw [this, nI_add]
      rw [if_neg hn8, if_neg q8, ob_s (x10_next h ht (by omega)), ob_s m1]
      unfold m_X10_readRow_b57 m_X10_readRow_b58 m_X10_readRow_b72 m_X10_readRow_b113 m_X10_readRow_b124
      simp only [ol_r, nI_1, ei, oin_n (show 8 * row + col < 64 by omega) (show 64 < 2 ^ 31 by omega), nI_clamp (show 8 * row + col < 2 ^ 31 by omega)]
      have hsame : bd (8 * row + col) = 0 := hfr _ (by omega) (Or.inl (Nat.le_refl _))
      by_cases qm : mnC (nx ch len a) = 0
      · rw [qm]
        simp only [if_true, ne_eq, not_true, if_false]
        have hus : upd bd (8 * row + col) 0 = bd := upd_same hsame
        rw [hus]
        have c1 : nI (nx ch len a) < 49 ↔ nx ch len a < 49 := nI_ltI (b := 49) (by omega) (by omega)
        have c2 : (56 : Int32) < nI (nx ch len a) ↔ 56 < nx ch len a := nI_ltI (a := 56) (by omega) (by omega)
        simp only [c1, c2]
        unfold okD
        by_cases g1 : nx ch len a < 49
        · have : ¬ 49 ≤ nx ch len a := by omega
          simp only [g1, this, if_true, decide_false, Bool.false_and, Bool.false_eq_true, if_false]
          exact ⟨rfl, ha, hg, fun g => (by cases g)⟩
        · have g1' : 49 ≤ nx ch len a := by omega
          by_cases g2 : 56 < nx ch len a
          · have : ¬ nx ch len a ≤ 56 := by omega
            simp only [g1, g1', g2, this, if_true, if_false, decide_true, decide_false, Bool.false_and, Bool.true_and, Bool.false_eq_true]
            exact ⟨rfl, ha, hg, fun g => (by cases g)⟩
          · have g2' : nx ch len a ≤ 56 := by omega
            simp only [g1, g1', g2, g2', if_false, decide_true, Bool.true_and]
            cases aft with
            | true =>
              have e1 : ¬ bI true = 0 := by decide
              rw [if_neg e1]
              simp only [Bool.not_true, Bool.false_and, Bool.false_eq_true, if_false, if_true]
              exact ⟨rfl, ha, hg, fun g => (by cases g)⟩
            | false =>
              have e1 : bI false = 0 := by decide
              rw [if_pos e1]
              have es : (nI col + nI (nx ch len a)) - 48 = nI (col + nx ch len a - 48) := by
                rw [nI_add]
                exact pk_sub (b := 48) (by omega)
              have c3 : (8 : Int32) < nI (col + nx ch len a - 48) ↔ 8 < col + nx ch len a - 48 := nI_ltI (a := 8) (by omega) (by omega)
              rw [es]
              simp only [c3, Bool.not_false, Bool.true_and]
              by_cases g3 : 8 < col + nx ch len a - 48
              · have : ¬ col + nx ch len a ≤ 56 := by omega
                simp only [g3, this, if_true, decide_false, Bool.false_eq_true, if_false]
                exact ⟨rfl, ha, hg, fun g => (by cases g)⟩
              · have g3' : col + nx ch len a ≤ 56 := by omega
                simp only [g3, g3', if_false, decide_true, if_true]
                have hal := nx_pos (ch := ch) (len := len) (a := a) (by omega)
                rw [if_neg (by decide), show col + nx ch len a - 48 = col + (nx ch len a - 48) by omega]
                exact ih n (a + 1) (col + (nx ch len a - 48)) true bd (by omega) (by omega) (by omega) hg (frP_le hfr (by omega))
      · have hal : a < len := nx_pos (ch := ch) (len := len) (a := a) (by
          intro e
          rw [e, mn_0] at qm
          exact qm rfl)
        simp only [qm, if_false, ne_eq, not_false_eq_true, if_true]
        have := ih n (a + 1) (col + 1) false (upd bd (8 * row + col) (mnC (nx ch len a))) (by omega) (by omega) (by omega) (gbd_upd hg (by omega) m3) (frP_up hfr (by omega) _)
        by_cases g1 : nI (nx ch len a) < 49
        · simp only [g1, if_true]
          exact this
        · by_cases g2 : (56 : Int32) < nI (nx ch len a)
          · simp only [g1, g2, if_false, if_true]
            exact this
          · simp only [g1, g2, if_false]
            cases aft with
            | true =>
              have e1 : ¬ bI true = 0 := by decide
              rw [if_neg e1]
              exact this
            | false =>
              have e1 : bI false = 0 := by decide
              rw [if_pos e1]
              by_cases g3 : (8 : Int32) < (nI col + nI (nx ch len a)) - 48
              · rw [if_pos g3]; exact this
              · rw [if_neg g3]; exact this
theorem creadRow_l {ch : Nat → Nat} {len : Nat} (h : chP ch len) {arr : Nat → Int32} (ht : tyP ch len arr) {tab : Nat → Int32} (hB : tbP tab) {row : Nat} (hr : row < 8) : ∀ (f n a col : Nat) (aft : Bool) (bd : Nat → Int32) (bal : Int32) (kinds sides : Nat → Int64), 8 ≤ col + f → col ≤ 8 → a ≤ len → gbd bd → frP bd row col → clP bd bal kinds sides → ∃ (bal' : Int32) (kinds' sides' : Nat → Int64), m_X5_readRow_l4 (nI len) arr tab (n + f + 1) (nI a) bal bd kinds sides (nI row) (bI aft) (nI col) = some (bI (rrS ch len row f a col aft bd).1, nI (rrS ch len row f a col aft bd).2.1, bal', (rrS ch len row f a col aft bd).2.2, kinds', sides') ∧ clP (rrS ch len row f a col aft bd).2.2 bal' kinds' sides' := by
  have hl := h.1
  intro f
  induction f with
  | zero =>
    intro n a col aft bd bal kinds sides hf hc ha hg hfr hC
    have : col = 8 := by omega
    subst this
    refine ⟨bal, kinds, sides, ?_, hC⟩
    rw [m_X5_readRow_l4_s]
    unfold m_X5_readRow_b4
    rw [if_pos (by decide)]
    rfl
  | succ f ih =>
    intro n a col aft bd bal kinds sides hf hc ha hg hfr hC
    rw [show n + (f + 1) + 1 = n + f + 1 + 1 from rfl, m_X5_readRow_l4_s]
    unfold m_X5_readRow_b4 rrS
    by_cases q8 : 8 ≤ col
    · have : col = 8 := by omega
      subst this
      rw [if_pos (by decide), if_pos (Nat.le_refl 8)]
      exact ⟨bal, kinds, sides, rfl, hC⟩
    · have hn8 : ¬ (8 : Int32) ≤ nI col := nI_ge (b := 8) (by omega) (by omega)
      have hx := nx_le h a
      obtain ⟨m1, m2, m3⟩ := mn_all hx
      have ei : (8 : Int32) * nI row + nI col = nI (8 * row + col) := by
        have : 8 * nI row = nI (8 * row) := pk_mul 8 row
        rw [this, nI_add]
      have hsame : bd (8 * row + col) = 0 := hfr _ (by omega) (Or.inl (Nat.le_refl _))
      rw [if_neg hn8, if_neg q8, ob_s (x5_next h ht (by omega)), ol_r, ob_s (x5_next h ht (by omega)), ob_s m2]
      unfold m_X5_readRow_b81 m_X5_readRow_b83 m_X5_readRow_b93
      by_cases qm : mnC (nx ch len a) = 0
      · rw [qm]
        simp only [if_true, ne_eq, not_true, if_false, ol_r, nI_1]
        have fail : okD (nx ch len a) col aft = false → ∃ (bal' : Int32) (kinds' sides' : Nat → Int64), obl 0 (some ((0 : Int32), nI a, bal, bd, kinds, sides)) = some (bI (if okD (nx ch len a) col aft = true then rrS ch len row f (a + 1) (col + (nx ch len a - 48)) true bd else (false, a, bd)).1, nI (if okD (nx ch len a) col aft = true then rrS ch len row f (a + 1) (col + (nx ch len a - 48)) true bd else (false, a, bd)).2.1, bal', (if okD (nx ch len a) col aft = true then rrS ch len row f (a + 1) (col + (nx ch len a - 48)) true bd else (false, a, bd)).2.2, kinds', sides') ∧ clP (if okD (nx ch len a) col aft = true then rrS ch len row f (a + 1) (col + (nx ch len a - 48)) true bd else (false, a, bd)).2.2 bal' kinds' sides' := by
          intro e
          rw [e]
          simp only [Bool.false_eq_true, if_false]
          exact ⟨bal, kinds, sides, rfl, hC⟩
        by_cases g1 : nx ch len a < 49
        · have l1 : eI (nx ch len a) - 48 < 1 := by
            unfold eI
            by_cases g : nx ch len a = 0
            · rw [if_pos g]; decide
            · rw [if_neg g]
              rcases Nat.lt_or_ge (nx ch len a) 48 with z | z
              · have : nI (nx ch len a) - 48 < 0 := pk_sneg (b := 48) (by omega) z
                exact Int32.lt_trans this (by decide)
              · have : nI (nx ch len a) - 48 = nI (nx ch len a - 48) := pk_sub (b := 48) z
                rw [this]
                exact nI_lt (b := 1) (by omega) (by omega)
          rw [if_pos l1]
          exact fail (by unfold okD; have : ¬ 49 ≤ nx ch len a := by omega
                         simp [this])
        · have e0 : eI (nx ch len a) = nI (nx ch len a) := if_neg (by omega)
          have es : nI (nx ch len a) - 48 = nI (nx ch len a - 48) := pk_sub (b := 48) (by omega)
          have l1 : ¬ nI (nx ch len a - 48) < 1 := nI_nlt (b := 1) (by omega) (by omega)
          have e8 : (8 : Int32) - nI col = nI (8 - col) := pk_sub (a := 8) (by omega)
          have c3 : nI (8 - col) < nI (nx ch len a - 48) ↔ 8 - col < nx ch len a - 48 := nI_ltI (by omega) (by omega)
          rw [e0, es, if_neg l1, e8]
          by_cases g3 : 8 - col < nx ch len a - 48
          · rw [if_pos (c3.mpr g3)]
            exact fail (by unfold okD; have : ¬ col + nx ch len a ≤ 56 := by omega
                           simp [this])
          · rw [if_neg (fun g => g3 (c3.mp g))]
            cases aft with
            | true =>
              have e1 : ¬ bI true = 0 := by decide
              rw [if_neg e1]
              exact fail (by unfold okD; simp)
            | false =>
              have e1 : bI false = 0 := by decide
              have hok : okD (nx ch len a) col false = true := by
                unfold okD
                have w1 : 49 ≤ nx ch len a := by omega
                have w2 : nx ch len a ≤ 56 := by omega
                have w3 : col + nx ch len a ≤ 56 := by omega
                simp [w1, w2, w3]
              have hal := nx_pos (ch := ch) (len := len) (a := a) (by omega)
              rw [if_pos e1, nI_add, hok]
              simp only [if_true]
              have w2 : nx ch len a ≤ 56 := by omega
              exact ih n (a + 1) (col + (nx ch len a - 48)) true bd bal kinds sides (by omega) (by omega) (by omega) hg (frP_le hfr (by omega)) hC
      · have hal : a < len := nx_pos (ch := ch) (len := len) (a := a) (by
          intro e
          rw [e, mn_0] at qm
          exact qm rfl)
        obtain ⟨bal2, kinds2, sides2, p1, p2⟩ := x0_put hB hC (s := 8 * row + col) (by omega) hsame m3 qm
        rw [if_neg qm, ei, ob_s p1]
        try dsimp only
        simp only [qm, if_false, ne_eq, not_false_eq_true, if_true, ol_r, nI_1]
        exact ih n (a + 1) (col + 1) false (upd bd (8 * row + col) (mnC (nx ch len a))) bal2 kinds2 sides2 (by omega) (by omega) (by omega) (gbd_upd hg (by omega) m3) (frP_up hfr (by omega) _) p2
