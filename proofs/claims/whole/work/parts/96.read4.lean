/-! Both read the passed square and the numbers alike. -/
def psR (ch : Nat → Nat) (len a : Nat) : Bool × Nat × Nat := if nx ch len a = 45 then (true, a + 1, 64) else if 97 ≤ nx ch len a ∧ nx ch len a ≤ 104 then (if 49 ≤ nx ch len (a + 1) ∧ nx ch len (a + 1) ≤ 56 then (true, a + 2, 8 * (nx ch len (a + 1) - 49) + (nx ch len a - 97)) else (false, a + 1, 64)) else (false, a, 64)
theorem psR_le {ch : Nat → Nat} {len a : Nat} (ha : a ≤ len) : (psR ch len a).2.1 ≤ len ∧ (psR ch len a).2.2 ≤ 64 := by
  have p1 := nx_pos (ch := ch) (len := len) (a := a)
  have p2 := nx_pos (ch := ch) (len := len) (a := a + 1)
  unfold psR
  by_cases q : nx ch len a = 45
  · rw [if_pos q]; exact ⟨p1 (by omega), by dsimp only; omega⟩
  · rw [if_neg q]
    by_cases g : 97 ≤ nx ch len a ∧ nx ch len a ≤ 104
    · rw [if_pos g]
      by_cases w : 49 ≤ nx ch len (a + 1) ∧ nx ch len (a + 1) ≤ 56
      · rw [if_pos w]
        refine ⟨p2 (by omega), ?_⟩
        show 8 * (nx ch len (a + 1) - 49) + (nx ch len a - 97) ≤ 64
        omega
      · rw [if_neg w]; exact ⟨p1 (by omega), by dsimp only; omega⟩
    · rw [if_neg g]; exact ⟨ha, by dsimp only; omega⟩
theorem x10_readSquare {ch : Nat → Nat} {len : Nat} (h : chP ch len) {arr : Nat → Int32} (ht : tyP ch len arr) {a : Nat} (ha : a ≤ len) (v : Int32) : m_X10_readSquare (nI len) (nI a) v arr = some (bI (th ch len (psR ch len a)).1, nI (th ch len (psR ch len a)).2.1, pI (th ch len (psR ch len a)).2.2) := by
  have hl := h.1
  have hx := nx_le h a
  have hx2 := nx_le h (a + 1)
  have p1 := nx_pos (ch := ch) (len := len) (a := a)
  have p2 := nx_pos (ch := ch) (len := len) (a := a + 1)
  have tail : ∀ (b c : Nat), b ≤ len → (ob (m_X10_takes (nI len) (nI b) arr 32) fun (p : Int32 × Int32) => obl p.1 (some (p.1, p.2, pI c))) = some (bI (th ch len (true, b, c)).1, nI (th ch len (true, b, c)).2.1, pI (th ch len (true, b, c)).2.2) := by
    intro b c hb
    rw [ob_s (x10_tk h ht (by omega) 32 32 rfl (by omega))]
    try dsimp only
    rw [obl_b]
    unfold skA th
    rw [if_pos rfl]
    dsimp only
    by_cases q : nx ch len b = 32
    · rw [decide_eq_true q, if_pos q, if_pos q]
    · rw [decide_eq_false q, if_neg q, if_neg q]
  unfold m_X10_readSquare m_X10_readSquare_b38 m_X10_readSquare_b67
  rw [ob_s (x10_tk h ht (by omega) 45 45 rfl (by omega))]
  try dsimp only
  unfold skA psR
  by_cases q : nx ch len a = 45
  · rw [decide_eq_true q, if_neg bI_tn, if_pos q, if_pos q]
    exact tail (a + 1) 64 (p1 (by omega))
  · rw [decide_eq_false q, if_pos bI_fz, if_neg q, if_neg q, ob_s (x10_next h ht (by omega))]
    have c1 : nI (nx ch len a) < 97 ↔ nx ch len a < 97 := nI_ltI (b := 97) (by omega) (by omega)
    have c2 : nI (nx ch len a) ≤ 104 ↔ nx ch len a ≤ 104 := nI_leI (b := 104) (by omega) (by omega)
    by_cases g1 : nx ch len a < 97
    · rw [if_pos (c1.mpr g1), if_neg (by omega)]
      rfl
    · rw [if_neg (fun w => g1 (c1.mp w))]
      by_cases g2 : nx ch len a ≤ 104
      · have pa := p1 (by omega)
        rw [if_pos (c2.mpr g2), if_pos (by omega), ol_r, nI_1, ob_s (x10_next h ht (by omega))]
        have c3 : nI (nx ch len (a + 1)) < 49 ↔ nx ch len (a + 1) < 49 := nI_ltI (b := 49) (by omega) (by omega)
        have c4 : nI (nx ch len (a + 1)) ≤ 56 ↔ nx ch len (a + 1) ≤ 56 := nI_leI (b := 56) (by omega) (by omega)
        by_cases w1 : nx ch len (a + 1) < 49
        · rw [if_pos (c3.mpr w1), if_neg (by omega)]
          rfl
        · rw [if_neg (fun w => w1 (c3.mp w))]
          by_cases w2 : nx ch len (a + 1) ≤ 56
          · rw [if_pos (c4.mpr w2), if_pos (by omega), ol_r, ol_r, nI_1]
            have e1 : nI (nx ch len (a + 1)) - 49 = nI (nx ch len (a + 1) - 49) := pk_sub (b := 49) (by omega)
            have e2 : 8 * nI (nx ch len (a + 1) - 49) = nI (8 * (nx ch len (a + 1) - 49)) := pk_mul 8 _
            have e3 : nI (8 * (nx ch len (a + 1) - 49) + nx ch len a) - 97 = nI (8 * (nx ch len (a + 1) - 49) + nx ch len a - 97) := pk_sub (b := 97) (by omega)
            have e4 : 8 * (nx ch len (a + 1) - 49) + nx ch len a - 97 = 8 * (nx ch len (a + 1) - 49) + (nx ch len a - 97) := by omega
            have e5 : nI (8 * (nx ch len (a + 1) - 49) + (nx ch len a - 97)) = pI (8 * (nx ch len (a + 1) - 49) + (nx ch len a - 97)) := (pI_lt (by omega)).symm
            rw [e1, e2, nI_add, e3, e4, e5]
            exact tail (a + 1 + 1) _ (p2 (by omega))
          · rw [if_neg (fun w => w2 (c4.mp w)), if_neg (by omega)]
            rfl
      · rw [if_neg (fun w => g2 (c2.mp w)), if_neg (by omega)]
        rfl
theorem m1_tb : (List.range 127).all (fun k => decide ((-1 : Int32) - nI k < 0)) = true := by decide +kernel
theorem m1_off {k : Nat} (h : k ≤ 126) : (-1 : Int32) - nI k < 0 := of_decide_eq_true (all_lt m1_tb (i := k) (by omega))
theorem nI_nm1 {n : Nat} (h : n < 2 ^ 31) : ¬ nI n = -1 := fun e => absurd (show nI n < 0 by rw [e]; decide) (nI_nlt (b := 0) (by omega) (by omega))
theorem eI_off {q k : Nat} (hq : q ≤ 126) (hk : k ≤ 126) (h1 : 1 ≤ k) : (eI q - nI k < 0 ↔ q < k) ∧ (k ≤ q → eI q - nI k = nI (q - k)) := by
  unfold eI
  by_cases g : q = 0
  · rw [if_pos g]
    refine ⟨⟨fun _ => by omega, fun _ => ?_⟩, fun w => by omega⟩
    have : ((-1 : Int32) - nI k) < 0 := m1_off hk
    exact this
  · rw [if_neg g]
    refine ⟨⟨fun w => ?_, fun w => pk_sneg (by omega) w⟩, fun w => pk_sub w⟩
    rcases Nat.lt_or_ge q k with z | z
    · exact z
    · rw [pk_sub z] at w
      exact absurd w (nI_nlt (b := 0) (by omega) (by omega))
theorem x5_readPassed {ch : Nat → Nat} {len : Nat} (h : chP ch len) {arr : Nat → Int32} (ht : tyP ch len arr) {a : Nat} (ha : a ≤ len) : m_X5_readPassed (nI len) (nI a) arr (-1) = some (bI (psR ch len a).1, nI (psR ch len a).2.1, pI (psR ch len a).2.2) := by
  have hl := h.1
  have hx := nx_le h a
  have hx2 := nx_le h (a + 1)
  have p1 := nx_pos (ch := ch) (len := len) (a := a)
  have p2 := nx_pos (ch := ch) (len := len) (a := a + 1)
  unfold m_X5_readPassed m_X5_readPassed_b29 m_X5_readPassed_b59
  rw [ob_s (x5_sk h ht (by omega) 45 45 rfl (by omega) (by omega))]
  try dsimp only
  unfold skA psR
  by_cases q : nx ch len a = 45
  · rw [decide_eq_true q, if_neg bI_tn, if_pos q, if_pos q]
    rfl
  · rw [decide_eq_false q, if_pos bI_fz, if_neg q, if_neg q, ob_s (x5_next h ht (by omega)), ol_r]
    obtain ⟨c1, c1'⟩ : (eI (nx ch len a) - 97 < 0 ↔ nx ch len a < 97) ∧ (97 ≤ nx ch len a → eI (nx ch len a) - 97 = nI (nx ch len a - 97)) := eI_off (k := 97) hx (by omega) (by omega)
    by_cases g1 : nx ch len a < 97
    · rw [if_pos (c1.mpr g1), if_neg (by omega)]
      rfl
    · have c2 : nI (nx ch len a - 97) ≤ 7 ↔ nx ch len a - 97 ≤ 7 := nI_leI (b := 7) (by omega) (by omega)
      rw [if_neg (fun w => g1 (c1.mp w)), c1' (by omega)]
      by_cases g2 : nx ch len a ≤ 104
      · have pa := p1 (by omega)
        rw [if_pos (c2.mpr (by omega)), if_pos (by omega), ol_r, nI_1, ob_s (x5_next h ht (by omega)), ol_r]
        obtain ⟨c3, c3'⟩ : (eI (nx ch len (a + 1)) - 49 < 0 ↔ nx ch len (a + 1) < 49) ∧ (49 ≤ nx ch len (a + 1) → eI (nx ch len (a + 1)) - 49 = nI (nx ch len (a + 1) - 49)) := eI_off (k := 49) hx2 (by omega) (by omega)
        by_cases w1 : nx ch len (a + 1) < 49
        · rw [if_pos (c3.mpr w1), if_neg (by omega)]
          rfl
        · have c4 : nI (nx ch len (a + 1) - 49) ≤ 7 ↔ nx ch len (a + 1) - 49 ≤ 7 := nI_leI (b := 7) (by omega) (by omega)
          rw [if_neg (fun w => w1 (c3.mp w)), c3' (by omega)]
          by_cases w2 : nx ch len (a + 1) ≤ 56
          · have e2 : 8 * nI (nx ch len (a + 1) - 49) = nI (8 * (nx ch len (a + 1) - 49)) := pk_mul 8 _
            have e5 : nI (8 * (nx ch len (a + 1) - 49) + (nx ch len a - 97)) = pI (8 * (nx ch len (a + 1) - 49) + (nx ch len a - 97)) := (pI_lt (by omega)).symm
            rw [if_pos (c4.mpr (by omega)), if_pos (by omega), ol_r, ol_r, nI_1, e2, nI_add, e5]
            rfl
          · rw [if_neg (fun w => w2 (by have := c4.mp w; omega)), if_neg (by omega)]
            rfl
      · rw [if_neg (fun w => g2 (by have := c2.mp w; omega)), if_neg (by omega)]
        rfl
def dgB (q : Nat) : Bool := decide (48 ≤ q) && decide (q ≤ 57)
/-- further digits -/
def dgR (ch : Nat → Nat) (len : Nat) : Nat → Nat → Nat → Bool × Nat × Nat
  | 0, a, x => (true, a, x)
  | f + 1, a, x => if x = 0 then (true, a, x) else if dgB (nx ch len a) then (if 10 * x + (nx ch len a - 48) ≤ 9999 then dgR ch len f (a + 1) (10 * x + (nx ch len a - 48)) else (false, a, 0)) else (true, a, x)
def nuR (ch : Nat → Nat) (len lo a : Nat) : Bool × Nat × Nat := if dgB (nx ch len a) && decide (lo ≤ nx ch len a - 48) then dgR ch len (len - (a + 1)) (a + 1) (nx ch len a - 48) else (false, a, 0)
def vI (r : Bool × Nat × Nat) : Int32 := if r.1 then nI r.2.2 else -1
theorem dgB_iff (q : Nat) : dgB q = true ↔ 48 ≤ q ∧ q ≤ 57 := by unfold dgB; simp
theorem dgR_le {ch : Nat → Nat} {len : Nat} : ∀ (f a x : Nat), a ≤ len → x ≤ 9999 → (dgR ch len f a x).2.1 ≤ len ∧ (dgR ch len f a x).2.2 ≤ 9999 ∧ (1 ≤ x → (dgR ch len f a x).1 = true → 1 ≤ (dgR ch len f a x).2.2)
  | 0, a, x, ha, hx => ⟨ha, hx, fun h _ => h⟩
  | f + 1, a, x, ha, hx => by
    unfold dgR
    by_cases g : x = 0
    · rw [if_pos g]; exact ⟨ha, hx, fun h _ => h⟩
    · rw [if_neg g]
      by_cases w : dgB (nx ch len a) = true
      · rw [if_pos w]
        have w' := (dgB_iff _).mp w
        have pa := nx_pos (ch := ch) (len := len) (a := a) (by omega)
        by_cases z : 10 * x + (nx ch len a - 48) ≤ 9999
        · rw [if_pos z]
          obtain ⟨i1, i2, i3⟩ := dgR_le (ch := ch) f (a + 1) _ pa z
          exact ⟨i1, i2, fun _ => i3 (by omega)⟩
        · rw [if_neg z]
          exact ⟨ha, by show (0 : Nat) ≤ 9999; omega, fun _ e => (by cases e)⟩
      · rw [if_neg w]; exact ⟨ha, hx, fun h _ => h⟩
theorem nuR_le {ch : Nat → Nat} {len lo a : Nat} (ha : a ≤ len) : (nuR ch len lo a).2.1 ≤ len ∧ (nuR ch len lo a).2.2 ≤ 9999 ∧ (1 ≤ lo → (nuR ch len lo a).1 = true → 1 ≤ (nuR ch len lo a).2.2) := by
  unfold nuR
  by_cases g : (dgB (nx ch len a) && decide (lo ≤ nx ch len a - 48)) = true
  · rw [if_pos g]
    simp only [Bool.and_eq_true, dgB_iff, decide_eq_true_eq] at g
    have pa := nx_pos (ch := ch) (len := len) (a := a) (by omega)
    obtain ⟨i1, i2, i3⟩ := dgR_le (ch := ch) (len := len) (len - (a + 1)) (a + 1) (nx ch len a - 48) pa (by omega)
    exact ⟨i1, i2, fun h => i3 (by omega)⟩
  · rw [if_neg g]
    exact ⟨ha, by show (0 : Nat) ≤ 9999; omega, fun _ e => (by cases e)⟩
theorem x10_isDigit {q : Nat} (h : q ≤ 126) : m_X10_isDigit (nI q) = some (bI (dgB q)) := by
  have c1 : nI q < 48 ↔ q < 48 := nI_ltI (b := 48) (by omega) (by omega)
  have c2 : (57 : Int32) < nI q ↔ 57 < q := nI_ltI (a := 57) (by omega) (by omega)
  unfold m_X10_isDigit m_X10_isDigit_b16 m_X10_isDigit_b17 dgB
  simp only [c1, c2]
  by_cases g : q < 48
  · rw [if_pos g, decide_eq_false (show ¬ 48 ≤ q by omega)]
    rfl
  · rw [if_neg g, decide_eq_true (show 48 ≤ q by omega)]
    by_cases w : 57 < q
    · rw [if_pos w, decide_eq_false (show ¬ q ≤ 57 by omega)]
      rfl
    · rw [if_neg w, decide_eq_true (show q ≤ 57 by omega)]
      rfl
theorem numberFrom_l {ch : Nat → Nat} {len : Nat} (h : chP ch len) {arr : Nat → Int32} (ht : tyP ch len arr) : ∀ (f n a x : Nat), a + f = len → x ≤ 9999 → m_X10_numberFrom_l35 (nI len) arr (n + f + 1) (nI a) (nI x) = some (vI (dgR ch len f a x), nI (dgR ch len f a x).2.1) := by
  have hl := h.1
  intro f
  induction f with
  | zero =>
    intro n a x ha hx
    have hn0 : nx ch len a = 0 := (nx_end h (by omega)).mpr (by omega)
    rw [m_X10_numberFrom_l35_s]
    unfold m_X10_numberFrom_b35 m_X10_numberFrom_b95 dgR vI
    rw [if_pos rfl]
    by_cases g : nI x ≤ 0
    · rw [if_pos g]
    · rw [if_neg g, ob_s (x10_next h ht (by omega)), hn0, ob_s (x10_isDigit (by omega))]
      rfl
  | succ f ih =>
    intro n a x ha hx
    have hq := nx_le h a
    rw [show n + (f + 1) + 1 = n + f + 1 + 1 from rfl, m_X10_numberFrom_l35_s]
    unfold m_X10_numberFrom_b35 m_X10_numberFrom_b95 dgR
    by_cases g : x = 0
    · subst g
      rw [if_pos (by decide), if_pos rfl]
      rfl
    · have g' : ¬ nI x ≤ 0 := nI_ge (a := 0) (by omega) (by omega)
      rw [if_neg g', if_neg g, ob_s (x10_next h ht (by omega)), ob_s (x10_isDigit hq)]
      by_cases w : dgB (nx ch len a) = true
      · have w' := (dgB_iff _).mp w
        have e1 : (10 : Int32) * nI x = nI (10 * x) := pk_mul 10 x
        have e2 : nI (10 * x + nx ch len a) - 48 = nI (10 * x + nx ch len a - 48) := pk_sub (b := 48) (by omega)
        have e3 : 10 * x + nx ch len a - 48 = 10 * x + (nx ch len a - 48) := by omega
        have c4 : nI (10 * x + (nx ch len a - 48)) ≤ 9999 ↔ 10 * x + (nx ch len a - 48) ≤ 9999 := nI_leI (b := 9999) (by omega) (by omega)
        rw [w, if_neg bI_tn, if_pos rfl, ob_s (x10_next h ht (by omega)), e1, nI_add, e2, e3]
        by_cases z : 10 * x + (nx ch len a - 48) ≤ 9999
        · rw [if_pos (c4.mpr z), if_pos z, ob_s (x10_next h ht (by omega)), ol_r, ol_r, nI_1, nI_add, e2, e3]
          exact ih n (a + 1) _ (by omega) z
        · rw [if_neg (fun y => z (c4.mp y)), if_neg z]
          rfl
      · have : dgB (nx ch len a) = false := by cases e : dgB (nx ch len a) with | true => exact absurd e w | false => rfl
        rw [this, if_pos bI_fz, if_neg (by decide)]
        rfl
theorem x10_numberFrom {ch : Nat → Nat} {len : Nat} (h : chP ch len) {arr : Nat → Int32} (ht : tyP ch len arr) {a : Nat} (ha : a ≤ len) {lo : Nat} (hlo : lo ≤ 1) : m_X10_numberFrom (nI len) (nI a) arr (nI lo) = some (vI (nuR ch len lo a), nI (nuR ch len lo a).2.1) := by
  have hl := h.1
  have hq := nx_le h a
  unfold m_X10_numberFrom m_X10_numberFrom_b23 nuR
  rw [ob_s (x10_next h ht (by omega)), ol_r, ob_s (x10_next h ht (by omega)), ob_s (x10_isDigit hq)]
  by_cases w : dgB (nx ch len a) = true
  · have w' := (dgB_iff _).mp w
    have pa := nx_pos (ch := ch) (len := len) (a := a) (by omega)
    have e1 : nI (nx ch len a) - 48 = nI (nx ch len a - 48) := pk_sub (b := 48) (by omega)
    have c1 : nI lo ≤ nI (nx ch len a - 48) ↔ lo ≤ nx ch len a - 48 := nI_leI (by omega) (by omega)
    rw [w, if_neg bI_tn, e1, Bool.true_and]
    by_cases z : lo ≤ nx ch len a - 48
    · rw [if_pos (c1.mpr z), decide_eq_true z, if_pos rfl, ol_r, nI_1]
      have e : kF = kF - (len - (a + 1)) - 1 + (len - (a + 1)) + 1 := by unfold kF; omega
      rw [e]
      exact numberFrom_l h ht _ _ (a + 1) _ (by omega) (by omega)
    · rw [if_neg (fun y => z (c1.mp y)), decide_eq_false z, if_neg (by decide)]
      rfl
  · have : dgB (nx ch len a) = false := by cases e : dgB (nx ch len a) with | true => exact absurd e w | false => rfl
    rw [this, if_pos bI_fz, Bool.false_and, if_neg (by decide)]
    rfl
theorem x5_nextDigit {ch : Nat → Nat} {len : Nat} (h : chP ch len) {arr : Nat → Int32} (ht : tyP ch len arr) {a : Nat} (ha : a ≤ len) : m_X5_nextDigit (nI len) (nI a) arr = some (if dgB (nx ch len a) then nI (nx ch len a - 48) else -1) := by
  have hl := h.1
  have hq := nx_le h a
  unfold m_X5_nextDigit m_X5_nextDigit_b22 m_X5_nextDigit_b23
  obtain ⟨c1, c1'⟩ : (eI (nx ch len a) - 48 < 0 ↔ nx ch len a < 48) ∧ (48 ≤ nx ch len a → eI (nx ch len a) - 48 = nI (nx ch len a - 48)) := eI_off (k := 48) hq (by omega) (by omega)
  rw [ob_s (x5_next h ht (by omega)), ol_r]
  by_cases g : nx ch len a < 48
  · rw [if_pos (c1.mpr g), if_neg (fun w => by have := (dgB_iff _).mp w; omega)]
  · have c2 : (9 : Int32) < nI (nx ch len a - 48) ↔ 9 < nx ch len a - 48 := nI_ltI (a := 9) (by omega) (by omega)
    rw [if_neg (fun w => g (c1.mp w)), c1' (by omega)]
    by_cases w : 9 < nx ch len a - 48
    · rw [if_pos (c2.mpr w), if_neg (fun z => by have := (dgB_iff _).mp z; omega)]
    · rw [if_neg (fun z => w (c2.mp z)), if_pos ((dgB_iff _).mpr ⟨by omega, by omega⟩)]
theorem readUpwards_l {ch : Nat → Nat} {len : Nat} (h : chP ch len) {arr : Nat → Int32} (ht : tyP ch len arr) : ∀ (f n a x : Nat), a + f = len → x ≤ 9999 → m_X5_readUpwards_l22 (nI len) arr (n + f + 1) (nI a) (nI x) = some (vI (dgR ch len f a x), nI (dgR ch len f a x).2.1) := by
  have hl := h.1
  intro f
  induction f with
  | zero =>
    intro n a x ha hx
    rw [m_X5_readUpwards_l22_s]
    unfold m_X5_readUpwards_b22 m_X5_readUpwards_b77 dgR vI
    rw [if_pos rfl, if_pos (show nI len ≤ nI a from nI_le (by omega) (by omega))]
    by_cases g : nI x = 0
    · rw [if_pos g]
    · rw [if_neg g]
  | succ f ih =>
    intro n a x ha hx
    have hq := nx_le h a
    rw [show n + (f + 1) + 1 = n + f + 1 + 1 from rfl, m_X5_readUpwards_l22_s]
    unfold m_X5_readUpwards_b22 m_X5_readUpwards_b77 dgR
    by_cases g : x = 0
    · subst g
      rw [if_pos (by decide), if_pos rfl]
      rfl
    · rw [if_neg (fun w => g ((nI_eq0 (by omega)).mp w)), if_neg g, if_neg (nI_ge (by omega) (by omega)), ob_s (x5_nextDigit h ht (by omega))]
      by_cases w : dgB (nx ch len a) = true
      · have w' := (dgB_iff _).mp w
        have e1 : (10 : Int32) * nI x = nI (10 * x) := pk_mul 10 x
        have c4 : nI (10 * x + (nx ch len a - 48)) ≤ 9999 ↔ 10 * x + (nx ch len a - 48) ≤ 9999 := nI_leI (b := 9999) (by omega) (by omega)
        have hm : ¬ nI (nx ch len a - 48) = -1 := nI_nm1 (by omega)
        rw [if_pos w, if_neg hm, ob_s (x5_nextDigit h ht (by omega)), if_pos w, ol_r, e1, nI_add]
        by_cases z : 10 * x + (nx ch len a - 48) ≤ 9999
        · rw [if_pos (c4.mpr z), if_pos w, if_pos z, ol_r, nI_1]
          exact ih n (a + 1) _ (by omega) z
        · rw [if_neg (fun y => z (c4.mp y)), if_pos w, if_neg z]
          rfl
      · rw [if_neg w, if_pos rfl, if_neg w]
        rfl
theorem x5_readUpwards {ch : Nat → Nat} {len : Nat} (h : chP ch len) {arr : Nat → Int32} (ht : tyP ch len arr) {a : Nat} (ha : a ≤ len) {lo : Nat} (hlo : lo ≤ 1) : m_X5_readUpwards (nI len) (nI a) arr (nI lo) = some (vI (nuR ch len lo a), nI (nuR ch len lo a).2.1) := by
  have hl := h.1
  have hq := nx_le h a
  unfold m_X5_readUpwards nuR
  rw [ob_s (x5_nextDigit h ht ha)]
  by_cases w : dgB (nx ch len a) = true
  · have w' := (dgB_iff _).mp w
    have pa := nx_pos (ch := ch) (len := len) (a := a) (by omega)
    have c1 : nI lo ≤ nI (nx ch len a - 48) ↔ lo ≤ nx ch len a - 48 := nI_leI (by omega) (by omega)
    rw [if_pos w, w, Bool.true_and]
    by_cases z : lo ≤ nx ch len a - 48
    · rw [if_pos (c1.mpr z), decide_eq_true z, if_pos rfl, ol_r, nI_1]
      have e : kF = kF - (len - (a + 1)) - 1 + (len - (a + 1)) + 1 := by unfold kF; omega
      rw [e]
      exact readUpwards_l h ht _ _ (a + 1) _ (by omega) (by omega)
    · rw [if_neg (fun y => z (c1.mp y)), decide_eq_false z, if_neg (by decide)]
      rfl
  · have e0 : dgB (nx ch len a) = false := by cases e : dgB (nx ch len a) with | true => exact absurd e w | false => rfl
    have : ¬ nI lo ≤ -1 := by
      have : lo = 0 ∨ lo = 1 := by omega
      rcases this with q | q <;> subst q <;> decide
    rw [if_neg w, if_neg this, e0, Bool.false_and, if_neg (by decide)]
    rfl
