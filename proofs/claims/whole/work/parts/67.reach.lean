/-! The reference: where men reach. -/
def occ (bd : Nat → Int32) (s : Nat) : Bool := !decide (bd s = 0)
theorem occ_t {bd : Nat → Int32} {s : Nat} : occ bd s = true ↔ ¬ bd s = 0 := by simp [occ]
theorem occ_f {bd : Nat → Int32} {s : Nat} : occ bd s = false ↔ bd s = 0 := by simp [occ]
/-- the squares 1 .. i - 1 on a way are free -/
def clr (p : Nat → Bool) (w f i : Nat) : Bool := allB (fun j => decide (j = 0) || !(p (wsq w f j))) i
theorem clr_iff {p : Nat → Bool} {w f i : Nat} : clr p w f i = true ↔ ∀ j, 1 ≤ j → j < i → p (wsq w f j) = false := by
  unfold clr
  rw [allB_iff]
  constructor
  · intro h j h1 h2
    have := h j h2
    simp at this
    rcases this with q | q
    · omega
    · exact q
  · intro h j h2
    rcases Nat.eq_zero_or_pos j with q | q
    · simp [q]
    · simp [h j q h2]
theorem clr_succ {p : Nat → Bool} {w f i : Nat} (h : 1 ≤ i) : clr p w f (i + 1) = (clr p w f i && !(p (wsq w f i))) := by
  show (clr p w f i && (decide (i = 0) || !(p (wsq w f i)))) = _
  have : decide (i = 0) = false := by simp; omega
  rw [this, Bool.false_or]
theorem ol_r {T U : Type} (a : U) (f : U → Option T) : ol a f = f a := of_eq_true (eq_true rfl)
theorem nI_eq0 {a : Nat} (h : a < 2 ^ 31) : nI a = 0 ↔ a = 0 := nI_eq (b := 0) h (by omega)
theorem nI_eq1 {a : Nat} (h : a < 2 ^ 31) : nI a = 1 ↔ a = 1 := nI_eq (b := 1) h (by omega)
theorem nI_eq2 {a : Nat} (h : a < 2 ^ 31) : nI a = 2 ↔ a = 2 := nI_eq (b := 2) h (by omega)
theorem x10_rowOf {s : Nat} (h : s < 2 ^ 31) : m_X10_rowOf (nI s) = some (nI (s / 8)) := congrArg some (pk_div (d := 8) h (by omega) (by omega))
theorem x10_columnOf {s : Nat} (h : s < 2 ^ 31) : m_X10_columnOf (nI s) = some (nI (s % 8)) := congrArg some (pk_rem (d := 8) h (by omega) (by omega))
theorem neg_sub32 (x y : Int32) : -(x - y) = y - x := by
  apply Int32.toBitVec_inj.mp
  simp only [Int32.toBitVec_neg, Int32.toBitVec_sub]
  generalize x.toBitVec = a
  generalize y.toBitVec = b
  bv_omega
theorem x10_size (a : Nat) (ha : a < 64) (b : Nat) (hb : b < 64) : m_X10_size (nI a - nI b) = some (nI (absD b a)) := by
  unfold m_X10_size m_X10_size_b10 absD
  by_cases h : b ≤ a
  · rw [pk_sub h, if_pos (nI_pos' (by omega))]
    by_cases q : b < a
    · rw [if_pos q]
    · rw [if_neg q, show a - b = b - a by omega]
  · rw [if_neg (Int32.not_le.mpr (pk_sneg (by omega) (by omega))), if_neg (by omega), neg_sub32, pk_sub (by omega)]
set_option maxRecDepth 100000 in
theorem opn_tb : tbA (fun w f i => (List.range i).all (fun j => (j == 0) || decide ((nI f + ((8 * ((nI (wsq w f i / 8) - nI (f / 8)) / nI i)) * nI j)) + (((nI (wsq w f i % 8) - nI (f % 8)) / nI i) * nI j) = nI (wsq w f j)))) = true := by decide +kernel
theorem opn_all (w : Nat) (hw : w < 8) (f : Nat) (hf : f < 64) (i : Nat) (h1 : 1 ≤ i) (hi : i ≤ wln w f) (j : Nat) (h2 : 1 ≤ j) (hj : j < i) : (nI f + ((8 * ((nI (wsq w f i / 8) - nI (f / 8)) / nI i)) * nI j)) + (((nI (wsq w f i % 8) - nI (f % 8)) / nI i) * nI j) = nI (wsq w f j) := by
  have := all_lt (tbA_e opn_tb hw hf h1 hi) hj
  rw [Bool.or_eq_true] at this
  rcases this with q | q
  · have : j = 0 := eq_of_beq q
    omega
  · exact of_decide_eq_true q
theorem isOpen_l (bd : Nat → Int32) {w f i : Nat} (hw : w < 8) (hf : f < 64) (h1 : 1 ≤ i) (hi : i ≤ wln w f) : ∀ d j n : Nat, 1 ≤ j → j + d = i → m_X10_isOpen_l53 bd (n + d + 1) (nI f) (nI (wsq w f i / 8) - nI (f / 8)) (nI (wsq w f i % 8) - nI (f % 8)) (nI i) (bI (clr (occ bd) w f j)) (nI j) = some (bI (clr (occ bd) w f i)) := by
  have h8 := wln_lt w hw f hf
  intro d
  induction d with
  | zero =>
    intro j n hj e
    have e : j = i := by omega
    subst e
    rw [m_X10_isOpen_l53_s]
    unfold m_X10_isOpen_b53
    rw [if_pos (nI_le (Nat.le_refl j) (by omega)), obl_b]
  | succ d ih =>
    intro j n hj e
    rw [m_X10_isOpen_l53_s]
    unfold m_X10_isOpen_b53
    rw [if_neg (nI_ge (by omega) (by omega))]
    have ih := ih (j + 1) n (by omega) (by omega)
    rw [clr_succ hj] at ih
    rw [opn_all w hw f hf i h1 hi j hj (by omega)]
    have hl := wsq_lt (j := j) hw hf hj (by omega)
    cases hc : clr (occ bd) w f j with
    | false =>
      rw [hc, Bool.false_and] at ih
      rw [if_pos (by rfl)]
      unfold m_X10_isOpen_b98 m_X10_isOpen_b99 ol
      rw [nI_1]
      exact ih
    | true =>
      rw [hc, Bool.true_and] at ih
      rw [if_neg (by decide), odz_t (nI_ne0 (by omega) (by omega)), odz_t (nI_ne0 (by omega) (by omega)), oin_t (pk_in _ 64 hl), nI_clamp (by omega)]
      by_cases q : bd (wsq w f j) = 0
      · rw [if_pos q]
        rw [occ_f.mpr q] at ih
        unfold m_X10_isOpen_b99 ol
        rw [nI_1]
        exact ih
      · rw [if_neg q]
        rw [occ_t.mpr q] at ih
        unfold m_X10_isOpen_b98 m_X10_isOpen_b99 ol
        rw [nI_1]
        exact ih
theorem x10_isOpen (bd : Nat → Int32) {w f i : Nat} (hw : w < 8) (hf : f < 64) (h1 : 1 ≤ i) (hi : i ≤ wln w f) : m_X10_isOpen bd (nI f) (nI (wsq w f i)) = some (bI (clr (occ bd) w f i)) := by
  have h8 := wln_lt w hw f hf
  obtain ⟨ht, -, hst, -, -, -⟩ := wsq_all w hw f hf i h1 hi
  unfold m_X10_isOpen
  rw [ob_s (x10_rowOf (by omega)), ob_s (x10_rowOf (by omega)), ol_r, ob_s (x10_columnOf (by omega)), ob_s (x10_columnOf (by omega)), ol_r, ob_s (x10_size _ (by omega) _ (by omega)), ob_s (x10_size _ (by omega) _ (by omega))]
  have key : m_X10_isOpen_b45 bd (nI f) (nI (wsq w f i / 8) - nI (f / 8)) (nI (wsq w f i % 8) - nI (f % 8)) (nI i) = some (bI (clr (occ bd) w f i)) := by
    unfold m_X10_isOpen_b45
    have := isOpen_l bd hw hf h1 hi (i - 1) 1 (kF - i) (by omega) (by omega)
    have e : kF - i + (i - 1) + 1 = kF := by unfold kF; omega
    rw [e] at this
    exact this
  unfold wst at hst
  by_cases q : absD (f / 8) (wsq w f i / 8) ≤ absD (f % 8) (wsq w f i % 8)
  · rw [if_pos q] at hst
    rw [if_pos (nI_le q (by omega)), ob_s (x10_size _ (by omega) _ (by omega)), hst]
    exact key
  · rw [if_neg q] at hst
    rw [if_neg (nI_ge (by omega) (by omega)), ob_s (x10_size _ (by omega) _ (by omega)), hst]
    exact key
/-- a man, or none -/
def mOK (m : Int32) : Prop := -6 ≤ m.toInt ∧ m.toInt ≤ 6
theorem mOK_cases {m : Int32} (h : mOK m) : m = -6 ∨ m = -5 ∨ m = -4 ∨ m = -3 ∨ m = -2 ∨ m = -1 ∨ m = 0 ∨ m = 1 ∨ m = 2 ∨ m = 3 ∨ m = 4 ∨ m = 5 ∨ m = 6 := by
  have : m.toInt = -6 ∨ m.toInt = -5 ∨ m.toInt = -4 ∨ m.toInt = -3 ∨ m.toInt = -2 ∨ m.toInt = -1 ∨ m.toInt = 0 ∨ m.toInt = 1 ∨ m.toInt = 2 ∨ m.toInt = 3 ∨ m.toInt = 4 ∨ m.toInt = 5 ∨ m.toInt = 6 := by
    unfold mOK at h
    omega
  rcases this with q | q | q | q | q | q | q | q | q | q | q | q | q
  all_goals (have e := (Int32.ofInt_toInt m).symm; rw [q] at e; rw [e]; decide)
def kd (m : Int32) : Nat := m.toInt.natAbs
theorem kd_le {m : Int32} (h : mOK m) : kd m ≤ 6 := by
  unfold kd
  unfold mOK at h
  omega
theorem x10_kindOf {m : Int32} (h : mOK m) : m_X10_kindOf m = some (nI (kd m)) := by
  rcases mOK_cases h with q | q | q | q | q | q | q | q | q | q | q | q | q <;> subst q <;> decide
/-- of side c (0, 1) -/
def msd (m : Int32) (c : Nat) : Bool := if c = 0 then decide (0 < m) else decide (m < 0)
theorem x10_isSide {m : Int32} (h : mOK m) {c : Nat} (hc : c < 2) : m_X10_isSide m (nI c) = some (bI (msd m c)) := by
  have : c = 0 ∨ c = 1 := by omega
  rcases this with e | e <;> subst e <;> rcases mOK_cases h with q | q | q | q | q | q | q | q | q | q | q | q | q <;> subst q <;> decide
def reachS (bd : Nat → Int32) (f t : Nat) : Bool :=
  if kd (bd f) = 1 then pawB (if 0 < bd f then 0 else 1) f t
  else if kd (bd f) = 2 then kniB f t
  else if kd (bd f) = 3 then slaB f t && clr (occ bd) (wwy f t) f (wst f t)
  else if kd (bd f) = 4 then strB f t && clr (occ bd) (wwy f t) f (wst f t)
  else if kd (bd f) = 5 then (strB f t || slaB f t) && clr (occ bd) (wwy f t) f (wst f t)
  else if kd (bd f) = 6 then kinB f t
  else false
theorem x10_isOpen2 (bd : Nat → Int32) {f t : Nat} (hf : f < 64) (ht : t < 64) (h : (strB f t || slaB f t) = true) : m_X10_isOpen bd (nI f) (nI t) = some (bI (clr (occ bd) (wwy f t) f (wst f t))) := by
  obtain ⟨h1, h2, h3, h4, -⟩ := wal_all f hf t ht h
  have := x10_isOpen bd h1 hf h2 h3
  rw [h4] at this
  exact this
theorem x10_rdiff : ∀ a, a < 8 → ∀ b, b < 8 → (nI a - nI b = 1 ↔ a = b + 1) ∧ (nI a - nI b = -1 ↔ a + 1 = b) := by decide +kernel
theorem absD_lt {a b n : Nat} (ha : a < n) (hb : b < n) : absD a b < n := by
  unfold absD
  split <;> omega
theorem kinB_eq {f t : Nat} : kinB f t = (decide (absD (f / 8) (t / 8) < 2) && decide (absD (f % 8) (t % 8) < 2) && decide (0 < absD (f / 8) (t / 8) + absD (f % 8) (t % 8))) := by
  unfold kinB
  congr 1
  apply decide_eq_decide.mpr
  unfold absD
  constructor
  · intro h
    split <;> split <;> omega
  · rintro h rfl
    split at h <;> split at h <;> omega
theorem x10_reaches_flags (bd : Nat → Int32) {f t : Nat} (hf : f < 64) (ht : t < 64) : m_X10_reaches bd (nI f) (nI t) = m_X10_reaches_b81 bd (nI f) (nI t) (nI (t / 8) - nI (f / 8)) (nI (absD (f / 8) (t / 8))) (nI (absD (f % 8) (t % 8))) (bI (strB f t)) (bI (slaB f t)) := by
  unfold m_X10_reaches
  rw [ob_s (x10_rowOf (by omega)), ob_s (x10_rowOf (by omega)), ol_r, ob_s (x10_columnOf (by omega)), ob_s (x10_columnOf (by omega)), ol_r, ob_s (x10_size _ (by omega) _ (by omega)), ob_s (x10_size _ (by omega) _ (by omega))]
  have la : absD (f / 8) (t / 8) < 8 := absD_lt (by omega) (by omega)
  have lb : absD (f % 8) (t % 8) < 8 := absD_lt (by omega) (by omega)
  unfold m_X10_reaches_b44 m_X10_reaches_b54 m_X10_reaches_b62 m_X10_reaches_b80
  unfold strB slaB
  generalize absD (f / 8) (t / 8) = a at *
  generalize absD (f % 8) (t % 8) = b at *
  have e1 : nI a = 0 ↔ a = 0 := nI_eq0 (by omega)
  have e2 : nI b = 0 ↔ b = 0 := nI_eq0 (by omega)
  have e3 : nI a = nI b ↔ a = b := nI_eq (by omega) (by omega)
  have e4 : nI a ≤ 0 ↔ a = 0 := by
    have := nI_leI (a := a) (b := 0) (by omega) (by omega)
    rw [nI_0] at this
    rw [this]; omega
  simp only [e1, e2, e3, e4]
  by_cases q1 : a = 0 <;> by_cases q2 : b = 0
  · subst q1; subst q2
    simp [bI]
  · subst q1
    have : ¬ (0 = b) := fun h => q2 h.symm
    simp [bI, q2, this]
  · subst q2
    simp [bI, q1]
  · by_cases q3 : a = b
    · subst q3
      have : 0 < a := by omega
      simp [bI, q1, this]
    · simp [bI, q1, q2, q3]
theorem x10_reaches (bd : Nat → Int32) {f t : Nat} (hf : f < 64) (ht : t < 64) (hm : mOK (bd f)) : m_X10_reaches bd (nI f) (nI t) = some (bI (reachS bd f t)) := by
  rw [x10_reaches_flags bd hf ht]
  have la : absD (f / 8) (t / 8) < 8 := absD_lt (by omega) (by omega)
  have lb : absD (f % 8) (t % 8) < 8 := absD_lt (by omega) (by omega)
  have hr := x10_rdiff (t / 8) (by omega) (f / 8) (by omega)
  have e5 : ∀ (a b : Nat), a < 8 → b < 8 → (nI a * nI b = 2 ↔ a * b = 2) := by
    intro a b ha hb
    rw [pk_mul]
    have : a * b < 64 := Nat.mul_lt_mul'' ha hb
    exact nI_eq2 (by omega)
  have e6 := e5 _ _ la lb
  unfold m_X10_reaches_b81
  rw [oin_t (pk_in f 64 hf), nI_clamp (by omega), ob_s (x10_kindOf hm)]
  unfold reachS
  have k1 : ∀ k, k ≤ 6 → (nI k = 1 ↔ k = 1) ∧ (nI k = 2 ↔ k = 2) ∧ (nI k = 3 ↔ k = 3) ∧ (nI k = 4 ↔ k = 4) ∧ (nI k = 5 ↔ k = 5) ∧ (nI k = 6 ↔ k = 6) := by decide
  obtain ⟨c1, c2, c3, c4, c5, c6⟩ := k1 _ (kd_le hm)
  simp only [c1, c2, c3, c4, c5, c6, oin_t (pk_in f 64 hf)]
  by_cases q1 : kd (bd f) = 1
  · rw [if_pos q1, if_pos q1]
    have e2 : nI (absD (f % 8) (t % 8)) = 1 ↔ absD (f % 8) (t % 8) = 1 := nI_eq1 (by omega)
    simp only [e2]
    unfold m_X10_reaches_b153 m_X10_reaches_b160 m_X10_reaches_b161
    simp only [hr.1, hr.2]
    unfold pawB
    by_cases p : bd f ≤ 0
    · have p2 : ¬ 0 < bd f := Int32.not_lt.mpr p
      by_cases g1 : absD (f % 8) (t % 8) = 1 <;> by_cases g2 : t / 8 + 1 = f / 8 <;> simp [p, p2, g1, g2, bI, obl_0, obl_1]
    · have p2 : 0 < bd f := Int32.not_le.mp p
      by_cases g1 : absD (f % 8) (t % 8) = 1 <;> by_cases g2 : t / 8 = f / 8 + 1 <;> simp [p, p2, g1, g2, bI, obl_0, obl_1]
  rw [if_neg q1, if_neg q1]
  by_cases q2 : kd (bd f) = 2
  · rw [if_pos q2, if_pos q2]
    simp only [e6]
    unfold m_X10_reaches_b176 kniB
    by_cases g : absD (f / 8) (t / 8) * absD (f % 8) (t % 8) = 2 <;> simp [g, bI, obl_0, obl_1]
  rw [if_neg q2, if_neg q2]
  by_cases q3 : kd (bd f) = 3
  · rw [if_pos q3, if_pos q3]
    unfold m_X10_reaches_b195 m_X10_reaches_b196
    cases g : slaB f t with
    | false => simp [bI, obl_0]
    | true =>
      rw [if_neg (by decide), ob_s (x10_isOpen2 bd hf ht (by rw [g]; simp))]
      cases clr (occ bd) (wwy f t) f (wst f t) <;> simp [bI, obl_0, obl_1]
  rw [if_neg q3, if_neg q3]
  by_cases q4 : kd (bd f) = 4
  · rw [if_pos q4, if_pos q4]
    unfold m_X10_reaches_b215 m_X10_reaches_b216
    cases g : strB f t with
    | false => simp [bI, obl_0]
    | true =>
      rw [if_neg (by decide), ob_s (x10_isOpen2 bd hf ht (by rw [g]; simp))]
      cases clr (occ bd) (wwy f t) f (wst f t) <;> simp [bI, obl_0, obl_1]
  rw [if_neg q4, if_neg q4]
  by_cases q5 : kd (bd f) = 5
  · rw [if_pos q5, if_pos q5]
    unfold m_X10_reaches_b227 m_X10_reaches_b240 m_X10_reaches_b241
    cases g : strB f t with
    | false =>
      cases g2 : slaB f t with
      | false => simp [bI, obl_0]
      | true =>
        rw [if_pos (by decide), if_neg (by decide), ob_s (x10_isOpen2 bd hf ht (by rw [g2]; simp))]
        cases clr (occ bd) (wwy f t) f (wst f t) <;> simp [bI, obl_0, obl_1]
    | true =>
      rw [if_neg (by decide), ob_s (x10_isOpen2 bd hf ht (by rw [g]; simp))]
      cases clr (occ bd) (wwy f t) f (wst f t) <;> simp [bI, obl_0, obl_1]
  rw [if_neg q5, if_neg q5]
  by_cases q6 : kd (bd f) = 6
  · rw [if_pos q6, if_pos q6, kinB_eq]
    unfold m_X10_reaches_b266 m_X10_reaches_b267
    generalize absD (f / 8) (t / 8) = a at *
    generalize absD (f % 8) (t % 8) = b at *
    have e1 : (2 : Int32) ≤ nI a ↔ 2 ≤ a := nI_leI (a := 2) (by omega) (by omega)
    have e2 : (2 : Int32) ≤ nI b ↔ 2 ≤ b := nI_leI (a := 2) (by omega) (by omega)
    have e3 : nI a + nI b ≤ 0 ↔ a + b ≤ 0 := by
      rw [nI_add]
      exact nI_leI (b := 0) (by omega) (by omega)
    simp only [e1, e2, e3]
    by_cases g1 : 2 ≤ a
    · have : ¬ a < 2 := by omega
      simp [g1, this, bI, obl_0]
    · by_cases g2 : 2 ≤ b
      · have : ¬ b < 2 := by omega
        simp [g1, g2, this, bI, obl_0]
      · have h1 : a < 2 := by omega
        have h2 : b < 2 := by omega
        by_cases g3 : a + b ≤ 0
        · have h3 : ¬ 0 < a + b := by omega
          simp only [g1, g2, g3, h1, h2, h3]
          simp [bI, obl_0]
        · have h3 : 0 < a + b := by omega
          simp only [g1, g2, g3, h1, h2, h3]
          simp [bI, obl_1]
  rw [if_neg q6, if_neg q6]
  rfl
/-- a square is attacked by side c -/
def attS (bd : Nat → Int32) (t c : Nat) : Bool := anyB (fun s => msd (bd s) c && reachS bd s t) 64
/-- a board: men on 64 squares, nothing beyond -/
def gbd (bd : Nat → Int32) : Prop := (∀ s, s < 64 → mOK (bd s)) ∧ ∀ s, 64 ≤ s → bd s = 0
theorem anyB_stop {p : Nat → Bool} {s : Nat} (h : anyB p s = true) : ∀ {n : Nat}, s ≤ n → anyB p n = true := by
  intro n hn
  rw [anyB_iff] at *
  obtain ⟨i, hi, q⟩ := h
  exact ⟨i, by omega, q⟩
theorem isAttacked_l {bd : Nat → Int32} (hb : gbd bd) {t c : Nat} (ht : t < 64) (hc : c < 2) : ∀ d s n : Nat, s + d = 64 → m_X10_isAttacked_l5 bd (n + d + 1) (nI t) (nI c) (bI (anyB (fun s => msd (bd s) c && reachS bd s t) s)) (nI s) = some (bI (attS bd t c)) := by
  intro d
  induction d with
  | zero =>
    intro s n e
    have e : s = 64 := by omega
    subst e
    rw [m_X10_isAttacked_l5_s]
    unfold m_X10_isAttacked_b5 m_X10_isAttacked_b52
    rw [if_pos (by decide), obl_b]
    rfl
  | succ d ih =>
    intro s n e
    rw [m_X10_isAttacked_l5_s]
    unfold m_X10_isAttacked_b5
    have hn : ¬ (64 : Int32) ≤ nI s := nI_ge (b := 64) (by omega) (by omega)
    have ih := ih (s + 1) n (by omega)
    rw [if_neg hn]
    have e1 : anyB (fun s => msd (bd s) c && reachS bd s t) (s + 1) = (anyB (fun s => msd (bd s) c && reachS bd s t) s || (msd (bd s) c && reachS bd s t)) := rfl
    cases h : anyB (fun s => msd (bd s) c && reachS bd s t) s with
    | true =>
      have : attS bd t c = true := anyB_stop h (by omega)
      rw [if_neg (by decide), this]
      rfl
    | false =>
      rw [e1, h, Bool.false_or] at ih
      rw [if_pos (by decide), oin_t (pk_in s 64 (by omega)), nI_clamp (by omega), ob_s (x10_isSide (hb.1 s (by omega)) hc)]
      unfold m_X10_isAttacked_b44 m_X10_isAttacked_b45 ol
      rw [nI_1]
      cases g : msd (bd s) c with
      | false =>
        rw [g, Bool.false_and] at ih
        rw [if_pos (by decide)]
        exact ih
      | true =>
        rw [g, Bool.true_and] at ih
        rw [if_neg (by decide), ob_s (x10_reaches bd (by omega) ht (hb.1 s (by omega)))]
        cases g2 : reachS bd s t with
        | false =>
          rw [g2] at ih
          rw [if_pos (by decide)]
          exact ih
        | true =>
          rw [g2] at ih
          rw [if_neg (by decide)]
          exact ih
theorem x10_isAttacked {bd : Nat → Int32} (hb : gbd bd) {t c : Nat} (ht : t < 64) (hc : c < 2) : m_X10_isAttacked bd (nI t) (nI c) = some (bI (attS bd t c)) := by
  unfold m_X10_isAttacked
  have := isAttacked_l hb ht hc 64 0 (kF - 65) (by omega)
  have e : kF - 65 + 64 + 1 = kF := by unfold kF; omega
  rw [e] at this
  exact this
/-- the man that is the king of side c -/
def kmn (c : Nat) : Int32 := if c = 0 then 6 else -6
/-- the last square with a king of side c (0 if there is none) -/
def kgS (bd : Nat → Int32) (c : Nat) : Nat → Nat
  | 0 => 0
  | n + 1 => if bd n = kmn c then n else kgS bd c n
theorem kgS_lt {bd : Nat → Int32} {c : Nat} : ∀ {n : Nat}, 0 < n → kgS bd c n < n
  | 0, h => by omega
  | n + 1, _ => by
    unfold kgS
    split
    · omega
    · rcases Nat.eq_zero_or_pos n with q | q
      · subst q
        exact Nat.lt_succ_self 0
      · have := kgS_lt (bd := bd) (c := c) q
        omega
def chkS (bd : Nat → Int32) (c : Nat) : Bool := attS bd (kgS bd c 64) (1 - c)
theorem inCheck_l {bd : Nat → Int32} (hb : gbd bd) {c : Nat} (hc : c < 2) : ∀ d s n : Nat, s + d = 64 → m_X10_inCheck_l4 bd (n + d + 1) (nI c) (nI (kgS bd c s)) (nI s) = some (bI (chkS bd c)) := by
  intro d
  induction d with
  | zero =>
    intro s n e
    have e : s = 64 := by omega
    subst e
    rw [m_X10_inCheck_l4_s]
    unfold m_X10_inCheck_b4
    have e1 : 1 - nI c = nI (1 - c) := pk_sub (a := 1) (by omega)
    rw [if_pos (by decide), e1, ob_s (x10_isAttacked hb (kgS_lt (by omega)) (by omega)), obl_b]
    rfl
  | succ d ih =>
    intro s n e
    rw [m_X10_inCheck_l4_s]
    unfold m_X10_inCheck_b4
    have hn : ¬ (64 : Int32) ≤ nI s := nI_ge (b := 64) (by omega) (by omega)
    have ih := ih (s + 1) n (by omega)
    rw [if_neg hn, oin_t (pk_in s 64 (by omega)), nI_clamp (by omega)]
    unfold m_X10_inCheck_b27 m_X10_inCheck_b35 ol
    rw [nI_1]
    have e1 : kgS bd c (s + 1) = if bd s = kmn c then s else kgS bd c s := rfl
    rw [e1] at ih
    have : c = 0 ∨ c = 1 := by omega
    rcases this with q | q
    · subst q
      have e2 : kmn 0 = 6 := rfl
      rw [e2] at ih
      rw [if_pos (by decide)]
      by_cases g : bd s = 6
      · rw [if_pos g] at ih ⊢
        exact ih
      · rw [if_neg g] at ih ⊢
        exact ih
    · subst q
      have e2 : kmn 1 = -6 := rfl
      rw [e2] at ih
      rw [if_neg (by decide)]
      by_cases g : bd s = -6
      · rw [if_pos g] at ih ⊢
        exact ih
      · rw [if_neg g] at ih ⊢
        exact ih
theorem x10_inCheck {bd : Nat → Int32} (hb : gbd bd) {c : Nat} (hc : c < 2) : m_X10_inCheck bd (nI c) = some (bI (chkS bd c)) := by
  unfold m_X10_inCheck
  have := inCheck_l hb hc 64 0 (kF - 65) (by omega)
  have e : kF - 65 + 64 + 1 = kF := by unfold kF; omega
  rw [e] at this
  exact this
