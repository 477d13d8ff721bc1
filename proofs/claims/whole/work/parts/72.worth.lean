/-! The reference: worth, bare, thrice. -/
def iI (a : Int) : Int32 := Int32.ofInt a
theorem iI_add (a b : Int) : iI a + iI b = iI (a + b) := (Int32.ofInt_add a b).symm
theorem iI_sub (a b : Int) : iI a - iI b = iI (a - b) := (Int32.ofInt_sub a b).symm
theorem iI_neg (a : Int) : -(iI a) = iI (-a) := (Int32.ofInt_neg a).symm
theorem iI_0neg (a : Int) : 0 - iI a = iI (-a) := by rw [Int32.zero_sub, iI_neg]
theorem iI_nat (n : Nat) : nI n = iI n := Int32.ofInt_eq_ofNat.symm
theorem iI_toInt {a : Int} (h1 : -2 ^ 31 ≤ a) (h2 : a < 2 ^ 31) : (iI a).toInt = a := Int32.toInt_ofInt_of_le h1 h2
theorem iI_le {a b : Int} (h1 : -2 ^ 31 ≤ a) (h2 : a < 2 ^ 31) (h3 : -2 ^ 31 ≤ b) (h4 : b < 2 ^ 31) : iI a ≤ iI b ↔ a ≤ b := by
  rw [Int32.le_iff_toInt_le, iI_toInt h1 h2, iI_toInt h3 h4]
theorem iI_lt {a b : Int} (h1 : -2 ^ 31 ≤ a) (h2 : a < 2 ^ 31) (h3 : -2 ^ 31 ≤ b) (h4 : b < 2 ^ 31) : iI a < iI b ↔ a < b := by
  rw [Int32.lt_iff_toInt_lt, iI_toInt h1 h2, iI_toInt h3 h4]
theorem iI_eq {a b : Int} (h1 : -2 ^ 31 ≤ a) (h2 : a < 2 ^ 31) (h3 : -2 ^ 31 ≤ b) (h4 : b < 2 ^ 31) : iI a = iI b ↔ a = b := by
  rw [← Int32.toInt_inj, iI_toInt h1 h2, iI_toInt h3 h4]
def sumI (f : Nat → Int) : Nat → Int
  | 0 => 0
  | n + 1 => sumI f n + f n
theorem sumI_cong {f g : Nat → Int} : ∀ {n : Nat}, (∀ i, i < n → f i = g i) → sumI f n = sumI g n
  | 0, _ => rfl
  | n + 1, h => by
    show sumI f n + f n = sumI g n + g n
    rw [sumI_cong (fun i hi => h i (by omega)), h n (by omega)]
theorem sumI_neg (f : Nat → Int) : ∀ n, sumI (fun i => -(f i)) n = -(sumI f n)
  | 0 => rfl
  | n + 1 => by
    show sumI (fun i => -(f i)) n + -(f n) = -(sumI f n + f n)
    rw [sumI_neg f n]
    omega
theorem sumI_bd {f : Nat → Int} {B : Int} : ∀ {n : Nat}, (∀ i, i < n → -B ≤ f i ∧ f i ≤ B) → -(B * n) ≤ sumI f n ∧ sumI f n ≤ B * n
  | 0, _ => by simp [sumI]
  | n + 1, h => by
    have h1 := sumI_bd (f := f) (B := B) (n := n) (fun i hi => h i (by omega))
    have h2 := h n (by omega)
    have e : B * ((n + 1 : Nat) : Int) = B * n + B := by
      rw [Int.natCast_add, Int.mul_add]
      simp
    show -(B * ((n + 1 : Nat) : Int)) ≤ sumI f n + f n ∧ sumI f n + f n ≤ B * ((n + 1 : Nat) : Int)
    rw [e]
    omega
def sdM (m : Int32) : Nat := if 0 < m then 0 else 1
/-- what a man is worth to its own side -/
def wmS (m : Int32) (s : Nat) : Int := worthS (kd m) (rkS (sdM m) s) (s % 8)
/-- what it is worth to WHITE -/
def fwS (m : Int32) (s : Nat) : Int := if 0 < m then wmS m s else -(wmS m s)
def balS (bd : Nat → Int32) : Int := sumI (fun s => fwS (bd s) s) 64
def wnS (bd : Nat → Int32) (c : Nat) : Int := if c = 0 then balS bd else -(balS bd)
def wtE (kk x3 x5 x6 : Int32) : Option Int32 := if kk = 1 then some ((100 + (4 * x3)) + (2 * x5)) else if kk = 2 then some (320 + (6 * x6)) else if kk = 3 then some (330 + (4 * x6)) else if kk = 4 then (if x3 = 6 then some 520 else some 500) else if kk = 5 then some (900 + (2 * x6)) else if kk = 6 then some ((-3) * x6) else some 0
def wtT (k r c : Nat) : Option Int32 := if 7 - nI c ≤ nI c then (if 7 - nI r ≤ nI r then wtE (nI k) (nI r) (7 - nI c) ((7 - nI c) + (7 - nI r)) else wtE (nI k) (nI r) (7 - nI c) ((7 - nI c) + nI r)) else (if 7 - nI r ≤ nI r then wtE (nI k) (nI r) (nI c) (nI c + (7 - nI r)) else wtE (nI k) (nI r) (nI c) (nI c + nI r))
set_option maxRecDepth 100000 in
theorem wt_tb : (List.range 7).all (fun k => (List.range 8).all (fun r => (List.range 8).all (fun c => decide (wtT k r c = some (iI (worthS k r c)))))) = true := by decide +kernel
theorem rkS_lt {c s : Nat} (h : s < 64) : rkS c s < 8 := by
  unfold rkS
  split <;> omega
theorem x10_worthOf {bd : Nat → Int32} (hb : gbd bd) {s : Nat} (hs : s < 64) : m_X10_worthOf bd (nI s) = some (iI (wmS (bd s) s)) := by
  have hm := hb.1 s hs
  have key : m_X10_worthOf_b14 bd (nI s) (nI (sdM (bd s))) = some (iI (wmS (bd s) s)) := by
    have h2 : sdM (bd s) < 2 := by unfold sdM; split <;> omega
    have t := of_decide_eq_true (all_lt (all_lt (all_lt wt_tb (i := kd (bd s)) (by have := kd_le hm; omega)) (i := rkS (sdM (bd s)) s) (rkS_lt hs)) (i := s % 8) (by omega))
    unfold wmS
    rw [← t]
    unfold m_X10_worthOf_b14
    rw [ob_s (x10_rankOf h2 hs), ob_s (x10_columnOf (by omega))]
    unfold wtT wtE m_X10_worthOf_b47 m_X10_worthOf_b67 m_X10_worthOf_b162
    simp only [ol_r, oin_t (pk_in s 64 hs), nI_clamp (show s < 2 ^ 31 by omega), ob_s (x10_kindOf hm)]
  unfold m_X10_worthOf
  rw [oin_t (pk_in s 64 hs), nI_clamp (by omega)]
  unfold sdM at key
  by_cases g : bd s ≤ 0
  · rw [if_neg (Int32.not_lt.mpr g)] at key
    rw [if_pos g]
    exact key
  · rw [if_pos (Int32.not_le.mp g)] at key
    rw [if_neg g]
    exact key
theorem fwS_0 (s : Nat) : fwS 0 s = 0 := by
  unfold fwS wmS
  rw [if_neg (by decide)]
  rfl
theorem worthNow_l {bd : Nat → Int32} (hb : gbd bd) {c : Nat} (hc : c < 2) : ∀ d s n : Nat, s + d = 64 → m_X10_worthNow_l4 (nI c) bd (n + d + 1) (iI (sumI (fun s => if c = 0 then fwS (bd s) s else -(fwS (bd s) s)) s)) (nI s) = some (iI (sumI (fun s => if c = 0 then fwS (bd s) s else -(fwS (bd s) s)) 64)) := by
  intro d
  induction d with
  | zero =>
    intro s n e
    have e : s = 64 := by omega
    subst e
    rw [m_X10_worthNow_l4_s]
    unfold m_X10_worthNow_b4
    rw [if_pos (by decide)]
  | succ d ih =>
    intro s n e
    have hn : ¬ (64 : Int32) ≤ nI s := nI_ge (b := 64) (by omega) (by omega)
    have ih := ih (s + 1) n (by omega)
    rw [show n + (d + 1) + 1 = n + d + 1 + 1 from rfl, m_X10_worthNow_l4_s]
    unfold m_X10_worthNow_b4 m_X10_worthNow_b43
    rw [if_neg hn, oin_t (pk_in s 64 (by omega)), nI_clamp (by omega), ob_s (x10_isSide (hb.1 s (by omega)) hc), bI_if, ob_s (x10_worthOf hb (by omega)), ob_s (x10_worthOf hb (by omega)), ol_r, ol_r, iI_add, iI_sub, nI_1]
    rw [← ih]
    have e1 : sumI (fun s => if c = 0 then fwS (bd s) s else -(fwS (bd s) s)) (s + 1) = sumI (fun s => if c = 0 then fwS (bd s) s else -(fwS (bd s) s)) s + (if c = 0 then fwS (bd s) s else -(fwS (bd s) s)) := rfl
    rw [e1]
    have hz : bd s = 0 → wmS (bd s) s = 0 := by
      intro z
      rw [z]
      rfl
    unfold fwS msd
    by_cases c0 : c = 0
    · by_cases g : 0 < bd s
      · simp [c0, g]
      · simp [c0, g, Int.sub_eq_add_neg]
    · by_cases g : bd s < 0
      · have g2 : ¬ 0 < bd s := Int32.not_lt.mpr (Int32.le_of_lt g)
        simp [c0, g, g2]
      · by_cases g2 : 0 < bd s
        · simp [c0, g, g2, Int.sub_eq_add_neg]
        · have : bd s = 0 := Int32.le_antisymm (Int32.not_lt.mp g2) (Int32.not_lt.mp g)
          simp [c0, g, g2, hz this]
theorem x10_worthNow {bd : Nat → Int32} (hb : gbd bd) {c : Nat} (hc : c < 2) : m_X10_worthNow (nI c) bd = some (iI (wnS bd c)) := by
  have := worthNow_l hb hc 64 0 (kF - 65) (by omega)
  have e : kF - 65 + 64 + 1 = kF := by unfold kF; omega
  rw [e] at this
  unfold m_X10_worthNow
  have e2 : sumI (fun s => if c = 0 then fwS (bd s) s else -(fwS (bd s) s)) 64 = wnS bd c := by
    unfold wnS balS
    by_cases g : c = 0
    · simp [g]
    · simp only [g, if_false]
      exact sumI_neg (fun s => fwS (bd s) s) 64
  rw [e2] at this
  exact this
set_option maxRecDepth 100000 in
theorem worth_tb : (List.range 7).all (fun k => (List.range 8).all (fun r => (List.range 8).all (fun c => decide (-1000 ≤ worthS k r c) && decide (worthS k r c ≤ 1000)))) = true := by decide +kernel
theorem fwS_bd {m : Int32} (hm : mOK m) {s : Nat} (hs : s < 64) : -1000 ≤ fwS m s ∧ fwS m s ≤ 1000 := by
  have t := all_lt (all_lt (all_lt worth_tb (i := kd m) (by have := kd_le hm; omega)) (i := rkS (sdM m) s) (rkS_lt hs)) (i := s % 8) (by omega)
  rw [Bool.and_eq_true, decide_eq_true_eq, decide_eq_true_eq] at t
  unfold fwS wmS
  split <;> omega
theorem balS_bd {bd : Nat → Int32} (hb : gbd bd) : -64000 ≤ balS bd ∧ balS bd ≤ 64000 := by
  have := sumI_bd (f := fun s => fwS (bd s) s) (B := 1000) (n := 64) (fun i hi => fwS_bd (hb.1 i hi) hi)
  unfold balS
  omega
theorem wnS_bd {bd : Nat → Int32} (hb : gbd bd) (c : Nat) : -64000 ≤ wnS bd c ∧ wnS bd c ≤ 64000 := by
  have := balS_bd hb
  unfold wnS
  split <;> omega
/-- the four counts -/
def knB (bd : Nat → Int32) (s : Nat) : Bool := decide (kd (bd s) = 2)
def evB (bd : Nat → Int32) (s : Nat) : Bool := decide (kd (bd s) = 3) && decide ((s / 8 + s % 8) % 2 = 0)
def odB (bd : Nat → Int32) (s : Nat) : Bool := decide (kd (bd s) = 3) && !decide ((s / 8 + s % 8) % 2 = 0)
def otB (bd : Nat → Int32) (s : Nat) : Bool := decide (kd (bd s) = 1) || decide (kd (bd s) = 4) || decide (kd (bd s) = 5)
def bareS (bd : Nat → Int32) : Bool := decide (cb (otB bd) 64 = 0) && ((decide (cb (knB bd) 64 = 0) && (decide (cb (evB bd) 64 = 0) || decide (cb (odB bd) 64 = 0))) || (decide (cb (knB bd) 64 = 1) && decide (cb (evB bd) 64 + cb (odB bd) 64 = 0)))
theorem cb_le (p : Nat → Bool) : ∀ n, cb p n ≤ n
  | 0 => Nat.le_refl 0
  | n + 1 => by
    have := cb_le p n
    show cb p n + b2n (p n) ≤ n + 1
    have : b2n (p n) ≤ 1 := by unfold b2n; split <;> omega
    omega
theorem cb_s (p : Nat → Bool) (n : Nat) : cb p (n + 1) = cb p n + b2n (p n) := rfl
theorem isBare_l {bd : Nat → Int32} (hb : gbd bd) : ∀ d s n : Nat, s + d = 64 → m_X10_isBare_l12 bd (n + d + 1) (nI (cb (knB bd) s)) (nI (cb (evB bd) s)) (nI (cb (odB bd) s)) (nI (cb (otB bd) s)) (nI s) = some (bI (bareS bd)) := by
  intro d
  induction d with
  | zero =>
    intro s n e
    have e : s = 64 := by omega
    subst e
    rw [m_X10_isBare_l12_s]
    have l1 := cb_le (knB bd) 64
    have l2 := cb_le (evB bd) 64
    have l3 := cb_le (odB bd) 64
    have l4 := cb_le (otB bd) 64
    unfold m_X10_isBare_b12 m_X10_isBare_b158 m_X10_isBare_b169 m_X10_isBare_b173 m_X10_isBare_b174 bareS
    rw [if_pos (by decide)]
    generalize cb (knB bd) 64 = a at *
    generalize cb (evB bd) 64 = b at *
    generalize cb (odB bd) 64 = c at *
    generalize cb (otB bd) 64 = d at *
    have e1 : nI a = 0 ↔ a = 0 := nI_eq0 (by omega)
    have e2 : nI b = 0 ↔ b = 0 := nI_eq0 (by omega)
    have e3 : nI c = 0 ↔ c = 0 := nI_eq0 (by omega)
    have e4 : nI d = 0 ↔ d = 0 := nI_eq0 (by omega)
    have e5 : nI a = 1 ↔ a = 1 := nI_eq1 (by omega)
    have e6 : nI b + nI c = 0 ↔ b + c = 0 := by
      rw [nI_add]
      exact nI_eq0 (by omega)
    simp only [e1, e2, e3, e4, e5, e6, obl_0, obl_1]
    by_cases q4 : d = 0
    · by_cases q1 : a = 0
      · have : ¬ (0 : Nat) = 1 := by omega
        by_cases q2 : b = 0
        · simp [q4, q1, q2, bI]
        · by_cases q3 : c = 0
          · simp [q4, q1, q2, q3, bI]
          · simp [q4, q1, q2, q3, bI]
      · by_cases q5 : a = 1
        · by_cases q6 : b + c = 0
          · simp only [q4, q1, q5, q6]
            simp [bI]
          · simp only [q4, q1, q5, q6]
            simp [bI]
        · simp [q4, q1, q5, bI]
    · simp [q4, bI]
  | succ d ih =>
    intro s n e
    have hm := hb.1 s (by omega)
    have hn : ¬ (64 : Int32) ≤ nI s := nI_ge (b := 64) (by omega) (by omega)
    have ih := ih (s + 1) n (by omega)
    rw [show n + (d + 1) + 1 = n + d + 1 + 1 from rfl, m_X10_isBare_l12_s, ← ih]
    rw [cb_s, cb_s, cb_s, cb_s]
    unfold m_X10_isBare_b12
    rw [if_neg hn, oin_t (pk_in s 64 (by omega)), nI_clamp (by omega), ob_s (x10_kindOf hm), ob_s (x10_rowOf (by omega)), ob_s (x10_columnOf (by omega)), ol_r, nI_add]
    have er : nI (s / 8 + s % 8) - nI (s / 8 + s % 8) / 2 * 2 = nI ((s / 8 + s % 8) % 2) := pk_rem (d := 2) (by omega) (by omega) (by omega)
    have e0 : nI ((s / 8 + s % 8) % 2) = 0 ↔ (s / 8 + s % 8) % 2 = 0 := nI_eq0 (by omega)
    rw [er]
    simp only [e0]
    have k1 : ∀ k, k ≤ 6 → (nI k = 1 ↔ k = 1) ∧ (nI k = 2 ↔ k = 2) ∧ (nI k = 3 ↔ k = 3) ∧ (nI k = 4 ↔ k = 4) ∧ (nI k = 5 ↔ k = 5) := by decide
    obtain ⟨c1, c2, c3, c4, c5⟩ := k1 _ (kd_le hm)
    unfold m_X10_isBare_b52 m_X10_isBare_b67 m_X10_isBare_b85 m_X10_isBare_b86 m_X10_isBare_b104 m_X10_isBare_b105 m_X10_isBare_b124 m_X10_isBare_b133
    simp only [c1, c2, c3, c4, c5, ol_r, nI_1]
    unfold knB evB odB otB
    have hk := kd_le hm
    generalize kd (bd s) = k at *
    have : k = 0 ∨ k = 1 ∨ k = 2 ∨ k = 3 ∨ k = 4 ∨ k = 5 ∨ k = 6 := by omega
    by_cases g : (s / 8 + s % 8) % 2 = 0
    · rcases this with q | q | q | q | q | q | q <;> subst q <;> simp [g, b2n]
    · have g1 : (s / 8 + s % 8) % 2 = 1 := by omega
      rcases this with q | q | q | q | q | q | q <;> subst q <;> simp [g1, b2n]
theorem x10_isBare {bd : Nat → Int32} (hb : gbd bd) : m_X10_isBare bd = some (bI (bareS bd)) := by
  have := isBare_l hb 64 0 (kF - 65) (by omega)
  have e : kF - 65 + 64 + 1 = kF := by unfold kF; omega
  rw [e] at this
  unfold m_X10_isBare
  exact this
/-- two positions are the same but for halves and number -/
def smS (y z : Pz) : Bool := decide (y.2.1 = z.2.1) && decide (y.2.2.1 = z.2.2.1) && decide (y.2.2.2.1 = z.2.2.2.1) && allB (fun s => decide (y.1 s = z.1 s)) 64
theorem pI_inj {p q : Nat} (hp : p ≤ 64) (hq : q ≤ 64) : pI p = pI q ↔ p = q := by
  by_cases h : p < 64
  · rw [pI_lt h]
    exact pI_eq hq h
  · have : p = 64 := by omega
    subst this
    by_cases g : q < 64
    · rw [pI_lt g, eq_comm, pI_eq (Nat.le_refl 64) g, eq_comm]
    · have : q = 64 := by omega
      subst this
      simp
theorem stood_l {bf bd : Nat → Int32} {i : Nat} (hi : i < 1030) {y : Nat → Int32} (hy : ∀ s, s < 64 → bf (69 * i + s) = y s) (w1 w2 w3 : Int32) (b0 : Bool) : ∀ d s n : Nat, s + d = 64 → m_X10_stood_l62 w1 w2 w3 bd bf (n + d + 1) (nI (69 * i)) (bI (b0 && allB (fun s => decide (y s = bd s)) s)) (nI s) = some (bI (b0 && allB (fun s => decide (y s = bd s)) 64)) := by
  intro d
  induction d with
  | zero =>
    intro s n e
    have e : s = 64 := by omega
    subst e
    rw [m_X10_stood_l62_s]
    unfold m_X10_stood_b62
    rw [if_pos (by decide), obl_b]
  | succ d ih =>
    intro s n e
    have hn : ¬ (64 : Int32) ≤ nI s := nI_ge (b := 64) (by omega) (by omega)
    have ih := ih (s + 1) n (by omega)
    rw [show n + (d + 1) + 1 = n + d + 1 + 1 from rfl, m_X10_stood_l62_s, ← ih]
    unfold m_X10_stood_b62 m_X10_stood_b96 m_X10_stood_b97
    rw [if_neg hn, bI_if, nI_add, oin_n (by omega) (by omega), oin_t (pk_in s 64 (by omega)), nI_clamp (by omega), nI_clamp (by omega), hy s (by omega), ol_r, ol_r, nI_1]
    have e1 : allB (fun s => decide (y s = bd s)) (s + 1) = (allB (fun s => decide (y s = bd s)) s && decide (y s = bd s)) := rfl
    rw [e1, ← Bool.and_assoc]
    cases b0 && allB (fun s => decide (y s = bd s)) s with
    | false => rfl
    | true =>
      by_cases g : y s = bd s
      · simp [g, bI]
      · simp [g, bI]
theorem x10_stood {bf : Nat → Int32} {i : Nat} (hi : i < 1030) {y z : Pz} (hs : hsP bf i y) (y1 : y.2.1 < 2) (y2 : y.2.2.1 < 16) (y3 : y.2.2.2.1 ≤ 64) (z1 : z.2.1 < 2) (z2 : z.2.2.1 < 16) (z3 : z.2.2.2.1 ≤ 64) : m_X10_stood (nI z.2.1) (nI z.2.2.1) (pI z.2.2.2.1) z.1 bf (nI i) = some (bI (smS y z)) := by
  obtain ⟨h1, h2, h3, h4, h5, h6⟩ := hs
  have key : ∀ b0 : Bool, m_X10_stood_b58 (nI z.2.1) (nI z.2.2.1) (pI z.2.2.2.1) z.1 bf (nI (69 * i)) (bI b0) = some (bI (b0 && allB (fun s => decide (y.1 s = z.1 s)) 64)) := by
    intro b0
    have := stood_l (bd := z.1) hi h1 (nI z.2.1) (nI z.2.2.1) (pI z.2.2.2.1) b0 64 0 (kF - 65) (by omega)
    have e : kF - 65 + 64 + 1 = kF := by unfold kF; omega
    rw [e] at this
    unfold m_X10_stood_b58
    have e3 : (b0 && allB (fun s => decide (y.1 s = z.1 s)) 0) = b0 := by
      show (b0 && true) = b0
      simp
    rw [e3] at this
    exact this
  have e2 : 69 * nI i = nI (69 * i) := pk_mul 69 i
  have a1 : nI (69 * i) + 64 = nI (69 * i + 64) := nI_add _ 64
  have a2 : nI (69 * i) + 65 = nI (69 * i + 65) := nI_add _ 65
  have a3 : nI (69 * i) + 66 = nI (69 * i + 66) := nI_add _ 66
  unfold m_X10_stood m_X10_stood_b57
  rw [ol_r, e2, a1, a2, a3, oin_n (by omega) (by omega), oin_n (by omega) (by omega), oin_n (by omega) (by omega), nI_clamp (by omega), nI_clamp (by omega), nI_clamp (by omega), h2, h3, h4]
  have k0 := key false
  have k1 := key true
  rw [bI_f] at k0
  rw [bI_t] at k1
  rw [k0, k1]
  simp only [nI_eq (show y.2.1 < 2 ^ 31 by omega) (show z.2.1 < 2 ^ 31 by omega), nI_eq (show y.2.2.1 < 2 ^ 31 by omega) (show z.2.2.1 < 2 ^ 31 by omega), pI_inj y3 z3]
  unfold smS
  by_cases q1 : y.2.1 = z.2.1 <;> by_cases q2 : y.2.2.1 = z.2.2.1 <;> by_cases q3 : y.2.2.2.1 = z.2.2.2.1 <;> simp [q1, q2, q3]
/-- how often a position stood before -/
def thN (hh : Nat → Pz) (top : Nat) (z : Pz) : Nat := cb (fun k => smS (hh k) z) top
theorem isThrice_l {bf : Nat → Int32} {hh : Nat → Pz} {top : Nat} (ht : top ≤ 1030) {z : Pz} (hs : ∀ k, k < top → hsP bf k (hh k) ∧ (hh k).2.1 < 2 ∧ (hh k).2.2.1 < 16 ∧ (hh k).2.2.2.1 ≤ 64) (z1 : z.2.1 < 2) (z2 : z.2.2.1 < 16) (z3 : z.2.2.2.1 ≤ 64) : ∀ d k n : Nat, k + d = top → m_X10_isThrice_l4 (nI z.2.1) (nI z.2.2.1) (pI z.2.2.2.1) (nI top) z.1 bf (n + d + 1) (nI (cb (fun k => smS (hh k) z) k)) (nI k) = some (bI (decide (1 < thN hh top z))) := by
  intro d
  induction d with
  | zero =>
    intro k n e
    have e : k = top := by omega
    subst e
    rw [m_X10_isThrice_l4_s]
    unfold m_X10_isThrice_b4 m_X10_isThrice_b44 thN
    have l := cb_le (fun k => smS (hh k) z) k
    rw [if_pos (nI_le (Nat.le_refl _) (by omega))]
    have e1 : nI (cb (fun k => smS (hh k) z) k) ≤ 1 ↔ cb (fun k => smS (hh k) z) k ≤ 1 := nI_leI (b := 1) (by omega) (by omega)
    simp only [e1, obl_0, obl_1]
    by_cases g : cb (fun k => smS (hh k) z) k ≤ 1
    · have : ¬ 1 < cb (fun k => smS (hh k) z) k := by omega
      simp [g, this, bI]
    · have : 1 < cb (fun k => smS (hh k) z) k := by omega
      simp [g, this, bI]
  | succ d ih =>
    intro k n e
    have ih := ih (k + 1) n (by omega)
    obtain ⟨s1, s2, s3, s4⟩ := hs k (by omega)
    rw [show n + (d + 1) + 1 = n + d + 1 + 1 from rfl, m_X10_isThrice_l4_s, ← ih, cb_s]
    unfold m_X10_isThrice_b4 m_X10_isThrice_b27
    rw [if_neg (nI_ge (by omega) (by omega)), ob_s (x10_stood (by omega) s1 s2 s3 s4 z1 z2 z3), bI_if, ol_r, ol_r, nI_1, nI_1]
    cases smS (hh k) z <;> rfl
theorem x10_isThrice {bf : Nat → Int32} {hh : Nat → Pz} {top : Nat} (ht : top ≤ 1030) {z : Pz} (hs : ∀ k, k < top → hsP bf k (hh k) ∧ (hh k).2.1 < 2 ∧ (hh k).2.2.1 < 16 ∧ (hh k).2.2.2.1 ≤ 64) (z1 : z.2.1 < 2) (z2 : z.2.2.1 < 16) (z3 : z.2.2.2.1 ≤ 64) : m_X10_isThrice (nI z.2.1) (nI z.2.2.1) (pI z.2.2.2.1) (nI top) z.1 bf = some (bI (decide (1 < thN hh top z))) := by
  have := isThrice_l ht hs z1 z2 z3 top 0 (kF - top - 1) (by omega)
  have e : kF - top - 1 + top + 1 = kF := by unfold kF; omega
  rw [e] at this
  unfold m_X10_isThrice
  exact this
