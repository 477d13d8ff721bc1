/-! Both read the eight rows of squares alike. -/
/-- the class's board is cleared -/
def zB : Nat → Int32 := fun _ => 0
theorem zB_g : gbd zB := ⟨fun _ _ => by unfold zB mOK; decide, fun _ _ => rfl⟩
theorem zB_fr (row col : Nat) : frP zB row col := fun _ _ _ => rfl
theorem upd_z (bd : Nat → Int32) (d : Nat) : upd (fun j => if j < d then 0 else bd j) d 0 = fun j => if j < d + 1 then 0 else bd j := by
  funext j
  by_cases q : j = d
  · subst q
    rw [pk_us, if_pos (by omega)]
  · rw [pk_un q]
    by_cases g : j < d
    · rw [if_pos g, if_pos (by omega)]
    · rw [if_neg g, if_neg (by omega)]
theorem sq_clear {bd : Nat → Int32} (hz : ∀ s, 64 ≤ s → bd s = 0) : (fun j => if j < 64 then (0 : Int32) else bd j) = zB := by
  funext j
  by_cases g : j < 64
  · rw [if_pos g]; rfl
  · rw [if_neg g, hz j (by omega)]; rfl
theorem readSquares_l2 {bd : Nat → Int32} (hz : ∀ s, 64 ≤ s → bd s = 0) (len : Int32) (arr : Nat → Int32) (a : Int32) : ∀ (f n d : Nat), d + f = 64 → m_X10_readSquares_l2 len arr (n + f + 1) a (fun j => if j < d then 0 else bd j) (nI d) = m_X10_readSquares_l24 len arr kF a zB 7 := by
  intro f
  induction f with
  | zero =>
    intro n d hd
    have : d = 64 := by omega
    subst this
    rw [m_X10_readSquares_l2_s]
    unfold m_X10_readSquares_b2
    rw [if_pos (by decide), sq_clear hz]
  | succ f ih =>
    intro n d hd
    rw [show n + (f + 1) + 1 = n + f + 1 + 1 from rfl, m_X10_readSquares_l2_s]
    unfold m_X10_readSquares_b2
    rw [if_neg (show ¬ (64 : Int32) ≤ nI d from nI_ge (b := 64) (by omega) (by omega)), oin_n (by omega) (by omega), nI_clamp (by omega), ol_r, ol_r, upd_z, nI_1]
    exact ih n (d + 1) (by omega)
/-- a separator, then what follows -/
def sepC (d : Nat) : Nat := if d = 0 then 32 else 47
def rsR (ch : Nat → Nat) (len : Nat) : Nat → Nat → (Nat → Int32) → Bool × Nat × (Nat → Int32)
  | 0, a, bd => (true, a, bd)
  | d + 1, a, bd => if (rrS ch len d 8 a 0 false bd).1 then (if nx ch len (rrS ch len d 8 a 0 false bd).2.1 = sepC d then rsR ch len d ((rrS ch len d 8 a 0 false bd).2.1 + 1) (rrS ch len d 8 a 0 false bd).2.2 else (false, (rrS ch len d 8 a 0 false bd).2.1, (rrS ch len d 8 a 0 false bd).2.2)) else (false, (rrS ch len d 8 a 0 false bd).2.1, (rrS ch len d 8 a 0 false bd).2.2)
theorem frP_dn {bd : Nat → Int32} {d : Nat} (h : frP bd (d + 1) 8) : frP bd d 0 := fun s hs _ => h s (by omega) (Or.inr (by omega))
theorem x10_readRow {ch : Nat → Nat} {len : Nat} (h : chP ch len) {arr : Nat → Int32} (ht : tyP ch len arr) {row : Nat} (hr : row < 8) {a : Nat} (ha : a ≤ len) {bd : Nat → Int32} (hg : gbd bd) (hfr : frP bd row 0) : m_X10_readRow (nI len) (nI a) arr bd (nI row) = some (bI (rrS ch len row 8 a 0 false bd).1, nI (rrS ch len row 8 a 0 false bd).2.1, (rrS ch len row 8 a 0 false bd).2.2) ∧ (rrS ch len row 8 a 0 false bd).2.1 ≤ len ∧ gbd (rrS ch len row 8 a 0 false bd).2.2 ∧ ((rrS ch len row 8 a 0 false bd).1 = true → frP (rrS ch len row 8 a 0 false bd).2.2 row 8) := readRow_l h ht hr 8 (kF - 9) a 0 false bd (by omega) (by omega) ha hg hfr
theorem x5_readRow {ch : Nat → Nat} {len : Nat} (h : chP ch len) {arr : Nat → Int32} (ht : tyP ch len arr) {tab : Nat → Int32} (hB : tbP tab) {row : Nat} (hr : row < 8) {a : Nat} (ha : a ≤ len) {bd : Nat → Int32} (hg : gbd bd) (hfr : frP bd row 0) {bal : Int32} {kinds sides : Nat → Int64} (hC : clP bd bal kinds sides) : ∃ (bal' : Int32) (kinds' sides' : Nat → Int64), m_X5_readRow (nI len) (nI a) arr bal bd kinds sides tab (nI row) = some (bI (rrS ch len row 8 a 0 false bd).1, nI (rrS ch len row 8 a 0 false bd).2.1, bal', (rrS ch len row 8 a 0 false bd).2.2, kinds', sides') ∧ clP (rrS ch len row 8 a 0 false bd).2.2 bal' kinds' sides' := creadRow_l h ht hB hr 8 (kF - 9) a 0 false bd bal kinds sides (by omega) (by omega) ha hg hfr hC
theorem x10_tk {ch : Nat → Nat} {len : Nat} (h : chP ch len) {arr : Nat → Int32} (ht : tyP ch len arr) {a : Nat} (ha : a < 2 ^ 30) (c : Nat) (v : Int32) (hv : v = nI c) (hc : c ≤ 126) : m_X10_takes (nI len) (nI a) arr v = some (bI (decide (nx ch len a = c)), nI (skA ch len a c)) := by rw [hv]; exact x10_takes h ht ha hc
theorem x5_sk {ch : Nat → Nat} {len : Nat} (h : chP ch len) {arr : Nat → Int32} (ht : tyP ch len arr) {a : Nat} (ha : a < 2 ^ 30) (c : Nat) (v : Int32) (hv : v = nI c) (hc : c ≤ 126) (h0 : c ≠ 0) : m_X5_skip (nI len) (nI a) arr v = some (bI (decide (nx ch len a = c)), nI (skA ch len a c)) := by rw [hv]; exact x5_skip h ht ha hc h0
theorem bI_tn : ¬ bI true = 0 := by decide
theorem bI_fz : bI false = 0 := by decide
theorem readSquares_l {ch : Nat → Nat} {len : Nat} (h : chP ch len) {arr : Nat → Int32} (ht : tyP ch len arr) : ∀ (d n a : Nat) (bd : Nat → Int32), d ≤ 8 → a ≤ len → gbd bd → (1 ≤ d → frP bd (d - 1) 0) → m_X10_readSquares_l24 (nI len) arr (n + d + 1) (nI a) bd (if d = 0 then -1 else nI (d - 1)) = some (bI (rsR ch len d a bd).1, nI (rsR ch len d a bd).2.1, (rsR ch len d a bd).2.2) ∧ (rsR ch len d a bd).2.1 ≤ len ∧ gbd (rsR ch len d a bd).2.2 := by
  have hl := h.1
  intro d
  induction d with
  | zero =>
    intro n a bd _ ha hg _
    rw [if_pos rfl, m_X10_readSquares_l24_s]
    unfold m_X10_readSquares_b24
    rw [if_pos (by decide)]
    exact ⟨rfl, ha, hg⟩
  | succ d ih =>
    intro n a bd hd ha hg hfr
    obtain ⟨e1, e2, e3, e4⟩ := x10_readRow h ht (row := d) (by omega) ha hg (hfr (by omega))
    rw [show n + (d + 1) + 1 = n + d + 1 + 1 from rfl, m_X10_readSquares_l24_s, if_neg (by omega), Nat.add_sub_cancel]
    unfold m_X10_readSquares_b24 rsR
    rw [if_neg (show ¬ nI d < 0 from nI_nlt (b := 0) (by omega) (by omega)), ob_s e1]
    try dsimp only
    generalize rrS ch len d 8 a 0 false bd = R at e1 e2 e3 e4
    obtain ⟨ok, a1, b1⟩ := R
    dsimp only at e1 e2 e3 e4 ⊢
    cases ok with
    | false =>
      rw [if_pos bI_fz]
      exact ⟨rfl, e2, e3⟩
    | true =>
      rw [if_neg bI_tn, if_pos rfl]
      have key : m_X10_readSquares_b48 (m_X10_readSquares_l24 (nI len) arr (n + d + 1)) (nI len) (nI a1) arr b1 (nI d) (nI (sepC d)) = some (bI (if nx ch len a1 = sepC d then rsR ch len d (a1 + 1) b1 else (false, a1, b1)).1, nI (if nx ch len a1 = sepC d then rsR ch len d (a1 + 1) b1 else (false, a1, b1)).2.1, (if nx ch len a1 = sepC d then rsR ch len d (a1 + 1) b1 else (false, a1, b1)).2.2) ∧ (if nx ch len a1 = sepC d then rsR ch len d (a1 + 1) b1 else (false, a1, b1)).2.1 ≤ len ∧ gbd (if nx ch len a1 = sepC d then rsR ch len d (a1 + 1) b1 else (false, a1, b1)).2.2 := by
        unfold m_X10_readSquares_b48 m_X10_readSquares_b54
        have hc : sepC d ≤ 126 := by unfold sepC; split <;> omega
        have hc0 : sepC d ≠ 0 := by unfold sepC; split <;> omega
        rw [ob_s (x10_takes h ht (by omega) hc)]
        try dsimp only
        by_cases q : nx ch len a1 = sepC d
        · rw [decide_eq_true q, if_neg bI_tn, if_pos q, ol_r, m1_next]
          unfold skA
          rw [if_pos q]
          have := nx_pos (ch := ch) (len := len) (a := a1) (by omega)
          refine ih n (a1 + 1) b1 (by omega) (by omega) e3 (fun hd1 => ?_)
          have := e4 rfl
          rw [show d = d - 1 + 1 by omega] at this
          exact frP_dn this
        · rw [decide_eq_false q, if_pos bI_fz, if_neg q]
          unfold skA
          rw [if_neg q]
          exact ⟨rfl, e2, e3⟩
      by_cases q : d = 0
      · subst q
        rw [if_pos (by decide)]
        exact key
      · have : ¬ nI d ≤ 0 := nI_ge (a := 0) (by omega) (by omega)
        rw [if_neg this]
        unfold sepC at key
        rw [if_neg q] at key
        unfold sepC
        rw [if_neg q]
        exact key
theorem x10_readSquares {ch : Nat → Nat} {len : Nat} (h : chP ch len) {arr : Nat → Int32} (ht : tyP ch len arr) {bd : Nat → Int32} (hz : ∀ s, 64 ≤ s → bd s = 0) : m_X10_readSquares (nI len) 0 arr bd = some (bI (rsR ch len 8 0 zB).1, nI (rsR ch len 8 0 zB).2.1, (rsR ch len 8 0 zB).2.2) ∧ (rsR ch len 8 0 zB).2.1 ≤ len ∧ gbd (rsR ch len 8 0 zB).2.2 := by
  have e1 := readSquares_l2 hz (nI len) arr 0 64 (kF - 65) 0 (by omega)
  have e0 : (fun j => if j < 0 then (0 : Int32) else bd j) = bd := by
    funext j
    rw [if_neg (by omega)]
  rw [e0] at e1
  have e1 : m_X10_readSquares (nI len) 0 arr bd = m_X10_readSquares_l24 (nI len) arr kF 0 zB 7 := e1
  obtain ⟨a1, a2, a3⟩ := readSquares_l h ht 8 (kF - 9) 0 zB (by omega) (by omega) zB_g (fun _ => zB_fr _ _)
  rw [e1]
  exact ⟨a1, a2, a3⟩
/-- the class's rows, and the separator that comes after them -/
def aft32 (ch : Nat → Nat) (len : Nat) (r : Bool × Nat × (Nat → Int32)) : Bool × Nat × (Nat → Int32) := if r.1 then (if nx ch len r.2.1 = 32 then (true, r.2.1 + 1, r.2.2) else (false, r.2.1, r.2.2)) else r
theorem readMen_row {ch : Nat → Nat} {len : Nat} (h : chP ch len) {arr : Nat → Int32} (ht : tyP ch len arr) {tab : Nat → Int32} (hB : tbP tab) {n d a : Nat} {bd : Nat → Int32} {bal : Int32} {kinds sides : Nat → Int64} (hd : d < 8) (ha : a ≤ len) (hg : gbd bd) (hfr : frP bd d 0) (hC : clP bd bal kinds sides) (ih : ∀ (a : Nat) (bd : Nat → Int32) (bal : Int32) (kinds sides : Nat → Int64), a ≤ len → gbd bd → (1 ≤ d → frP bd (d - 1) 0) → clP bd bal kinds sides → ∃ (r : Bool × Nat × (Nat → Int32)) (bal' : Int32) (kinds' sides' : Nat → Int64), m_X5_readMen_l3 (nI len) arr tab (n + 1) (nI a) bal bd kinds sides (if d = 0 then -1 else nI (d - 1)) = some (bI r.1, nI r.2.1, bal', r.2.2, kinds', sides') ∧ clP r.2.2 bal' kinds' sides' ∧ r.2.1 ≤ len ∧ gbd r.2.2 ∧ aft32 ch len r = (if nx ch len a = sepC d then rsR ch len d (a + 1) bd else (false, a, bd))) : ∃ (r : Bool × Nat × (Nat → Int32)) (bal' : Int32) (kinds' sides' : Nat → Int64), m_X5_readMen_b22 (m_X5_readMen_l3 (nI len) arr tab (n + 1)) (nI len) (nI a) arr bal bd kinds sides tab (nI d) = some (bI r.1, nI r.2.1, bal', r.2.2, kinds', sides') ∧ clP r.2.2 bal' kinds' sides' ∧ r.2.1 ≤ len ∧ gbd r.2.2 ∧ aft32 ch len r = rsR ch len (d + 1) a bd := by
  obtain ⟨_, e2, e3, e4⟩ := x10_readRow h ht (row := d) (by omega) ha hg hfr
  obtain ⟨bal2, kinds2, sides2, p1, p2⟩ := x5_readRow h ht hB (row := d) (by omega) ha hg hfr hC
  unfold m_X5_readMen_b22 m_X5_readMen_b30 rsR
  rw [ob_s p1]
  try dsimp only
  generalize rrS ch len d 8 a 0 false bd = R at e2 e3 e4 p1 p2
  obtain ⟨ok, a1, b1⟩ := R
  dsimp only at e2 e3 e4 p1 p2 ⊢
  cases ok with
  | false =>
    rw [if_pos bI_fz]
    exact ⟨(false, a1, b1), bal2, kinds2, sides2, rfl, p2, e2, e3, rfl⟩
  | true =>
    rw [if_neg bI_tn, if_pos rfl, ol_r, m1_next]
    exact ih a1 b1 bal2 kinds2 sides2 e2 e3 (fun hd1 => by
      have := e4 rfl
      rw [show d = d - 1 + 1 by omega] at this
      exact frP_dn this) p2
theorem readMen_l {ch : Nat → Nat} {len : Nat} (h : chP ch len) {arr : Nat → Int32} (ht : tyP ch len arr) {tab : Nat → Int32} (hB : tbP tab) : ∀ (d n a : Nat) (bd : Nat → Int32) (bal : Int32) (kinds sides : Nat → Int64), d ≤ 7 → a ≤ len → gbd bd → (1 ≤ d → frP bd (d - 1) 0) → clP bd bal kinds sides → ∃ (r : Bool × Nat × (Nat → Int32)) (bal' : Int32) (kinds' sides' : Nat → Int64), m_X5_readMen_l3 (nI len) arr tab (n + d + 1) (nI a) bal bd kinds sides (if d = 0 then -1 else nI (d - 1)) = some (bI r.1, nI r.2.1, bal', r.2.2, kinds', sides') ∧ clP r.2.2 bal' kinds' sides' ∧ r.2.1 ≤ len ∧ gbd r.2.2 ∧ aft32 ch len r = (if nx ch len a = sepC d then rsR ch len d (a + 1) bd else (false, a, bd)) := by
  have hl := h.1
  intro d
  induction d with
  | zero =>
    intro n a bd bal kinds sides _ ha hg _ hC
    rw [if_pos rfl, m_X5_readMen_l3_s]
    unfold m_X5_readMen_b3
    rw [if_pos (by decide)]
    exact ⟨(true, a, bd), bal, kinds, sides, rfl, hC, ha, hg, rfl⟩
  | succ d ih =>
    intro n a bd bal kinds sides hd ha hg hfr hC
    rw [show n + (d + 1) + 1 = n + d + 1 + 1 from rfl, m_X5_readMen_l3_s, if_neg (by omega), Nat.add_sub_cancel]
    unfold m_X5_readMen_b3
    rw [if_neg (show ¬ nI d < 0 from nI_nlt (b := 0) (by omega) (by omega)), if_neg (show ¬ (7 : Int32) ≤ nI d from nI_ge (b := 7) (by omega) (by omega)), ob_s (x5_sk h ht (by omega) 47 47 rfl (by omega) (by omega))]
    try dsimp only
    have hsc : sepC (d + 1) = 47 := rfl
    rw [hsc]
    by_cases q : nx ch len a = 47
    · rw [decide_eq_true q, if_neg bI_tn, if_pos q]
      unfold skA
      rw [if_pos q]
      have := nx_pos (ch := ch) (len := len) (a := a) (by omega)
      exact readMen_row h ht hB (by omega) (by omega) hg (hfr (by omega)) hC (fun a bd bal kinds sides h1 h2 h3 h4 => ih n a bd bal kinds sides (by omega) h1 h2 h3 h4)
    · rw [decide_eq_false q, if_pos bI_fz, if_neg q]
      unfold skA m_X5_readMen_b30
      rw [if_neg q]
      exact ⟨(false, a, bd), bal, kinds, sides, rfl, hC, ha, hg, rfl⟩
theorem x5_readMen {ch : Nat → Nat} {len : Nat} (h : chP ch len) {arr : Nat → Int32} (ht : tyP ch len arr) {tab : Nat → Int32} (hB : tbP tab) {bal : Int32} {kinds sides : Nat → Int64} (hC : clP zB bal kinds sides) : ∃ (r : Bool × Nat × (Nat → Int32)) (bal' : Int32) (kinds' sides' : Nat → Int64), m_X5_readMen (nI len) 0 arr bal zB kinds sides tab = some (bI r.1, nI r.2.1, bal', r.2.2, kinds', sides') ∧ clP r.2.2 bal' kinds' sides' ∧ r.2.1 ≤ len ∧ gbd r.2.2 ∧ aft32 ch len r = rsR ch len 8 0 zB := by
  have e : kF = kF - 9 + 7 + 1 + 1 := by unfold kF; omega
  unfold m_X5_readMen
  rw [e, m_X5_readMen_l3_s]
  unfold m_X5_readMen_b3
  rw [if_neg (by decide), if_pos (by decide)]
  exact readMen_row h ht hB (d := 7) (a := 0) (by omega) (by omega) zB_g (zB_fr _ _) hC (fun a bd bal kinds sides h1 h2 h3 h4 => readMen_l h ht hB 7 (kF - 9) a bd bal kinds sides (by omega) h1 h2 h3 h4)
/-- the class clears its board -/
theorem clr_l23 (mv rt ps hv nb bl : Int32) (men : Nat → Int32) (sides : Nat → Int64) : ∀ (f n d : Nat) (kinds : Nat → Int64), d + f = 7 → (∀ i, i < d → kinds i = 0) → ∃ kinds' sides', m_X0_clear_l23 (n + f + 1) mv rt ps hv nb bl men kinds sides (nI d) = some (0, 0, -1, 0, 1, 0, men, kinds', sides') ∧ (∀ i, i < 7 → kinds' i = 0) ∧ ∀ i, i < 2 → sides' i = 0 := by
  intro f
  induction f with
  | zero =>
    intro n d kinds hd hk
    have : d = 7 := by omega
    subst this
    rw [m_X0_clear_l23_s]
    unfold m_X0_clear_b23
    rw [if_pos (by decide), ol_r, ol_r]
    refine ⟨kinds, _, rfl, hk, fun i hi => ?_⟩
    have : i = 0 ∨ i = 1 := by omega
    rcases this with q | q <;> subst q <;> rfl
  | succ f ih =>
    intro n d kinds hd hk
    rw [show n + (f + 1) + 1 = n + f + 1 + 1 from rfl, m_X0_clear_l23_s]
    unfold m_X0_clear_b23
    rw [if_neg (show ¬ (7 : Int32) ≤ nI d from nI_ge (b := 7) (by omega) (by omega)), oin_n (by omega) (by omega), nI_clamp (by omega), ol_r, ol_r, nI_1]
    refine ih n (d + 1) _ (by omega) (fun i hi => ?_)
    by_cases q : i = d
    · subst q
      rw [pk_uLs]
    · rw [pk_uLn q]
      exact hk i (by omega)
theorem clr_l2 {bd : Nat → Int32} (hz : ∀ s, 64 ≤ s → bd s = 0) (mv rt ps hv nb bl : Int32) (kinds sides : Nat → Int64) : ∀ (f n d : Nat), d + f = 64 → m_X0_clear_l2 (n + f + 1) mv rt ps hv nb bl (fun j => if j < d then 0 else bd j) kinds sides (nI d) = m_X0_clear_l23 kF mv rt ps hv nb bl zB kinds sides 0 := by
  intro f
  induction f with
  | zero =>
    intro n d hd
    have : d = 64 := by omega
    subst this
    rw [m_X0_clear_l2_s]
    unfold m_X0_clear_b2
    rw [if_pos (by decide), sq_clear hz]
  | succ f ih =>
    intro n d hd
    rw [show n + (f + 1) + 1 = n + f + 1 + 1 from rfl, m_X0_clear_l2_s]
    unfold m_X0_clear_b2
    rw [if_neg (show ¬ (64 : Int32) ≤ nI d from nI_ge (b := 64) (by omega) (by omega)), oin_n (by omega) (by omega), nI_clamp (by omega), ol_r, ol_r, upd_z, nI_1]
    exact ih n (d + 1) (by omega)
theorem sumI_0 : ∀ n, sumI (fun _ => 0) n = 0
  | 0 => rfl
  | n + 1 => by
    show sumI (fun _ => 0) n + 0 = 0
    rw [sumI_0 n]
    rfl
theorem zB_cl {kinds sides : Nat → Int64} (hk : ∀ i, i < 7 → kinds i = 0) (hs : ∀ i, i < 2 → sides i = 0) : clP zB 0 kinds sides := by
  refine ⟨⟨fun k s h1 h6 h => ?_, fun c s hc h => ?_⟩, ?_⟩
  · rw [hk k (by omega), bt_zero]
    have : kd (zB s) = 0 := rfl
    rw [this]
    exact (decide_eq_false (by omega)).symm
  · rw [hs c hc, bt_zero]
    have : c = 0 ∨ c = 1 := by omega
    rcases this with q | q <;> subst q <;> rfl
  · have : balS zB = 0 := by
      unfold balS
      rw [sumI_cong (g := fun _ => 0) (fun i hi => by show fwS 0 i = 0; unfold fwS; rfl), sumI_0]
    rw [this]
    rfl
theorem x0_clear {bd : Nat → Int32} (hz : ∀ s, 64 ≤ s → bd s = 0) (mv rt ps hv nb bl : Int32) (kinds sides : Nat → Int64) : ∃ kinds' sides', m_X0_clear mv rt ps hv nb bl bd kinds sides = some (0, 0, -1, 0, 1, 0, zB, kinds', sides') ∧ clP zB 0 kinds' sides' := by
  have e1 := clr_l2 hz mv rt ps hv nb bl kinds sides 64 (kF - 65) 0 (by omega)
  have e0 : (fun j => if j < 0 then (0 : Int32) else bd j) = bd := by
    funext j
    rw [if_neg (by omega)]
  rw [e0] at e1
  have e1 : m_X0_clear mv rt ps hv nb bl bd kinds sides = m_X0_clear_l23 kF mv rt ps hv nb bl zB kinds sides 0 := e1
  obtain ⟨k2, s2, a1, a2, a3⟩ := clr_l23 mv rt ps hv nb bl zB sides 7 (kF - 8) 0 kinds (by omega) (fun i hi => by omega)
  rw [e1]
  exact ⟨k2, s2, a1, zB_cl a2 a3⟩
