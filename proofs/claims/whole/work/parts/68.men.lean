/-! The reference: men are moved and put back. -/
theorem upd_undo (b : Nat → Int32) (k : Nat) (x : Int32) : upd (upd b k x) k (b k) = b := by
  funext j
  by_cases h : j = k
  · subst h; rw [pk_us]
  · rw [pk_un h, pk_un h]
/-- n changes lead from b0 to the board, and each has kept what was there -/
def und (b0 cs cm : Nat → Int32) : Nat → (Nat → Int32) → Prop
  | 0, b => b = b0
  | n + 1, b => ∃ (b' : Nat → Int32) (k : Nat) (x : Int32), k < 64 ∧ cs n = nI k ∧ cm n = b' k ∧ b = upd b' k x ∧ und b0 cs cm n b'
theorem und_cong {b0 cs cm cs' cm' : Nat → Int32} : ∀ {n : Nat} {b : Nat → Int32}, (∀ i, i < n → cs' i = cs i ∧ cm' i = cm i) → und b0 cs cm n b → und b0 cs' cm' n b
  | 0, _, _, h => h
  | n + 1, b, e, h => by
    obtain ⟨b', k, x, h1, h2, h3, h4, h5⟩ := h
    exact ⟨b', k, x, h1, (e n (by omega)).1.trans h2, (e n (by omega)).2.trans h3, h4, und_cong (fun i hi => e i (by omega)) h5⟩
theorem x10_change {b0 b cs cm : Nat → Int32} {n k : Nat} (x : Int32) (hn : n < 4) (hk : k < 64) (h : und b0 cs cm n b) : ∃ cs' cm' : Nat → Int32, m_X10_change (nI n) b cs cm (nI k) x = some (nI (n + 1), upd b k x, cs', cm') ∧ und b0 cs' cm' (n + 1) (upd b k x) := by
  refine ⟨upd cs n (nI k), upd cm n (b k), ?_, ?_⟩
  · unfold m_X10_change
    simp only [ol_r]
    try dsimp only
    rw [oin_t (pk_in n 4 hn), oin_t (pk_in k 64 hk), oin_t (pk_in n 4 hn), oin_t (pk_in k 64 hk), nI_clamp (by omega), nI_clamp (by omega), nI_1]
  · refine ⟨b, k, x, hk, pk_us, pk_us, rfl, und_cong (fun i hi => ?_) h⟩
    rw [pk_un (by omega), pk_un (by omega)]
    exact ⟨rfl, rfl⟩
theorem undoMen_l {b0 cs cm : Nat → Int32} : ∀ (n d : Nat) (b : Nat → Int32), n ≤ 4 → und b0 cs cm n b → m_X10_undoMen_l0 cs cm (d + n + 1) (nI n) b = some (0, b0) := by
  intro n
  induction n with
  | zero =>
    intro d b _ h
    rw [m_X10_undoMen_l0_s]
    unfold m_X10_undoMen_b0
    rw [if_pos (by decide)]
    have h : b = b0 := h
    rw [h]
    rfl
  | succ n ih =>
    intro d b hn h
    obtain ⟨b', k, x, h1, h2, h3, h4, h5⟩ := h
    rw [m_X10_undoMen_l0_s]
    unfold m_X10_undoMen_b0
    simp only [ol_r]
    try dsimp only
    rw [if_neg (nI_nle (by omega) (by omega)), nI_pred, oin_t (pk_in n 4 (by omega)), oin_t (pk_in n 4 (by omega)), nI_clamp (by omega), h2, oin_t (pk_in k 64 h1), nI_clamp (by omega), h3, h4, upd_undo]
    exact ih d b' (by omega) h5
theorem x10_undoMen {b0 cs cm b : Nat → Int32} {n : Nat} (hn : n ≤ 4) (h : und b0 cs cm n b) : m_X10_undoMen (nI n) b cs cm = some (0, b0) := by
  unfold m_X10_undoMen
  have := undoMen_l n (kF - 1 - n) b hn h
  have e : kF - 1 - n + n + 1 = kF := by unfold kF; omega
  rw [e] at this
  exact this
/-- a pawn goes aside to a free square: the man behind it is taken -/
def epB (bd : Nat → Int32) (f t : Nat) : Bool := decide (kd (bd f) = 1) && decide (f % 8 ≠ t % 8) && decide (bd t = 0)
def epq (bd : Nat → Int32) (f t : Nat) : Nat := if 0 < bd f then t - 8 else t + 8
/-- a king leaps, and the rook with him -/
def lpB (bd : Nat → Int32) (f t : Nat) : Bool := decide (kd (bd f) = 6) && decide (absD (f % 8) (t % 8) = 2)
def lpq (f t : Nat) : Nat := if f < t then f + 3 else f - 4
def tkS (bd : Nat → Int32) (f t : Nat) : Int32 := if epB bd f t then bd (epq bd f t) else bd t
/-- the man that comes to the square -/
def cmS (m : Int32) (u : Nat) : Int32 := if u = 0 then m else if 0 < m then nI u else -(nI u)
def mvE (bd : Nat → Int32) (f t : Nat) : Nat → Int32 := if epB bd f t then upd bd (epq bd f t) 0 else bd
def mvL (bd : Nat → Int32) (f t : Nat) : Nat → Int32 := if lpB bd f t then upd (upd (mvE bd f t) ((f + t) / 2) (mvE bd f t (lpq f t))) (lpq f t) 0 else mvE bd f t
def mvS (bd : Nat → Int32) (f t u : Nat) : Nat → Int32 := upd (upd (mvL bd f t) f 0) t (cmS (bd f) u)
/-- what the move reaches is on the board -/
def mvK (bd : Nat → Int32) (f t : Nat) : Prop := (epB bd f t = true → if 0 < bd f then 8 ≤ t else t < 56) ∧ (lpB bd f t = true → if f < t then f + 3 < 64 else 4 ≤ f)
theorem x10_b156 {b0 b cs cm : Nat → Int32} {n f t u : Nat} (m x5 : Int32) (hn : n ≤ 2) (hf : f < 64) (ht : t < 64) (hu : u ≤ 5) (h : und b0 cs cm n b) : ∃ cs' cm' : Nat → Int32, m_X10_moveMen_b156 (nI n) b cs cm (nI f) (nI t) (nI u) m x5 = some (x5, nI (n + 2), upd (upd b f 0) t (cmS m u), cs', cm') ∧ und b0 cs' cm' (n + 2) (upd (upd b f 0) t (cmS m u)) := by
  obtain ⟨cs1, cm1, e1, h1⟩ := x10_change 0 (by omega) hf h
  obtain ⟨cs2, cm2, e2, h2⟩ := x10_change (cmS m u) (by omega) ht h1
  refine ⟨cs2, cm2, ?_, h2⟩
  unfold m_X10_moveMen_b156 m_X10_moveMen_b184
  rw [ob_s e1]
  try dsimp only
  have hu0 : nI u = 0 ↔ u = 0 := nI_eq0 (by omega)
  unfold cmS at e2 ⊢
  by_cases q : u = 0
  · rw [if_pos q] at e2 ⊢
    rw [if_pos (hu0.mpr q), ob_s e2]
  · rw [if_neg q] at e2 ⊢
    rw [if_neg (fun z => q (hu0.mp z))]
    by_cases p : m ≤ 0
    · rw [if_neg (Int32.not_lt.mpr p)] at e2 ⊢
      rw [if_pos p, ob_s e2]
    · rw [if_pos (Int32.not_le.mp p)] at e2 ⊢
      rw [if_neg p, ob_s e2]
theorem x10_b91 {b0 b cs cm : Nat → Int32} {n f t u : Nat} {m : Int32} (x5 : Int32) (hm : mOK m) (hn : if kd m = 6 then n = 0 else n ≤ 1) (hf : f < 64) (ht : t < 64) (hu : u ≤ 5) (hk : kd m = 6 → absD (f % 8) (t % 8) = 2 → if f < t then f + 3 < 64 else 4 ≤ f) (h : und b0 cs cm n b) : ∃ (n' : Nat) (cs' cm' : Nat → Int32), m_X10_moveMen_b91 (nI n) b cs cm (nI f) (nI t) (nI u) m x5 = some (x5, nI n', upd (upd (if kd m = 6 ∧ absD (f % 8) (t % 8) = 2 then upd (upd b ((f + t) / 2) (b (lpq f t))) (lpq f t) 0 else b) f 0) t (cmS m u), cs', cm') ∧ n' ≤ 4 ∧ und b0 cs' cm' n' (upd (upd (if kd m = 6 ∧ absD (f % 8) (t % 8) = 2 then upd (upd b ((f + t) / 2) (b (lpq f t))) (lpq f t) 0 else b) f 0) t (cmS m u)) := by
  unfold m_X10_moveMen_b91
  rw [ob_s (x10_kindOf hm)]
  have c6 : nI (kd m) = 6 ↔ kd m = 6 := nI_eq (b := 6) (by have := kd_le hm; omega) (by omega)
  simp only [c6]
  by_cases q : kd m = 6
  · rw [if_pos q] at hn
    subst hn
    rw [if_pos q, ob_s (x10_columnOf (by omega)), ob_s (x10_columnOf (by omega)), ob_s (x10_size _ (by omega) _ (by omega))]
    have lb : absD (f % 8) (t % 8) < 8 := absD_lt (by omega) (by omega)
    have c2 : nI (absD (f % 8) (t % 8)) = 2 ↔ absD (f % 8) (t % 8) = 2 := nI_eq2 (by omega)
    simp only [c2]
    by_cases p : absD (f % 8) (t % 8) = 2
    · have hk := hk q p
      have hX : (if kd m = 6 ∧ absD (f % 8) (t % 8) = 2 then upd (upd b ((f + t) / 2) (b (lpq f t))) (lpq f t) 0 else b) = upd (upd b ((f + t) / 2) (b (lpq f t))) (lpq f t) 0 := if_pos ⟨q, p⟩
      rw [hX, if_pos p]
      have key : ∀ (z : Int32), z = nI (lpq f t) → lpq f t < 64 → ∃ (n' : Nat) (cs' cm' : Nat → Int32), m_X10_moveMen_b131 (nI 0) b cs cm (nI f) (nI t) (nI u) m x5 z = some (x5, nI n', upd (upd (upd (upd b ((f + t) / 2) (b (lpq f t))) (lpq f t) 0) f 0) t (cmS m u), cs', cm') ∧ n' ≤ 4 ∧ und b0 cs' cm' n' (upd (upd (upd (upd b ((f + t) / 2) (b (lpq f t))) (lpq f t) 0) f 0) t (cmS m u)) := by
        intro z hz hl
        subst hz
        have em : (nI f + nI t) / 2 = nI ((f + t) / 2) := by
          rw [nI_add]
          exact pk_div (d := 2) (by omega) (by omega) (by omega)
        obtain ⟨cs1, cm1, e1, h1⟩ := x10_change (b (lpq f t)) (by omega) (k := (f + t) / 2) (by omega) h
        obtain ⟨cs2, cm2, e2, h2⟩ := x10_change 0 (by omega) hl h1
        obtain ⟨cs3, cm3, e3, h3⟩ := x10_b156 m x5 (by omega) hf ht hu h2
        refine ⟨_, cs3, cm3, ?_, ?_, h3⟩
        · unfold m_X10_moveMen_b131
          rw [oin_t (pk_in _ 64 hl), nI_clamp (by omega), em, ob_s e1]
          try dsimp only
          rw [ob_s e2]
          try dsimp only
          rw [e3]
        · omega
      by_cases g : f < t
      · rw [if_neg (nI_ge g (by omega))]
        have e : lpq f t = f + 3 := if_pos g
        rw [if_pos g] at hk
        exact key _ (by rw [e]; exact nI_add f 3) (by omega)
      · rw [if_pos (nI_le (by omega) (by omega))]
        have e : lpq f t = f - 4 := if_neg g
        rw [if_neg g] at hk
        exact key _ (by rw [e]; exact pk_sub (b := 4) hk) (by omega)
    · have hX : (if kd m = 6 ∧ absD (f % 8) (t % 8) = 2 then upd (upd b ((f + t) / 2) (b (lpq f t))) (lpq f t) 0 else b) = b := if_neg (fun z => p z.2)
      rw [hX, if_neg p]
      obtain ⟨cs3, cm3, e3, h3⟩ := x10_b156 m x5 (n := 0) (by omega) hf ht hu h
      exact ⟨_, cs3, cm3, e3, by omega, h3⟩
  · rw [if_neg q] at hn
    have hX : (if kd m = 6 ∧ absD (f % 8) (t % 8) = 2 then upd (upd b ((f + t) / 2) (b (lpq f t))) (lpq f t) 0 else b) = b := if_neg (fun z => q z.1)
    rw [hX, if_neg q]
    obtain ⟨cs3, cm3, e3, h3⟩ := x10_b156 m x5 (by omega) hf ht hu h
    exact ⟨_, cs3, cm3, e3, by omega, h3⟩
theorem mvS_eq (bd : Nat → Int32) (f t u : Nat) : mvS bd f t u = upd (upd (if kd (bd f) = 6 ∧ absD (f % 8) (t % 8) = 2 then upd (upd (mvE bd f t) ((f + t) / 2) (mvE bd f t (lpq f t))) (lpq f t) 0 else mvE bd f t) f 0) t (cmS (bd f) u) := by
  unfold mvS mvL lpB
  simp only [Bool.and_eq_true, decide_eq_true_eq]
theorem x10_moveMen {bd : Nat → Int32} (hb : gbd bd) (v : Int32) (cs cm : Nat → Int32) {f t u : Nat} (hf : f < 64) (ht : t < 64) (hu : u ≤ 5) (hk : mvK bd f t) : ∃ (n : Nat) (cs' cm' : Nat → Int32), m_X10_moveMen v bd cs cm (nI f) (nI t) (nI u) = some (tkS bd f t, nI n, mvS bd f t u, cs', cm') ∧ n ≤ 4 ∧ und bd cs' cm' n (mvS bd f t u) := by
  have hm := hb.1 f hf
  have hl : kd (bd f) = 6 → absD (f % 8) (t % 8) = 2 → if f < t then f + 3 < 64 else 4 ≤ f := by
    intro h1 h2
    exact hk.2 (by unfold lpB; simp [h1, h2])
  have h0 : und bd cs cm 0 bd := rfl
  unfold m_X10_moveMen
  rw [oin_t (pk_in f 64 hf), nI_clamp (by omega)]
  simp only [ol_r]
  try dsimp only
  rw [oin_t (pk_in t 64 ht), nI_clamp (by omega), ob_s (x10_columnOf (by omega)), ob_s (x10_columnOf (by omega))]
  have ec : nI (f % 8) = nI (t % 8) ↔ f % 8 = t % 8 := nI_eq (by omega) (by omega)
  have c1 : nI (kd (bd f)) = 1 ↔ kd (bd f) = 1 := nI_eq1 (by have := kd_le hm; omega)
  simp only [ec]
  unfold m_X10_moveMen_b37
  simp only [ob_s (x10_kindOf hm), c1]
  have z0 : (0 : Int32) = nI 0 := rfl
  by_cases ep : epB bd f t = true
  · have hk := hk.1 ep
    have ep2 := ep
    unfold epB at ep2
    simp only [Bool.and_eq_true, decide_eq_true_eq] at ep2
    obtain ⟨⟨a1, a2⟩, a3⟩ := ep2
    rw [if_neg a2, if_pos a1, if_neg (by decide), if_pos a3]
    have hq : epq bd f t < 64 := by
      unfold epq
      split <;> rename_i g <;> simp [g] at hk <;> omega
    have key : ∀ (s d : Int32), m_X10_up s = some d → nI t - d = nI (epq bd f t) → ∃ (n : Nat) (cs' cm' : Nat → Int32), m_X10_moveMen_b69 0 bd cs cm (nI f) (nI t) (nI u) (bd f) (nI t) s = some (tkS bd f t, nI n, mvS bd f t u, cs', cm') ∧ n ≤ 4 ∧ und bd cs' cm' n (mvS bd f t u) := by
      intro s d hs hd
      unfold m_X10_moveMen_b69
      rw [ob_s hs]
      simp only [ol_r]
      try dsimp only
      rw [hd, oin_t (pk_in _ 64 hq), nI_clamp (by omega)]
      obtain ⟨cs1, cm1, e1, h1⟩ := x10_change 0 (by omega) hq h0
      have e1 : m_X10_change 0 bd cs cm (nI (epq bd f t)) 0 = some (nI (0 + 1), upd bd (epq bd f t) 0, cs1, cm1) := e1
      rw [ob_s e1]
      try dsimp only
      have eE : mvE bd f t = upd bd (epq bd f t) 0 := if_pos ep
      obtain ⟨n', cs2, cm2, e2, l2, h2⟩ := x10_b91 (tkS bd f t) hm (by rw [if_neg (by omega)]; omega) hf ht hu hl h1
      rw [mvS_eq, eE]
      refine ⟨n', cs2, cm2, ?_, l2, h2⟩
      have eT : bd (epq bd f t) = tkS bd f t := by
        unfold tkS
        rw [if_pos ep]
      rw [eT]
      exact e2
    by_cases g : bd f ≤ 0
    · have g2 : ¬ 0 < bd f := Int32.not_lt.mpr g
      rw [if_pos g]
      rw [if_neg g2] at hk
      refine key 1 (-8) rfl ?_
      have : epq bd f t = t + 8 := if_neg g2
      rw [this, ← nI_add t 8]
      have e8 : -(8 : Int32) = 0 - nI 8 := by decide
      rw [e8]
      apply Int32.toBitVec_inj.mp
      simp only [Int32.toBitVec_sub, Int32.toBitVec_add]
      have : (0 : Int32).toBitVec = 0#32 := rfl
      rw [this]
      generalize (nI t).toBitVec = y
      generalize (nI 8).toBitVec = z
      bv_omega
    · have g2 : 0 < bd f := Int32.not_le.mp g
      rw [if_neg g]
      rw [if_pos g2] at hk
      refine key 0 8 rfl ?_
      have : epq bd f t = t - 8 := if_pos g2
      rw [this]
      exact pk_sub (b := 8) hk
  · have eT : tkS bd f t = bd t := if_neg ep
    have eE : mvE bd f t = bd := if_neg ep
    rw [eT, mvS_eq, eE]
    have hn : if kd (bd f) = 6 then (0 : Nat) = 0 else 0 ≤ 1 := by split <;> omega
    obtain ⟨n', cs2, cm2, e2, l2, h2⟩ := x10_b91 (bd t) hm hn hf ht hu hl h0
    have e2 : m_X10_moveMen_b91 0 bd cs cm (nI f) (nI t) (nI u) (bd f) (bd t) = _ := e2
    by_cases a1 : kd (bd f) = 1
    · by_cases a2 : f % 8 = t % 8
      · rw [if_pos a2, if_pos a1, if_pos (by trivial)]
        exact ⟨n', cs2, cm2, e2, l2, h2⟩
      · by_cases a3 : bd t = 0
        · exact absurd (by unfold epB; simp [a1, a2]; exact a3) ep
        · rw [if_neg a2, if_pos a1, if_neg (by decide), if_neg a3]
          exact ⟨n', cs2, cm2, e2, l2, h2⟩
    · simp only [if_neg a1, ite_self]
      exact ⟨n', cs2, cm2, e2, l2, h2⟩
theorem gbd_upd {bd : Nat → Int32} (h : gbd bd) {k : Nat} {x : Int32} (hk : k < 64) (hx : mOK x) : gbd (upd bd k x) := by
  refine ⟨fun s hs => ?_, fun s hs => ?_⟩
  · by_cases q : s = k
    · subst q; rw [pk_us]; exact hx
    · rw [pk_un q]; exact h.1 s hs
  · rw [pk_un (by omega)]; exact h.2 s hs
theorem mOK_0 : mOK 0 := by unfold mOK; decide
theorem mOK_all {bd : Nat → Int32} (h : gbd bd) (s : Nat) : mOK (bd s) := by
  by_cases q : s < 64
  · exact h.1 s q
  · rw [h.2 s (by omega)]; exact mOK_0
theorem mOK_nI : ∀ u, u ≤ 5 → mOK (nI u) ∧ mOK (-(nI u)) := by
  unfold mOK
  decide
theorem mOK_cmS {m : Int32} (h : mOK m) {u : Nat} (hu : u ≤ 5) : mOK (cmS m u) := by
  unfold cmS
  split
  · exact h
  · split
    · exact (mOK_nI u hu).1
    · exact (mOK_nI u hu).2
theorem mvK_ep {bd : Nat → Int32} {f t : Nat} (h : mvK bd f t) (ht : t < 64) (e : epB bd f t = true) : epq bd f t < 64 := by
  have := h.1 e
  unfold epq
  split <;> rename_i g <;> simp [g] at this <;> omega
theorem mvK_lp {bd : Nat → Int32} {f t : Nat} (h : mvK bd f t) (hf : f < 64) (e : lpB bd f t = true) : lpq f t < 64 := by
  have := h.2 e
  unfold lpq
  split <;> rename_i g <;> simp [g] at this <;> omega
theorem gbd_mvE {bd : Nat → Int32} (h : gbd bd) {f t : Nat} (ht : t < 64) (hk : mvK bd f t) : gbd (mvE bd f t) := by
  unfold mvE
  split
  · exact gbd_upd h (mvK_ep hk ht ‹_›) mOK_0
  · exact h
theorem gbd_mvS {bd : Nat → Int32} (h : gbd bd) {f t u : Nat} (hf : f < 64) (ht : t < 64) (hu : u ≤ 5) (hk : mvK bd f t) : gbd (mvS bd f t u) := by
  unfold mvS mvL
  have hE := gbd_mvE h ht hk
  apply gbd_upd _ ht (mOK_cmS (h.1 f hf) hu)
  apply gbd_upd _ hf mOK_0
  split
  · apply gbd_upd _ (mvK_lp hk hf ‹_›) mOK_0
    exact gbd_upd hE (by omega) (mOK_all hE _)
  · exact hE
/-- the side c that moves is not in check behind it -/
def safS (bd : Nat → Int32) (f t u c : Nat) : Bool := !(chkS (mvS bd f t u) c)
theorem x10_isSafe {bd : Nat → Int32} (hb : gbd bd) (v : Int32) (cs cm : Nat → Int32) {f t u c : Nat} (hf : f < 64) (ht : t < 64) (hu : u ≤ 5) (hk : mvK bd f t) (hc : c < 2) (hs : msd (bd f) c = true) : ∃ (v' : Int32) (cs' cm' : Nat → Int32), m_X10_isSafe v bd cs cm (nI f) (nI t) (nI u) = some (bI (safS bd f t u c), v', bd, cs', cm') := by
  obtain ⟨n, cs1, cm1, e1, l1, h1⟩ := x10_moveMen hb v cs cm hf ht hu hk
  refine ⟨0, cs1, cm1, ?_⟩
  have key : m_X10_isSafe_b14 v bd cs cm (nI f) (nI t) (nI u) (nI c) = some (bI (safS bd f t u c), 0, bd, cs1, cm1) := by
    unfold m_X10_isSafe_b14
    rw [ob_s e1]
    try dsimp only
    rw [ob_s (x10_inCheck (gbd_mvS hb hf ht hu hk) hc)]
    unfold m_X10_isSafe_b39
    rw [ob_s (x10_undoMen l1 h1)]
    try dsimp only
    unfold safS
    cases chkS (mvS bd f t u) c <;> simp [bI, obl_0, obl_1, ob_s (x10_undoMen l1 h1)]
  unfold m_X10_isSafe
  rw [oin_t (pk_in f 64 hf), nI_clamp (by omega)]
  unfold msd at hs
  have : c = 0 ∨ c = 1 := by omega
  rcases this with q | q
  · subst q
    simp at hs
    rw [if_neg (Int32.not_le.mpr hs)]
    exact key
  · subst q
    simp at hs
    have : bd f ≤ 0 := Int32.le_of_lt hs
    rw [if_pos this]
    exact key
