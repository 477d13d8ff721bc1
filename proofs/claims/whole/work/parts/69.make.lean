/-! The reference: positions are kept and taken back; a move is made whole. -/
theorem oin_n {T : Type} {n N : Nat} {e : Option T} (h : n < N) (hN : N < 2 ^ 31) : oin (nI n) N e = e := oin_t (nI_in h hN)
/-- a position: men, side to move, rights, passed square (64: none), halves, number -/
abbrev Pz := (Nat → Int32) × Nat × Nat × Nat × Nat × Nat
def pI (p : Nat) : Int32 := if p < 64 then nI p else -1
theorem pI_lt {p : Nat} (h : p < 64) : pI p = nI p := if_pos h
theorem pI_no : pI 64 = -1 := rfl
/-- position z is kept in slot i -/
def hsP (bf : Nat → Int32) (i : Nat) (z : Pz) : Prop := (∀ s, s < 64 → bf (69 * i + s) = z.1 s) ∧ bf (69 * i + 64) = nI z.2.1 ∧ bf (69 * i + 65) = nI z.2.2.1 ∧ bf (69 * i + 66) = pI z.2.2.2.1 ∧ bf (69 * i + 67) = nI z.2.2.2.2.1 ∧ bf (69 * i + 68) = nI z.2.2.2.2.2
theorem hsP_cong {bf bf' : Nat → Int32} {i : Nat} {z : Pz} (h : hsP bf i z) (e : ∀ j, j < 69 * (i + 1) → bf' j = bf j) : hsP bf' i z := by
  obtain ⟨h1, h2, h3, h4, h5, h6⟩ := h
  refine ⟨fun s hs => ?_, ?_, ?_, ?_, ?_, ?_⟩
  · rw [e _ (by omega)]; exact h1 s hs
  · rw [e _ (by omega)]; exact h2
  · rw [e _ (by omega)]; exact h3
  · rw [e _ (by omega)]; exact h4
  · rw [e _ (by omega)]; exact h5
  · rw [e _ (by omega)]; exact h6
theorem push_l (v1 v2 v3 v4 v5 : Int32) (bd bf : Nat → Int32) {top : Nat} (ht : top < 1030) : ∀ (d s n : Nat) (b : Nat → Int32), s + d = 64 → (∀ j, b j = if 69 * top ≤ j ∧ j < 69 * top + s then bd (j - 69 * top) else bf j) → ∃ b' : Nat → Int32, m_X10_push_l10 v1 v2 v3 v4 v5 bd (n + d + 1) (nI top) b (nI (69 * top)) (nI s) = some (nI (top + 1), b') ∧ (∀ j, j < 69 * top → b' j = bf j) ∧ (∀ s, s < 64 → b' (69 * top + s) = bd s) ∧ b' (69 * top + 64) = v1 ∧ b' (69 * top + 65) = v2 ∧ b' (69 * top + 66) = v3 ∧ b' (69 * top + 67) = v4 ∧ b' (69 * top + 68) = v5 := by
  intro d
  induction d with
  | zero =>
    intro s n b e hb
    have e : s = 64 := by omega
    subst e
    refine ⟨upd (upd (upd (upd (upd b (69 * top + 64) v1) (69 * top + 65) v2) (69 * top + 66) v3) (69 * top + 67) v4) (69 * top + 68) v5, ?_, ?_, ?_, ?_, ?_, ?_, ?_, ?_⟩
    · rw [m_X10_push_l10_s]
      unfold m_X10_push_b10
      simp only [ol_r]
      try dsimp only
      have a1 : nI (69 * top) + 64 = nI (69 * top + 64) := nI_add _ 64
      have a2 : nI (69 * top) + 65 = nI (69 * top + 65) := nI_add _ 65
      have a3 : nI (69 * top) + 66 = nI (69 * top + 66) := nI_add _ 66
      have a4 : nI (69 * top) + 67 = nI (69 * top + 67) := nI_add _ 67
      have a5 : nI (69 * top) + 68 = nI (69 * top + 68) := nI_add _ 68
      rw [if_pos (by decide), a1, a2, a3, a4, a5, oin_n (by omega) (by omega), oin_n (by omega) (by omega), oin_n (by omega) (by omega), oin_n (by omega) (by omega), oin_n (by omega) (by omega), nI_clamp (by omega), nI_clamp (by omega), nI_clamp (by omega), nI_clamp (by omega), nI_clamp (by omega), nI_1]
    · intro j hj
      rw [pk_un (by omega), pk_un (by omega), pk_un (by omega), pk_un (by omega), pk_un (by omega), hb, if_neg (by omega)]
    · intro s hs
      rw [pk_un (by omega), pk_un (by omega), pk_un (by omega), pk_un (by omega), pk_un (by omega), hb, if_pos (by omega)]
      congr 1
      omega
    · rw [pk_un (by omega), pk_un (by omega), pk_un (by omega), pk_un (by omega), pk_us]
    · rw [pk_un (by omega), pk_un (by omega), pk_un (by omega), pk_us]
    · rw [pk_un (by omega), pk_un (by omega), pk_us]
    · rw [pk_un (by omega), pk_us]
    · rw [pk_us]
  | succ d ih =>
    intro s n b e hb
    have hn : ¬ (64 : Int32) ≤ nI s := nI_ge (b := 64) (by omega) (by omega)
    obtain ⟨b', h1, h2⟩ := ih (s + 1) n (upd b (69 * top + s) (bd s)) (by omega) (by
      intro j
      by_cases q : j = 69 * top + s
      · subst q
        rw [pk_us, if_pos (by omega)]
        congr 1
        omega
      · rw [pk_un q, hb]
        by_cases g : 69 * top ≤ j ∧ j < 69 * top + s
        · rw [if_pos g, if_pos (by omega)]
        · rw [if_neg g, if_neg (by omega)])
    refine ⟨b', ?_, h2⟩
    rw [← h1]
    rw [show n + (d + 1) + 1 = n + d + 1 + 1 from rfl, m_X10_push_l10_s]
    unfold m_X10_push_b10
    simp only [ol_r]
    try dsimp only
    rw [if_neg hn, oin_t (pk_in s 64 (by omega)), nI_clamp (by omega), nI_add, oin_n (by omega) (by omega), nI_clamp (by omega), nI_1]
theorem x10_push (z : Pz) (bf : Nat → Int32) {top : Nat} (ht : top < 1030) : ∃ bf' : Nat → Int32, m_X10_push (nI z.2.1) (nI z.2.2.1) (pI z.2.2.2.1) (nI z.2.2.2.2.1) (nI z.2.2.2.2.2) (nI top) z.1 bf = some (nI (top + 1), bf') ∧ hsP bf' top z ∧ ∀ j, j < 69 * top → bf' j = bf j := by
  obtain ⟨b', h1, h2, h3, h4, h5, h6, h7, h8⟩ := push_l (nI z.2.1) (nI z.2.2.1) (pI z.2.2.2.1) (nI z.2.2.2.2.1) (nI z.2.2.2.2.2) z.1 bf ht 64 0 (kF - 65) bf (by omega) (by
    intro j
    rw [if_neg (by omega)])
  refine ⟨b', ?_, ⟨h3, h4, h5, h6, h7, h8⟩, h2⟩
  have e : kF - 65 + 64 + 1 = kF := by unfold kF; omega
  rw [e] at h1
  unfold m_X10_push
  simp only [ol_r]
  try dsimp only
  have e2 : 69 * nI top = nI (69 * top) := pk_mul 69 top
  rw [e2]
  exact h1
theorem pop_l (bf b0 : Nat → Int32) {top : Nat} (ht : top < 1030) : ∀ (d s n : Nat) (v1 v2 v3 v4 v5 : Int32) (b : Nat → Int32), s + d = 64 → (∀ j, b j = if j < s then bf (69 * top + j) else b0 j) → m_X10_pop_l20 bf (n + d + 1) v1 v2 v3 v4 v5 (nI top) b (nI (69 * top)) (nI s) = some (bf (69 * top + 64), bf (69 * top + 65), bf (69 * top + 66), bf (69 * top + 67), bf (69 * top + 68), nI top, fun j => if j < 64 then bf (69 * top + j) else b0 j) := by
  intro d
  induction d with
  | zero =>
    intro s n v1 v2 v3 v4 v5 b e hb
    have e : s = 64 := by omega
    subst e
    rw [m_X10_pop_l20_s]
    unfold m_X10_pop_b20
    simp only [ol_r]
    try dsimp only
    have a1 : nI (69 * top) + 64 = nI (69 * top + 64) := nI_add _ 64
    have a2 : nI (69 * top) + 65 = nI (69 * top + 65) := nI_add _ 65
    have a3 : nI (69 * top) + 66 = nI (69 * top + 66) := nI_add _ 66
    have a4 : nI (69 * top) + 67 = nI (69 * top + 67) := nI_add _ 67
    have a5 : nI (69 * top) + 68 = nI (69 * top + 68) := nI_add _ 68
    rw [if_pos (by decide), a1, a2, a3, a4, a5, oin_n (by omega) (by omega), oin_n (by omega) (by omega), oin_n (by omega) (by omega), oin_n (by omega) (by omega), oin_n (by omega) (by omega), nI_clamp (by omega), nI_clamp (by omega), nI_clamp (by omega), nI_clamp (by omega), nI_clamp (by omega)]
    have : b = fun j => if j < 64 then bf (69 * top + j) else b0 j := funext hb
    rw [this]
  | succ d ih =>
    intro s n v1 v2 v3 v4 v5 b e hb
    have hn : ¬ (64 : Int32) ≤ nI s := nI_ge (b := 64) (by omega) (by omega)
    have ih := ih (s + 1) n v1 v2 v3 v4 v5 (upd b s (bf (69 * top + s))) (by omega) (by
      intro j
      by_cases q : j = s
      · subst q
        rw [pk_us, if_pos (by omega)]
      · rw [pk_un q, hb]
        by_cases g : j < s
        · rw [if_pos g, if_pos (by omega)]
        · rw [if_neg g, if_neg (by omega)])
    rw [← ih]
    rw [show n + (d + 1) + 1 = n + d + 1 + 1 from rfl, m_X10_pop_l20_s]
    unfold m_X10_pop_b20
    simp only [ol_r]
    try dsimp only
    rw [if_neg hn, nI_add, oin_n (by omega) (by omega), nI_clamp (by omega), oin_t (pk_in s 64 (by omega)), nI_clamp (by omega), nI_1]
theorem x10_pop {z : Pz} {bf : Nat → Int32} {top : Nat} (ht : top < 1030) (h : hsP bf top z) (hz : gbd z.1) {b0 : Nat → Int32} (hb : gbd b0) (v1 v2 v3 v4 v5 : Int32) : m_X10_pop v1 v2 v3 v4 v5 (nI (top + 1)) b0 bf = some (nI z.2.1, nI z.2.2.1, pI z.2.2.2.1, nI z.2.2.2.2.1, nI z.2.2.2.2.2, nI top, z.1) := by
  have := pop_l bf b0 ht 64 0 (kF - 65) v1 v2 v3 v4 v5 b0 (by omega) (by
    intro j
    rw [if_neg (by omega)])
  have e : kF - 65 + 64 + 1 = kF := by unfold kF; omega
  rw [e] at this
  unfold m_X10_pop
  simp only [ol_r]
  try dsimp only
  have e2 : 69 * nI top = nI (69 * top) := pk_mul 69 top
  try dsimp only
  rw [nI_pred, e2]
  obtain ⟨h1, h2, h3, h4, h5, h6⟩ := h
  have e3 : (fun j => if j < 64 then bf (69 * top + j) else b0 j) = z.1 := by
    funext j
    by_cases q : j < 64
    · rw [if_pos q, h1 j q]
    · rw [if_neg q, hz.2 j (by omega), hb.2 j (by omega)]
  rw [h2, h3, h4, h5, h6, e3] at this
  exact this
/-- the pawn of side c -/
def pmn (c : Nat) : Int32 := if c = 0 then 1 else -1
def dnS (c q : Nat) : Nat := if c = 0 then q - 8 else q + 8
/-- side c, to move, has a legal move that takes by the passed square q -/
def tknS (bd : Nat → Int32) (c q : Nat) : Bool := (decide (1 ≤ q % 8) && (decide (bd (dnS c q - 1) = pmn c) && safS bd (dnS c q - 1) q 0 c)) || (decide (q % 8 ≤ 6) && (decide (bd (dnS c q + 1) = pmn c) && safS bd (dnS c q + 1) q 0 c))
theorem pmn_ok {c : Nat} (hc : c < 2) : kd (pmn c) = 1 ∧ msd (pmn c) c = true ∧ (0 < pmn c ↔ c = 0) := by
  have : c = 0 ∨ c = 1 := by omega
  rcases this with q | q <;> subst q <;> decide
theorem mvK_pawn {bd : Nat → Int32} {f q c : Nat} (hc : c < 2) (h0 : c = 0 → 8 ≤ q) (h1 : c = 1 → q < 56) (e : bd f = pmn c) : mvK bd f q := by
  obtain ⟨a1, a2, a3⟩ := pmn_ok hc
  refine ⟨fun _ => ?_, fun h => ?_⟩
  · rw [e]
    by_cases g : c = 0
    · rw [if_pos (a3.mpr g)]; exact h0 g
    · rw [if_neg (fun z => g (a3.mp z))]; exact h1 (by omega)
  · unfold lpB at h
    rw [e, a1] at h
    simp at h
/-- one turn of the loop in isTakenAt -/
theorem isTakenAt_step {bd : Nat → Int32} (hb : gbd bd) {c q : Nat} (hc : c < 2) (hq : q < 64) (h0 : c = 0 → 8 ≤ q) (h1 : c = 1 → q < 56) (b : Bool) (k : Int32 → (Nat → Int32) → (Nat → Int32) → (Nat → Int32) → Int32 → Int32 → Int32 → Int32 → Option (Int32 × Int32 × (Nat → Int32) × (Nat → Int32) × (Nat → Int32))) (v : Int32) (cs cm : Nat → Int32) (x4 : Int32) (g : Bool) (fr : Nat) (hx : ¬ 2 ≤ x4) (hg : if g then (¬ nI (q % 8) + x4 < 0) ∧ (¬ 8 ≤ nI (q % 8) + x4) ∧ nI (dnS c q) + x4 = nI fr ∧ fr < 64 else nI (q % 8) + x4 < 0 ∨ 8 ≤ nI (q % 8) + x4) : ∃ (v' : Int32) (cs' cm' : Nat → Int32), m_X10_isTakenAt_b15 k (nI c) v bd cs cm (nI q) (bI b) (nI (dnS c q)) x4 = k v' bd cs' cm' (nI q) (bI (b || (g && (decide (bd fr = pmn c) && safS bd fr q 0 c)))) (nI (dnS c q)) (x4 + 2) := by
  unfold m_X10_isTakenAt_b15 m_X10_isTakenAt_b85 m_X10_isTakenAt_b89 m_X10_isTakenAt_b90
  simp only [ol_r]
  try dsimp only
  rw [if_neg hx, ob_s (x10_columnOf (by omega))]
  try dsimp only
  cases b with
  | true =>
    rw [if_neg (by decide)]
    exact ⟨v, cs, cm, rfl⟩
  | false =>
    rw [if_pos (by decide)]
    cases g with
    | false =>
      simp only [Bool.false_eq_true, if_false] at hg
      refine ⟨v, cs, cm, ?_⟩
      by_cases a : nI (q % 8) + x4 < 0
      · rw [if_pos a]; rfl
      · rw [if_neg a, if_pos (hg.resolve_left a)]; rfl
    | true =>
      simp only [if_true] at hg
      obtain ⟨a1, a2, a3, a4⟩ := hg
      rw [if_neg a1, if_neg a2, a3, oin_t (pk_in fr 64 a4), nI_clamp (by omega)]
      have key : ∀ y : Int32, y = pmn c → ∃ (v' : Int32) (cs' cm' : Nat → Int32), m_X10_isTakenAt_b71 k (nI c) v bd cs cm (nI q) (nI (dnS c q)) x4 (nI fr) (bd fr) y = k v' bd cs' cm' (nI q) (bI (false || (true && (decide (bd fr = pmn c) && safS bd fr q 0 c)))) (nI (dnS c q)) (x4 + 2) := by
        intro y hy
        subst hy
        unfold m_X10_isTakenAt_b71 m_X10_isTakenAt_b85 m_X10_isTakenAt_b89 m_X10_isTakenAt_b90
        simp only [ol_r]
        try dsimp only
        by_cases e : bd fr = pmn c
        · rw [if_pos e]
          obtain ⟨v1, cs1, cm1, e1⟩ := x10_isSafe hb v cs cm (u := 0) a4 hq (by omega) (mvK_pawn hc h0 h1 e) hc (by rw [e]; exact (pmn_ok hc).2.1)
          rw [nI_0] at e1
          rw [ob_s e1]
          try dsimp only
          refine ⟨v1, cs1, cm1, ?_⟩
          rw [bI_if]
          simp only [e, decide_true, Bool.true_and, Bool.false_or]
          cases safS bd fr q 0 c <;> rfl
        · rw [if_neg e]
          refine ⟨v, cs, cm, ?_⟩
          simp only [e, decide_false, Bool.false_and, Bool.and_false, Bool.or_self]
          rfl
      have : c = 0 ∨ c = 1 := by omega
      rcases this with z | z
      · subst z
        rw [if_pos (by decide)]
        exact key 1 rfl
      · subst z
        rw [if_neg (by decide)]
        exact key (-1) rfl
theorem x10_up {c : Nat} (hc : c < 2) : m_X10_up (nI c) = some (if c = 0 then 8 else -8) := by
  have : c = 0 ∨ c = 1 := by omega
  rcases this with q | q <;> subst q <;> decide
theorem nI_m1 {a : Nat} (h : 1 ≤ a) : nI a + (-1) = nI (a - 1) := by
  obtain ⟨b, rfl⟩ : ∃ b, a = b + 1 := ⟨a - 1, by omega⟩
  exact pk_m1 b
theorem nI_p8 (t : Nat) : nI t - (-8) = nI (t + 8) := by
  rw [← nI_add t 8]
  have e8 : (-8 : Int32) = 0 - nI 8 := by decide
  rw [e8]
  apply Int32.toBitVec_inj.mp
  simp only [Int32.toBitVec_sub, Int32.toBitVec_add]
  have : (0 : Int32).toBitVec = 0#32 := rfl
  rw [this]
  generalize (nI t).toBitVec = y
  generalize (nI 8).toBitVec = z
  bv_omega
theorem dnS_eq {c q : Nat} (hc : c < 2) (h0 : c = 0 → 8 ≤ q) : nI q - (if c = 0 then 8 else -8) = nI (dnS c q) := by
  unfold dnS
  by_cases g : c = 0
  · rw [if_pos g, if_pos g]
    exact pk_sub (b := 8) (h0 g)
  · rw [if_neg g, if_neg g]
    exact nI_p8 q
theorem isT_m1 : ∀ a, a < 8 → if decide (1 ≤ a) then (¬ nI a + (-1) < 0) ∧ (¬ 8 ≤ nI a + (-1)) else nI a + (-1) < 0 := by decide
theorem isT_p1 : ∀ a, a < 8 → if decide (a ≤ 6) then (¬ nI a + 1 < 0) ∧ (¬ 8 ≤ nI a + 1) else 8 ≤ nI a + 1 := by decide
theorem x10_isTakenAt {bd : Nat → Int32} (hb : gbd bd) {c q : Nat} (hc : c < 2) (hq : q < 64) (h0 : c = 0 → 8 ≤ q) (h1 : c = 1 → q < 56) (v : Int32) (cs cm : Nat → Int32) : ∃ (v' : Int32) (cs' cm' : Nat → Int32), m_X10_isTakenAt (nI c) v bd cs cm (nI q) = some (bI (tknS bd c q), v', bd, cs', cm') := by
  unfold m_X10_isTakenAt
  simp only [ol_r]
  try dsimp only
  rw [ob_s (x10_up hc)]
  try dsimp only
  rw [dnS_eq hc h0]
  have hd : dnS c q < 64 := by
    unfold dnS
    split
    · omega
    · have := h1 (by omega)
      omega
  have hd8 : dnS c q % 8 = q % 8 := by
    unfold dnS
    split
    · have := h0 ‹_›
      omega
    · omega
  have e0 : kF = 99997 + 1 + 1 + 1 := rfl
  rw [e0]
  show ∃ (v' : Int32) (cs' cm' : Nat → Int32), m_X10_isTakenAt_b15 (m_X10_isTakenAt_l15 (nI c) (99997 + 1 + 1)) (nI c) v bd cs cm (nI q) (bI false) (nI (dnS c q)) (-1) = _
  have t1 := isT_m1 (q % 8) (by omega)
  have t2 := isT_p1 (q % 8) (by omega)
  obtain ⟨v1, cs1, cm1, e1⟩ := isTakenAt_step hb hc hq h0 h1 false (m_X10_isTakenAt_l15 (nI c) (99997 + 1 + 1)) v cs cm (-1) (decide (1 ≤ q % 8)) (dnS c q - 1) (by decide) (by
    by_cases a : 1 ≤ q % 8
    · simp only [a, decide_true, if_true] at t1 ⊢
      exact ⟨t1.1, t1.2, nI_m1 (by omega), by omega⟩
    · simp only [a, decide_false, Bool.false_eq_true, if_false] at t1 ⊢
      exact Or.inl t1)
  rw [e1]
  have e2 : (-1 : Int32) + 2 = 1 := by decide
  rw [e2]
  show ∃ (v' : Int32) (cs' cm' : Nat → Int32), m_X10_isTakenAt_b15 (m_X10_isTakenAt_l15 (nI c) (99997 + 1)) (nI c) v1 bd cs1 cm1 (nI q) _ (nI (dnS c q)) 1 = _
  obtain ⟨v2, cs2, cm2, e3⟩ := isTakenAt_step hb hc hq h0 h1 (false || (decide (1 ≤ q % 8) && (decide (bd (dnS c q - 1) = pmn c) && safS bd (dnS c q - 1) q 0 c))) (m_X10_isTakenAt_l15 (nI c) (99997 + 1)) v1 cs1 cm1 1 (decide (q % 8 ≤ 6)) (dnS c q + 1) (by decide) (by
    by_cases a : q % 8 ≤ 6
    · simp only [a, decide_true, if_true] at t2 ⊢
      exact ⟨t2.1, t2.2, nI_1 _, by omega⟩
    · simp only [a, decide_false, Bool.false_eq_true, if_false] at t2 ⊢
      exact Or.inr t2)
  rw [e3]
  refine ⟨v2, cs2, cm2, ?_⟩
  rw [m_X10_isTakenAt_l15_s]
  unfold m_X10_isTakenAt_b15
  rw [if_pos (by decide), obl_b, Bool.false_or]
  rfl
/-- the rights that stay when a man leaves a square or comes to it -/
def krS (s : Nat) : Nat := if s = 0 then 13 else if s = 4 then 12 else if s = 7 then 14 else if s = 56 then 7 else if s = 60 then 3 else if s = 63 then 11 else 15
def rgS (r f t : Nat) : Nat := r &&& krS f &&& krS t
theorem krS_cases (s : Nat) : krS s = 13 ∨ krS s = 12 ∨ krS s = 14 ∨ krS s = 7 ∨ krS s = 3 ∨ krS s = 11 ∨ krS s = 15 := by
  unfold krS
  split
  · simp
  · split
    · simp
    · split
      · simp
      · split
        · simp
        · split
          · simp
          · split <;> simp
theorem x10_rightsAt : ∀ s, s < 64 → m_X10_rightsAt (nI s) = some (nI (15 - krS s)) := by decide +kernel
set_option maxRecDepth 100000 in
theorem rg_tb : (List.range 16).all (fun r => (List.range 16).all (fun a => (List.range 16).all (fun b => decide ((nI r &&& (nI (15 - a) ^^^ (-1))) &&& (nI (15 - b) ^^^ (-1)) = nI (r &&& a &&& b))))) = true := by decide +kernel
theorem rg_eq (r : Nat) (hr : r < 16) (a : Nat) (ha : a < 16) (b : Nat) (hb : b < 16) : (nI r &&& (nI (15 - a) ^^^ (-1))) &&& (nI (15 - b) ^^^ (-1)) = nI (r &&& a &&& b) := of_decide_eq_true (all_lt (all_lt (all_lt rg_tb hr) ha) hb)
theorem krS_lt (s : Nat) : krS s < 16 := by
  rcases krS_cases s with h | h | h | h | h | h | h <;> omega
theorem rgS_lt {r : Nat} (h : r < 16) (f t : Nat) : rgS r f t < 16 := by
  unfold rgS
  exact Nat.lt_of_le_of_lt Nat.and_le_left (Nat.lt_of_le_of_lt Nat.and_le_left h)
/-- the passed square behind a move -/
def psS (bd : Nat → Int32) (c f t u : Nat) : Nat := if (decide (kd (bd f) = 1) && decide (absD f t = 16) && tknS (mvS bd f t u) (1 - c) ((f + t) / 2)) then (f + t) / 2 else 64
def mkS (z : Pz) (f t u : Nat) : Pz := (mvS z.1 f t u, 1 - z.2.1, rgS z.2.2.1 f t, psS z.1 z.2.1 f t u, (if kd (z.1 f) = 1 ∨ ¬ tkS z.1 f t = 0 then 0 else z.2.2.2.2.1 + 1), z.2.2.2.2.2 + z.2.1)
theorem x10_make {z : Pz} (hb : gbd z.1) (hc : z.2.1 < 2) (hr : z.2.2.1 < 16) (bf : Nat → Int32) {top : Nat} (hT : top < 1030) (v : Int32) (cs cm : Nat → Int32) {f t u : Nat} (hf : f < 64) (ht : t < 64) (hu : u ≤ 5) (hk : mvK z.1 f t) : ∃ (v' : Int32) (bf' cs' cm' : Nat → Int32), m_X10_make (nI z.2.1) (nI z.2.2.1) (pI z.2.2.2.1) (nI z.2.2.2.2.1) (nI z.2.2.2.2.2) (nI top) v z.1 bf cs cm (nI f) (nI t) (nI u) = some (tkS z.1 f t, nI (mkS z f t u).2.1, nI (mkS z f t u).2.2.1, pI (mkS z f t u).2.2.2.1, nI (mkS z f t u).2.2.2.2.1, nI (mkS z f t u).2.2.2.2.2, nI (top + 1), v', (mkS z f t u).1, bf', cs', cm') ∧ hsP bf' top z ∧ ∀ j, j < 69 * top → bf' j = bf j := by
  obtain ⟨bf', e1, h1, h2⟩ := x10_push z bf hT
  obtain ⟨n, cs1, cm1, e2, l2, h3⟩ := x10_moveMen hb v cs cm hf ht hu hk
  have hm := hb.1 f hf
  have hb2 := gbd_mvS hb hf ht hu hk
  have c1 : nI (kd (z.1 f)) = 1 ↔ kd (z.1 f) = 1 := nI_eq1 (by have := kd_le hm; omega)
  -- from the rights on
  have keyB : ∀ (x6 : Bool) (hv : Nat), x6 = decide (kd (z.1 f) = 1) → ∃ (v' : Int32) (cs' cm' : Nat → Int32), m_X10_make_b58 (nI z.2.1) (nI z.2.2.1) (pI z.2.2.2.1) (nI z.2.2.2.2.1) (nI z.2.2.2.2.2) (nI (top + 1)) (nI n) (mvS z.1 f t u) bf' cs1 cm1 (nI f) (nI t) (tkS z.1 f t) (bI x6) (nI hv) = some (tkS z.1 f t, nI (1 - z.2.1), nI (rgS z.2.2.1 f t), pI (psS z.1 z.2.1 f t u), nI hv, nI (z.2.2.2.2.2 + z.2.1), nI (top + 1), v', mvS z.1 f t u, bf', cs', cm') := by
    intro x6 hv hx
    unfold m_X10_make_b58
    rw [ob_s (x10_rightsAt f hf), ob_s (x10_rightsAt t ht), rg_eq _ hr _ (krS_lt f) _ (krS_lt t)]
    simp only [ol_r]
    try dsimp only
    have keyA : ∀ num : Int32, num = nI (z.2.2.2.2.2 + z.2.1) → ∃ (v' : Int32) (cs' cm' : Nat → Int32), m_X10_make_b104 (nI z.2.1) (nI (rgS z.2.2.1 f t)) (pI z.2.2.2.1) (nI hv) (nI z.2.2.2.2.2) (nI (top + 1)) (nI n) (mvS z.1 f t u) bf' cs1 cm1 (nI f) (nI t) (tkS z.1 f t) (bI x6) num = some (tkS z.1 f t, nI (1 - z.2.1), nI (rgS z.2.2.1 f t), pI (psS z.1 z.2.1 f t u), nI hv, nI (z.2.2.2.2.2 + z.2.1), nI (top + 1), v', mvS z.1 f t u, bf', cs', cm') := by
      intro num hnum
      subst hnum
      have es : 1 - nI z.2.1 = nI (1 - z.2.1) := pk_sub (a := 1) (by omega)
      unfold m_X10_make_b104 m_X10_make_b159
      simp only [ol_r]
      try dsimp only
      rw [es]
      cases x6 with
      | false =>
        have : psS z.1 z.2.1 f t u = 64 := by
          unfold psS
          rw [← hx]
          rfl
        rw [if_pos (by decide), this]
        exact ⟨_, _, _, rfl⟩
      | true =>
        rw [if_neg (by decide), ob_s (x10_size t ht f hf)]
        have c16 : nI (absD f t) = 16 ↔ absD f t = 16 := nI_eq (b := 16) (by have := absD_lt hf ht; omega) (by omega)
        have em : (nI f + nI t) / 2 = nI ((f + t) / 2) := by
          rw [nI_add]
          exact pk_div (d := 2) (by omega) (by omega) (by omega)
        by_cases g : absD f t = 16
        · rw [if_pos (c16.mpr g)]
          try dsimp only
          rw [em]
          have hq8 : 8 ≤ (f + t) / 2 ∧ (f + t) / 2 < 56 := by
            unfold absD at g
            split at g <;> omega
          obtain ⟨v2, cs2, cm2, e4⟩ := x10_isTakenAt (c := 1 - z.2.1) (q := (f + t) / 2) hb2 (by omega) (by omega) (fun _ => hq8.1) (fun _ => hq8.2) (nI n) cs1 cm1
          rw [ob_s e4]
          try dsimp only
          refine ⟨v2, cs2, cm2, ?_⟩
          rw [bI_if]
          unfold psS
          rw [← hx]
          simp only [g, decide_true, Bool.and_self, Bool.true_and]
          cases tknS (mvS z.1 f t u) (1 - z.2.1) ((f + t) / 2) with
          | false => rfl
          | true =>
            simp only [if_true]
            rw [pI_lt (by omega)]
        · rw [if_neg (fun q => g (c16.mp q))]
          have : psS z.1 z.2.1 f t u = 64 := by
            unfold psS
            simp [g]
          rw [this]
          exact ⟨_, _, _, rfl⟩
    have : z.2.1 = 0 ∨ z.2.1 = 1 := by omega
    rcases this with q | q
    · rw [q] at keyA ⊢
      rw [if_pos (by decide)]
      exact keyA _ rfl
    · rw [q] at keyA ⊢
      rw [if_neg (by decide)]
      exact keyA _ (nI_1 _)
  have eH : (mkS z f t u).2.2.2.2.1 = (if kd (z.1 f) = 1 ∨ ¬ tkS z.1 f t = 0 then 0 else z.2.2.2.2.1 + 1) := rfl
  unfold m_X10_make
  rw [ob_s e1]
  try dsimp only
  rw [oin_t (pk_in f 64 hf), nI_clamp (by omega)]
  simp only [ol_r]
  try dsimp only
  rw [ob_s e2]
  try dsimp only
  rw [ob_s (x10_kindOf hm)]
  by_cases p : kd (z.1 f) = 1
  · rw [if_pos (c1.mpr p)]
    unfold m_X10_make_b35 m_X10_make_b48
    rw [if_neg (by decide)]
    obtain ⟨v', cs', cm', e5⟩ := keyB true 0 (by simp [p])
    refine ⟨v', bf', cs', cm', ?_, h1, h2⟩
    rw [eH, if_pos (Or.inl p)]
    exact e5
  · rw [if_neg (fun q => p (c1.mp q))]
    unfold m_X10_make_b35 m_X10_make_b48
    rw [if_pos (by decide)]
    by_cases g : tkS z.1 f t = 0
    · rw [if_pos g, nI_1]
      obtain ⟨v', cs', cm', e5⟩ := keyB false (z.2.2.2.2.1 + 1) (by simp [p])
      refine ⟨v', bf', cs', cm', ?_, h1, h2⟩
      rw [eH, if_neg (fun q => q.elim p (fun q => q g))]
      exact e5
    · rw [if_neg g]
      obtain ⟨v', cs', cm', e5⟩ := keyB false 0 (by simp [p])
      refine ⟨v', bf', cs', cm', ?_, h1, h2⟩
      rw [eH, if_pos (Or.inr g)]
      exact e5
