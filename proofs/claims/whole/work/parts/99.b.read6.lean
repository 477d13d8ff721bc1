/-! The call that reads: both alike. -/
/-- the passed square is kept only where it can be taken -/
def rdN (z : Pz) : Pz := (z.1, z.2.1, z.2.2.1, (if z.2.2.2.1 < 64 ∧ tknS z.1 z.2.1 z.2.2.2.1 = true then z.2.2.2.1 else 64), z.2.2.2.2.1, z.2.2.2.2.2)
theorem inv_rdN {z : Pz} (h : inv z) : inv (rdN z) := by
  obtain ⟨hb, hc, hr, hp, hK, h16, hR, hP, hN, hE⟩ := h
  refine ⟨hb, hc, hr, ?_, hK, h16, hR, hP, hN, ?_⟩
  · show (if z.2.2.2.1 < 64 ∧ tknS z.1 z.2.1 z.2.2.2.1 = true then z.2.2.2.1 else 64) ≤ 64
    split <;> omega
  · show (if z.2.2.2.1 < 64 ∧ tknS z.1 z.2.1 z.2.2.2.1 = true then z.2.2.2.1 else 64) < 64 → _
    intro h
    have e : (if z.2.2.2.1 < 64 ∧ tknS z.1 z.2.1 z.2.2.2.1 = true then z.2.2.2.1 else 64) = z.2.2.2.1 := by
      by_cases g : z.2.2.2.1 < 64 ∧ tknS z.1 z.2.1 z.2.2.2.1 = true
      · rw [if_pos g]
      · rw [if_neg g] at h; omega
    rw [e] at h
    have := hE h
    show rkS z.2.1 (if z.2.2.2.1 < 64 ∧ tknS z.1 z.2.1 z.2.2.2.1 = true then z.2.2.2.1 else 64) = 5 ∧ z.1 (if z.2.2.2.1 < 64 ∧ tknS z.1 z.2.1 z.2.2.2.1 = true then z.2.2.2.1 else 64) = 0 ∧ z.1 (dnS z.2.1 (if z.2.2.2.1 < 64 ∧ tknS z.1 z.2.1 z.2.2.2.1 = true then z.2.2.2.1 else 64)) = pmn (1 - z.2.1)
    rw [e]
    exact this
/-- what a read answers -/
def rdF (ch : Nat → Nat) (len : Nat) : Nat := if (rdS ch len).1 then flS (rdZ ch len) else 1
def rdW (ch : Nat → Nat) (len : Nat) : Int32 := if (rdS ch len).1 then -1 else nI (rdS ch len).2
theorem flS_le (z : Pz) : flS z ≤ 6 := by
  unfold flS
  repeat' split
  all_goals omega
theorem rdF_le (ch : Nat → Nat) (len : Nat) : rdF ch len ≤ 6 := by
  unfold rdF
  split
  · exact flS_le _
  · omega
theorem rdF_0 {ch : Nat → Nat} {len : Nat} (h : chP ch len) (h0 : rdF ch len = 0) : (rdS ch len).1 = true ∧ inv (rdZ ch len) ∧ inv (rdN (rdZ ch len)) := by
  unfold rdF at h0
  by_cases g : (rdS ch len).1 = true
  · rw [if_pos g] at h0
    obtain ⟨g1, g2, g3, g4, _⟩ := rd_le h
    have := fl_inv g1 g2 g3 g4 h0
    exact ⟨g, this, inv_rdN this⟩
  · rw [if_neg g] at h0; cases h0
theorem psr_iff {z : Pz} (hi : inv z) {kinds sides rays kns kgs pws : Nat → Int64} (hT : lnT rays kns kgs pws) (hB : brP z.1 kinds sides) : ∃ X, m_X0_passers (nI z.2.1) (pI z.2.2.2.1) kinds sides rays kns kgs pws = some X ∧ (lg_cmp X 0 = 0 ↔ ¬ (z.2.2.2.1 < 64 ∧ tknS z.1 z.2.1 z.2.2.2.1 = true)) := by
  have hi2 := hi
  obtain ⟨hb, hc, hr, hp, hK, h16, hR, hP, hN, hE⟩ := hi
  obtain ⟨k, hk⟩ := hK _ hc
  have hrow : z.2.2.2.1 < 64 → 8 ≤ z.2.2.2.1 ∧ z.2.2.2.1 < 56 := fun g => ⟨(rk5 hc (hE g).1).1, (rk5 hc (hE g).1).2.1⟩
  obtain ⟨X, e, hX⟩ := x0_passers hb hT hB hc hk hp (fun g _ => (hrow g).1) (fun g _ => (hrow g).2)
  refine ⟨X, e, ?_⟩
  rw [lg0]
  have hn := bt_ne0 (x := X)
  constructor
  · rintro e0 ⟨g1, g2⟩
    obtain ⟨f, f1, f2, f3, f4⟩ := (tkn_iff hi2 hk g1).mp g2
    exact hn.mpr ⟨f, f1, (hX f f1).mpr ⟨g1, f2, f3, f4⟩⟩ e0
  · intro hno
    cases Classical.em (X = 0) with
    | inl y => exact y
    | inr y =>
      obtain ⟨f, f1, f2⟩ := hn.mp y
      obtain ⟨g1, g2, g3, g4⟩ := (hX f f1).mp f2
      exact absurd ⟨g1, (tkn_iff hi2 hk g1).mpr ⟨f, f1, g2, g3, g4⟩⟩ hno
theorem x5_useUp {ch : Nat → Nat} {len : Nat} (h : chP ch len) {arr : Nat → Int32} (ht : tyP ch len arr) {rays kns kgs pws : Nat → Int64} {tab : Nat → Int32} (hT : lnT rays kns kgs pws) (hB : tbP tab) {men : Nat → Int32} (hz : ∀ s, 64 ≤ s → men s = 0) (wa a0 d1 d2 d3 d4 d5 d6 : Int32) (kinds sides : Nat → Int64) : ∃ (a' m' r' p' h' n' b' : Int32) (men' : Nat → Int32) (kinds' sides' : Nat → Int64), m_X5_useUp wa (nI len) a0 arr d1 d2 d3 d4 d5 d6 men kinds sides rays kns kgs pws tab = some (nI (rdF ch len), rdW ch len, 0, a', m', r', p', h', n', b', men', kinds', sides') ∧ gbd men' ∧ (rdF ch len = 0 → men' = (rdN (rdZ ch len)).1 ∧ m' = nI (rdN (rdZ ch len)).2.1 ∧ r' = nI (rdN (rdZ ch len)).2.2.1 ∧ p' = pI (rdN (rdZ ch len)).2.2.2.1 ∧ h' = nI (rdN (rdZ ch len)).2.2.2.2.1 ∧ n' = nI (rdN (rdZ ch len)).2.2.2.2.2 ∧ clP men' b' kinds' sides') := by
  obtain ⟨k1, s1, e1, hC⟩ := x0_clear hz d1 d2 d3 d4 d5 d6 kinds sides
  obtain ⟨w1, w2, w3, w4, w5, bal2, men2, kinds2, sides2, e2, g2, hok⟩ := x5_readAll h ht hB hC
  unfold m_X5_useUp
  rw [ob_s e1]
  try dsimp only
  rw [ob_s e2]
  try dsimp only
  unfold m_X5_useUp_b30 m_X5_useUp_b76
  by_cases c : (rdS ch len).1 = true
  case neg =>
    have hF : rdF ch len = 1 := by unfold rdF; rw [if_neg c]
    have hW : rdW ch len = nI (rdS ch len).2 := by unfold rdW; rw [if_neg c]
    rw [bF c, if_pos bI_fz, if_pos bI_fz, hF, hW]
    exact ⟨_, _, _, _, _, _, _, _, _, _, rfl, g2, fun w => by cases w⟩
  obtain ⟨q1, q2, q3, q4, q5, q6, q7⟩ := hok c
  obtain ⟨g1, g3, g4, g5, _⟩ := rd_le h
  have hF : rdF ch len = flS (rdZ ch len) := by unfold rdF; rw [if_pos c]
  have hW : rdW ch len = -1 := by unfold rdW; rw [if_pos c]
  rw [c, if_neg bI_tn, if_neg bI_tn, hF, hW, q3, q4, q5, q6, q7, q1]
  rw [q1] at q2
  rw [ob_s (x1_of g1 g3 g4 g5 hT q2.1)]
  have hle := flS_le (rdZ ch len)
  have c0 : nI (flS (rdZ ch len)) = 0 ↔ flS (rdZ ch len) = 0 := nI_eq0 (by omega)
  by_cases f0 : flS (rdZ ch len) = 0
  · have hi := fl_inv g1 g3 g4 g5 f0
    obtain ⟨X, ep, hX⟩ := psr_iff hi hT q2.1
    rw [if_pos (c0.mpr f0), ob_s ep]
    by_cases y : (rdZ ch len).2.2.2.1 < 64 ∧ tknS (rdZ ch len).1 (rdZ ch len).2.1 (rdZ ch len).2.2.2.1 = true
    · have eN : rdN (rdZ ch len) = rdZ ch len := by unfold rdN; rw [if_pos y]
      rw [if_neg (fun w => (hX.mp w) y), eN]
      exact ⟨_, _, _, _, _, _, _, _, _, _, rfl, g1, fun _ => ⟨rfl, rfl, rfl, rfl, rfl, rfl, q2⟩⟩
    · have eP : pI (rdN (rdZ ch len)).2.2.2.1 = -1 := by unfold rdN; dsimp only; rw [if_neg y]; rfl
      rw [if_pos (hX.mpr y)]
      exact ⟨_, _, _, _, _, _, _, _, _, _, rfl, g1, fun _ => ⟨rfl, rfl, rfl, eP.symm, rfl, rfl, q2⟩⟩
  · rw [if_neg (fun w => f0 (c0.mp w))]
    exact ⟨_, _, _, _, _, _, _, _, _, _, rfl, g1, fun w => absurd w f0⟩
theorem cpy_lt {A : Type} (f g : Nat → A) {n k : Nat} (h : k < n) : va_cpy f g 0 0 n k = f k := by
  unfold va_cpy
  rw [if_pos ⟨Nat.zero_le k, by omega⟩, Nat.zero_add, Nat.sub_zero]
theorem cpy_ge {A : Type} (f g : Nat → A) {n k : Nat} (h : n ≤ k) : va_cpy f g 0 0 n k = g k := by
  unfold va_cpy
  rw [if_neg (by omega)]
theorem cpy_bd {f g : Nat → Int32} (hf : ∀ s, 64 ≤ s → f s = 0) (hg : ∀ s, 64 ≤ s → g s = 0) : va_cpy f g 0 0 64 = f := by
  funext k
  by_cases h : k < 64
  · exact cpy_lt f g h
  · rw [cpy_ge f g (by omega), hg k (by omega), hf k (by omega)]
theorem cpy_cl {bd : Nat → Int32} {b : Int32} {kinds sides : Nat → Int64} (h : clP bd b kinds sides) (k2 s2 : Nat → Int64) : clP bd b (va_cpy kinds k2 0 0 7) (va_cpy sides s2 0 0 2) := by
  refine ⟨⟨fun k s h1 h6 hs => ?_, fun c s hc hs => ?_⟩, h.2⟩
  · rw [cpy_lt _ _ (by omega)]; exact h.1.1 k s h1 h6 hs
  · rw [cpy_lt _ _ (by omega)]; exact h.1.2 c s hc hs
/-- the class's cells of a position -/
theorem x9_read {ch : Nat → Nat} {len : Nat} (h : chP ch len) {arr : Nat → Int32} (ht : tyP ch len arr) {rays kns kgs pws : Nat → Int64} {tab : Nat → Int32} (hT : lnT rays kns kgs pws) (hB : tbP tab) {dmen : Nat → Int32} (hz : ∀ s, 64 ≤ s → dmen s = 0) {z : Pz} (hg : gbd z.1) {bal : Int32} {kinds sides : Nat → Int64} (hC : clP z.1 bal kinds sides) (li ma wa a0 d1 d2 d3 d4 d5 d6 : Int32) (dk ds : Nat → Int64) : ∃ (a' m' r' p' h' n' b' : Int32) (men' : Nat → Int32) (kinds' sides' : Nat → Int64) (bal2 : Int32) (kinds2 sides2 : Nat → Int64), m_X9_read li ma wa (nI len) a0 arr (nI z.2.1) (nI z.2.2.1) (pI z.2.2.2.1) (nI z.2.2.2.2.1) (nI z.2.2.2.2.2) bal z.1 kinds sides d1 d2 d3 d4 d5 d6 dmen dk ds rays kns kgs pws tab = some (nI (rdF ch len), (if rdF ch len = 0 then -1 else li), (if rdF ch len = 0 then 0 else ma), rdW ch len, 0, a', nI (if rdF ch len = 0 then rdN (rdZ ch len) else z).2.1, nI (if rdF ch len = 0 then rdN (rdZ ch len) else z).2.2.1, pI (if rdF ch len = 0 then rdN (rdZ ch len) else z).2.2.2.1, nI (if rdF ch len = 0 then rdN (rdZ ch len) else z).2.2.2.2.1, nI (if rdF ch len = 0 then rdN (rdZ ch len) else z).2.2.2.2.2, bal2, (if rdF ch len = 0 then rdN (rdZ ch len) else z).1, kinds2, sides2, m', r', p', h', n', b', men', kinds', sides') ∧ gbd men' ∧ clP (if rdF ch len = 0 then rdN (rdZ ch len) else z).1 bal2 kinds2 sides2 := by
  obtain ⟨a', m', r', p', h', n', b', men', kinds', sides', e1, g1, hok⟩ := x5_useUp h ht hT hB hz wa a0 d1 d2 d3 d4 d5 d6 dk ds
  have hle := rdF_le ch len
  have c0 : nI (rdF ch len) = 0 ↔ rdF ch len = 0 := nI_eq0 (by omega)
  unfold m_X9_read m_X9_read_b38
  rw [ob_s e1]
  try dsimp only
  by_cases f0 : rdF ch len = 0
  · obtain ⟨q1, q2, q3, q4, q5, q6, q7⟩ := hok f0
    simp only [if_pos f0]
    rw [if_pos (c0.mpr f0)]
    unfold m_X0_takeOver m_X4_forget
    simp only [ol_r]
    rw [cpy_bd g1.2 hg.2]
    refine ⟨a', m', r', p', h', n', b', men', kinds', sides', b', va_cpy kinds' kinds 0 0 7, va_cpy sides' sides 0 0 2, ?_, g1, ?_⟩
    · rw [← q2, ← q3, ← q4, ← q5, ← q6, ← q1]
      rfl
    · rw [← q1]
      exact cpy_cl q7 kinds sides
  · simp only [if_neg f0]
    rw [if_neg (fun w => f0 (c0.mp w))]
    exact ⟨a', m', r', p', h', n', b', men', kinds', sides', bal, kinds, sides, rfl, g1, hC⟩
theorem takeRead_l {rb : Nat → Int32} (rs rr rp rh rn : Int32) : ∀ (f n d : Nat) (v1 v2 v3 v4 v5 : Int32) (b0 : Nat → Int32), d + f = 64 → m_X10_takeRead_l2 rs rr rp rh rn rb (n + f + 1) v1 v2 v3 v4 v5 (fun j => if j < d then rb j else b0 j) (nI d) = some (rs, rr, rp, rh, rn, fun j => if j < 64 then rb j else b0 j) := by
  intro f
  induction f with
  | zero =>
    intro n d v1 v2 v3 v4 v5 b0 hd
    have : d = 64 := by omega
    subst this
    rw [m_X10_takeRead_l2_s]
    unfold m_X10_takeRead_b2
    rw [if_pos (by decide)]
  | succ f ih =>
    intro n d v1 v2 v3 v4 v5 b0 hd
    rw [show n + (f + 1) + 1 = n + f + 1 + 1 from rfl, m_X10_takeRead_l2_s]
    unfold m_X10_takeRead_b2
    rw [if_neg (show ¬ (64 : Int32) ≤ nI d from nI_ge (b := 64) (by omega) (by omega)), oin_n (by omega) (by omega), nI_clamp (by omega), ol_r, oin_n (by omega) (by omega), ol_r, ol_r, nI_1]
    have e : upd (fun j => if j < d then rb j else b0 j) d (rb d) = fun j => if j < d + 1 then rb j else b0 j := by
      funext j
      by_cases q : j = d
      · subst q
        rw [pk_us, if_pos (by omega)]
      · rw [pk_un q]
        by_cases g : j < d
        · rw [if_pos g, if_pos (by omega)]
        · rw [if_neg g, if_neg (by omega)]
    rw [e]
    exact ih n (d + 1) v1 v2 v3 v4 v5 b0 (by omega)
theorem x10_takeRead {rb b0 : Nat → Int32} (hr : ∀ s, 64 ≤ s → rb s = 0) (hb : ∀ s, 64 ≤ s → b0 s = 0) (rs rr rp rh rn v1 v2 v3 v4 v5 : Int32) : m_X10_takeRead v1 v2 v3 v4 v5 rs rr rp rh rn b0 rb = some (rs, rr, rp, rh, rn, rb) := by
  have e := takeRead_l (rb := rb) rs rr rp rh rn 64 (kF - 65) 0 v1 v2 v3 v4 v5 b0 (by omega)
  have e0 : (fun j => if j < 0 then rb j else b0 j) = b0 := by
    funext j
    rw [if_neg (by omega)]
  have e1 : (fun j => if j < 64 then rb j else b0 j) = rb := by
    funext j
    by_cases g : j < 64
    · rw [if_pos g]
    · rw [if_neg g, hb j (by omega), hr j (by omega)]
  rw [e0, e1] at e
  exact e
theorem x10_read {ch : Nat → Nat} {len : Nat} (h : chP ch len) {arr : Nat → Int32} (ht : tyP ch len arr) {rb : Nat → Int32} (hz : ∀ s, 64 ≤ s → rb s = 0) {z : Pz} (hg : gbd z.1) {top : Nat} (hT : top < 1030) (code ra pl v rs rr rp rh rn : Int32) (bf cs cm : Nat → Int32) : ∃ (ra' v' rs' rr' rp' rh' rn' : Int32) (bf' cs' cm' rb' : Nat → Int32), m_X10_read code (nI z.2.1) (nI z.2.2.1) (pI z.2.2.2.1) (nI z.2.2.2.2.1) (nI z.2.2.2.2.2) (nI top) (nI len) ra pl v rs rr rp rh rn z.1 bf arr cs cm rb = some (nI (rdF ch len), 0, nI (if rdF ch len = 0 then rdN (rdZ ch len) else z).2.1, nI (if rdF ch len = 0 then rdN (rdZ ch len) else z).2.2.1, pI (if rdF ch len = 0 then rdN (rdZ ch len) else z).2.2.2.1, nI (if rdF ch len = 0 then rdN (rdZ ch len) else z).2.2.2.2.1, nI (if rdF ch len = 0 then rdN (rdZ ch len) else z).2.2.2.2.2, nI (if rdF ch len = 0 then 0 else top), 0, ra', rdW ch len, v', rs', rr', rp', rh', rn', (if rdF ch len = 0 then rdN (rdZ ch len) else z).1, bf', cs', cm', rb') ∧ (∀ s, 64 ≤ s → rb' s = 0) ∧ (∀ j, j < 69 * top → bf' j = bf j) := by
  obtain ⟨w1, w2, w3, w4, w5, e1, hok⟩ := x10_isWritten h ht hz ra rs rr rp rh rn
  obtain ⟨g1, g3, g4, g5, _⟩ := rd_le h
  unfold m_X10_read
  rw [ob_s e1]
  try dsimp only
  unfold m_X10_read_b23 m_X10_read_b89
  by_cases c : (rdS ch len).1 = true
  case neg =>
    have hF : rdF ch len = 1 := by unfold rdF; rw [if_neg c]
    have hW : rdW ch len = nI (rdS ch len).2 := by unfold rdW; rw [if_neg c]
    rw [bF c, if_pos bI_fz, if_pos bI_fz, hF, hW]
    exact ⟨_, _, _, _, _, _, _, _, _, _, _, rfl, g1.2, fun _ _ => rfl⟩
  obtain ⟨q1, q2, q3, q4, q5, q6⟩ := hok c
  have hF : rdF ch len = flS (rdZ ch len) := by unfold rdF; rw [if_pos c]
  have hW : rdW ch len = -1 := by unfold rdW; rw [if_pos c]
  obtain ⟨bf1, p1, p2, p3⟩ := x10_push z bf hT
  rw [c, if_neg bI_tn, if_neg bI_tn, hF, hW, ob_s p1]
  try dsimp only
  rw [ob_s (x10_takeRead g1.2 hg.2 w1 w2 w3 w4 w5 _ _ _ _ _)]
  try dsimp only
  rw [q1, q2, q3, q4, q5, ob_s (x10_faultNow g1 g3 g4 g5)]
  have hle := flS_le (rdZ ch len)
  by_cases f0 : flS (rdZ ch len) = 0
  · have hi := fl_inv g1 g3 g4 g5 f0
    have c0 : nI (flS (rdZ ch len)) ≤ 0 := by rw [f0]; decide
    simp only [if_pos f0]
    rw [if_pos c0, f0]
    by_cases y64 : (rdZ ch len).2.2.2.1 < 64
    · have hE := hi.2.2.2.2.2.2.2.2.2 y64
      have r5 := rk5 g3 hE.1
      obtain ⟨v', cs', cm', t1⟩ := x10_isTakenAt g1 g3 y64 (fun _ => r5.1) (fun _ => r5.2.1) v cs cm
      rw [pI_lt y64, if_neg (nI_nm1 (by omega)), ob_s t1]
      try dsimp only
      by_cases y : tknS (rdZ ch len).1 (rdZ ch len).2.1 (rdZ ch len).2.2.2.1 = true
      · have eN : rdN (rdZ ch len) = rdZ ch len := by unfold rdN; rw [if_pos ⟨y64, y⟩]
        rw [y, if_neg bI_tn, eN, pI_lt y64]
        exact ⟨_, _, _, _, _, _, _, _, _, _, _, rfl, g1.2, p3⟩
      · have eP : pI (rdN (rdZ ch len)).2.2.2.1 = -1 := by unfold rdN; dsimp only; rw [if_neg (fun w => y w.2)]; rfl
        rw [bF y, if_pos bI_fz, eP]
        exact ⟨_, _, _, _, _, _, _, _, _, _, _, rfl, g1.2, p3⟩
    · have e64 : (rdZ ch len).2.2.2.1 = 64 := by omega
      have eP : pI (rdN (rdZ ch len)).2.2.2.1 = -1 := by unfold rdN; dsimp only; rw [if_neg (fun w => y64 w.1)]; rfl
      rw [e64, pI_no, if_pos rfl, eP]
      exact ⟨_, _, _, _, _, _, _, _, _, _, _, rfl, g1.2, p3⟩
  · have c0 : ¬ nI (flS (rdZ ch len)) ≤ 0 := nI_ge (a := 0) (by omega) (by omega)
    simp only [if_neg f0]
    rw [if_neg c0, ob_s (x10_pop hT p2 hg g1 _ _ _ _ _)]
    try dsimp only
    exact ⟨_, _, _, _, _, _, _, _, _, _, _, rfl, g1.2, p3⟩
