/-! Listing, one move of the list, the state, playing: both alike. -/
def LV (z : Pz) (li : Int32) (lg : Nat → Int32) : Prop := li = -1 ∨ (li = nI (lmS z).length ∧ rwC (lmS z) lg)
theorem jC_of {z : Pz} (hi : inv z) (h : z.2.2.2.2.1 < 20000) (k : Nat) (hk : k ≤ 3) : jC k z := ⟨hi, by omega⟩
theorem x9_list {z : Pz} (hi : inv z) {kinds sides rays kns kgs pws : Nat → Int64} (hT : lnT rays kns kgs pws) (hB : brP z.1 kinds sides) {li : Int32} {lg : Nat → Int32} (h : LV z li lg) (v1 v4 : Int32) (v2 v3 v5 v6 v7 : Int64) (st : Nat → Int32) (go : Nat → Int64) : ∃ (lg' : Nat → Int32) (v1' v4' : Int32) (v2' v3' v5' v6' v7' : Int64) (st' : Nat → Int32) (go' : Nat → Int64), m_X9_listLegal li lg v1 v2 v3 v4 v5 v6 v7 st go (nI z.2.1) (nI z.2.2.1) (pI z.2.2.2.1) z.1 kinds sides rays kns kgs pws = some (nI (lmS z).length, nI (lmS z).length, lg', v1', v2', v3', v4', v5', v6', v7', st', go') ∧ rwC (lmS z) lg' := by
  have hl := lmS_len hi
  unfold m_X9_listLegal m_X9_listLegal_b34
  rcases h with h | ⟨h1, h2⟩
  · subst h
    obtain ⟨own, all, S, P, Q, k, st', go', e1, hsv⟩ := x2_survey hi hT hB v1 v4 v2 v3 v5 v6 v7 st go
    have e0 : ([] ++ lsP z (bt (-1))) = lmS z := by rw [List.nil_append]; exact ls_all z hi
    obtain ⟨row', e2, hr⟩ := x2_list hi hsv (-1) (l0 := []) (row := lg) (fun i m e => by simp at e) (by rw [e0]; exact hl)
    rw [e0] at e2 hr
    have e2 : m_X2_list (nI (owL z).length) st' go' lg (nI z.2.1) z.1 0 (-1) = some (nI (lmS z).length, row') := e2
    rw [if_pos rfl, ob_s e1]
    try dsimp only
    rw [ob_s e2]
    exact ⟨row', _, _, _, _, _, _, _, _, _, rfl, hr⟩
  · subst h1
    rw [if_neg (nI_nm1 (by omega))]
    exact ⟨lg, _, _, _, _, _, _, _, _, _, rfl, h2⟩
theorem x10_find0 {z : Pz} (hi : inv z) (v : Int32) (fr to tu co cs cm : Nat → Int32) : ∃ (v' : Int32) (fr' to' tu' co' cs' cm' : Nat → Int32), m_X10_find (nI z.2.1) (nI z.2.2.1) (pI z.2.2.2.1) v z.1 fr to tu co cs cm 0 = some (v', z.1, fr', to', tu', co', cs', cm') ∧ co' 0 = nI (lmS z).length ∧ ∀ i m, (lmS z)[i]? = some m → fr' i = nI m.1 ∧ to' i = nI m.2.1 ∧ tu' i = nI m.2.2 := by
  have hl := lmS_len hi
  obtain ⟨v', fr', to', tu', co', cs', cm', e, hs⟩ := x10_find hi.1 hi.2.1 hi.2.2.1 hi.2.2.2.1 (inv_rgK hi) (by omega) (d := 0) (by omega) v fr to tu co cs cm
  refine ⟨v', fr', to', tu', co', cs', cm', e, hs.1, fun i m hm => ?_⟩
  have := hs.2.1 i m hm
  rw [Nat.mul_zero, Nat.zero_add] at this
  exact this
theorem lm_ok {z : Pz} {m : Mv} (h : m ∈ lmS z) : mvOK m := ⟨(lmS_mem.mp h).1, (lmS_mem.mp h).2.1, tuS_le (lmS_mem.mp h).2.2.2.2.1⟩
theorem moves_c {z : Pz} (hi : inv z) {kinds sides rays kns kgs pws : Nat → Int64} (hT : lnT rays kns kgs pws) (hB : brP z.1 kinds sides) {li : Int32} {lg : Nat → Int32} (h : LV z li lg) (v1 v4 : Int32) (v2 v3 v5 v6 v7 : Int64) (st : Nat → Int32) (go : Nat → Int64) : ∃ (lg' : Nat → Int32) (v1' v4' : Int32) (v2' v3' v5' v6' v7' : Int64) (st' : Nat → Int32) (go' : Nat → Int64), m_X9_moves li lg v1 v2 v3 v4 v5 v6 v7 st go (nI z.2.1) (nI z.2.2.1) (pI z.2.2.2.1) z.1 kinds sides rays kns kgs pws = some (nI (lmS z).length, nI (lmS z).length, lg', v1', v2', v3', v4', v5', v6', v7', st', go') ∧ rwC (lmS z) lg' := by
  obtain ⟨lg', v1', v4', v2', v3', v5', v6', v7', st', go', e, hr⟩ := x9_list hi hT hB h v1 v4 v2 v3 v5 v6 v7 st go
  unfold m_X9_moves
  rw [ob_s e]
  exact ⟨lg', _, _, _, _, _, _, _, _, _, rfl, hr⟩
theorem moves_r {z : Pz} (hi : inv z) (code v : Int32) (fr to tu co cs cm : Nat → Int32) : ∃ (v' : Int32) (fr' to' tu' co' cs' cm' : Nat → Int32), m_X10_moves code (nI z.2.1) (nI z.2.2.1) (pI z.2.2.2.1) v z.1 fr to tu co cs cm = some (nI (lmS z).length, 0, v', z.1, fr', to', tu', co', cs', cm') := by
  obtain ⟨v', fr', to', tu', co', cs', cm', e, h1, h2⟩ := x10_find0 hi v fr to tu co cs cm
  unfold m_X10_moves
  rw [ob_s e]
  try dsimp only
  rw [tn0, h1]
  exact ⟨_, _, _, _, _, _, _, rfl⟩
theorem move_both {z : Pz} (hi : inv z) {kinds sides rays kns kgs pws : Nat → Int64} (hT : lnT rays kns kgs pws) (hB : brP z.1 kinds sides) {li : Int32} {lg : Nat → Int32} (h : LV z li lg) (v1 v4 : Int32) (v2 v3 v5 v6 v7 : Int64) (st : Nat → Int32) (go : Nat → Int64) (out : Nat → Int64) (p1 p2 code v : Int32) (fr to tu co cs cm : Nat → Int32) : ∃ (r r2 li' : Int32) (lg' : Nat → Int32) (v1' v4' : Int32) (v2' v3' v5' v6' v7' : Int64) (st' : Nat → Int32) (go' out' : Nat → Int64) (v' : Int32) (fr' to' tu' co' cs' cm' : Nat → Int32), m_L_move li lg v1 v2 v3 v4 v5 v6 v7 st go (nI z.2.1) (nI z.2.2.1) (pI z.2.2.2.1) z.1 kinds sides rays kns kgs pws out p1 p2 = some (r, li', lg', v1', v2', v3', v4', v5', v6', v7', st', go', out') ∧ m_X10_move code (nI z.2.1) (nI z.2.2.1) (pI z.2.2.2.1) v z.1 fr to tu co cs cm p1 p2 = some (r2, r, v', z.1, fr', to', tu', co', cs', cm') ∧ (r = 0 → lg_cmp (out' 0) r2.toInt64 = 0) ∧ LV z li' lg' := by
  have hl := lmS_len hi
  obtain ⟨v', fr', to', tu', co', cs', cm', e, h1, h2⟩ := x10_find0 hi v fr to tu co cs cm
  obtain ⟨lg', v1', v4', v2', v3', v5', v6', v7', st', go', e2, hr⟩ := x9_list hi hT hB h v1 v4 v2 v3 v5 v6 v7 st go
  unfold m_L_move m_X9_move m_X9_move_b12 m_X10_move m_X10_move_b20 m_X10_move_b33 m_X10_move_b38 m_X10_move_b85
  rw [ob_s e, ob_s e2]
  try dsimp only
  rw [tn0, h1]
  rcases n_or p1 with q | ⟨n, hn, e3⟩
  · rw [if_pos q, if_pos q]
    exact ⟨1, 0, li, lg, v1, v4, v2, v3, v5, v6, v7, st, go, out, v', fr', to', tu', co', cs', cm', rfl, rfl, fun w => absurd w (by decide), h⟩
  · subst e3
    have hq : ¬ nI n < 0 := nI_nlt (b := 0) (by omega) (by omega)
    have c : nI n < nI (lmS z).length ↔ n < (lmS z).length := nI_ltI (by omega) (by omega)
    rw [if_neg hq, if_neg hq]
    by_cases g : n < (lmS z).length
    case neg =>
      rw [if_neg (fun w => g (c.mp w)), if_neg (fun w => g (c.mp w))]
      exact ⟨1, 0, _, lg', v1', v4', v2', v3', v5', v6', v7', st', go', out, v', fr', to', tu', co', cs', cm', rfl, rfl, fun w => absurd w (by decide), Or.inr ⟨rfl, hr⟩⟩
    rw [if_pos (c.mpr g), if_pos (c.mpr g)]
    rcases p_or p2 with q | ⟨d, hd, e3⟩
    · rw [ob_s (x9_isPart0 q), if_pos rfl]
      rcases q with q | q
      · rw [if_pos q]
        exact ⟨2, 0, _, lg', v1', v4', v2', v3', v5', v6', v7', st', go', out, v', fr', to', tu', co', cs', cm', rfl, rfl, fun w => absurd w (by decide), Or.inr ⟨rfl, hr⟩⟩
      · have : ¬ p2 ≤ 2 := fun w => by rw [i_le] at w; rw [i_lt] at q; omega
        rw [if_neg this, ite_self]
        exact ⟨2, 0, _, lg', v1', v4', v2', v3', v5', v6', v7', st', go', out, v', fr', to', tu', co', cs', cm', rfl, rfl, fun w => absurd w (by decide), Or.inr ⟨rfl, hr⟩⟩
    · subst e3
      have hm := List.getElem?_eq_getElem g
      have hok := lm_ok (List.getElem_mem g)
      obtain ⟨f1, f2, f3⟩ := h2 n _ hm
      have f4 := hr n _ hm
      rw [ob_s (x9_isPart1 hd), if_neg (by decide), oin_n (by omega) (by omega), nI_clamp (by omega), f4, ob_s (x9_part hok hd), if_neg (show ¬ nI d < 0 from nI_nlt (b := 0) (by omega) (by omega)), if_pos (show nI d ≤ 2 from nI_le (b := 2) (by omega) (by omega))]
      have : d = 0 ∨ d = 1 ∨ d = 2 := by omega
      rcases this with q | q | q <;> subst q
      · rw [if_pos (show (0 : Int32) ≤ 0 by decide), if_pos (show nI 0 = 0 by decide), oin_n (show n < 2560 by omega) (by omega), f1]
        exact ⟨0, nI (lmS z)[n].1, _, lg', v1', v4', v2', v3', v5', v6', v7', st', go', vp_updL out 0 (nI (lmS z)[n].1).toInt64, v', fr', to', tu', co', cs', cm', rfl, rfl, fun _ => lg_same _, Or.inr ⟨rfl, hr⟩⟩
      · rw [if_pos (show (0 : Int32) ≤ 0 by decide), if_neg (show ¬ nI 1 = 0 by decide), if_pos (show nI 1 = 1 by decide), oin_n (show n < 2560 by omega) (by omega), f2]
        exact ⟨0, nI (lmS z)[n].2.1, _, lg', v1', v4', v2', v3', v5', v6', v7', st', go', vp_updL out 0 (nI (lmS z)[n].2.1).toInt64, v', fr', to', tu', co', cs', cm', rfl, rfl, fun _ => lg_same _, Or.inr ⟨rfl, hr⟩⟩
      · rw [if_pos (show (0 : Int32) ≤ 0 by decide), if_neg (show ¬ nI 2 = 0 by decide), if_neg (show ¬ nI 2 = 1 by decide), oin_n (show n < 2560 by omega) (by omega), f3]
        exact ⟨0, nI (lmS z)[n].2.2, _, lg', v1', v4', v2', v3', v5', v6', v7', st', go', vp_updL out 0 (nI (lmS z)[n].2.2).toInt64, v', fr', to', tu', co', cs', cm', rfl, rfl, fun _ => lg_same _, Or.inr ⟨rfl, hr⟩⟩
/-- the state -/
def stS (hh : Nat → Pz) (top : Nat) : Int32 := if (lmS (hh top)).length = 0 then (if chkS (hh top).1 (hh top).2.1 then 1 else 2) else if 100 ≤ (hh top).2.2.2.2.1 then 3 else if 1 < thN hh top (hh top) then 4 else if bareS (hh top).1 then 5 else 0
theorem state_c {hh : Nat → Pz} {top : Nat} (htop : top < 1000) {mv pb : Nat → Int32} (hH : hiP hh top mv pb) {kinds sides rays kns kgs pws : Nat → Int64} (hT : lnT rays kns kgs pws) (hB : brP (hh top).1 kinds sides) {li : Int32} {lg : Nat → Int32} (h : LV (hh top) li lg) (v1 v4 : Int32) (v2 v3 v5 v6 v7 : Int64) (st : Nat → Int32) (go : Nat → Int64) (er : Nat → Int32) : ∃ (lg' : Nat → Int32) (v1' v4' : Int32) (v2' v3' v5' v6' v7' : Int64) (st' : Nat → Int32) (go' : Nat → Int64) (er' : Nat → Int32), m_X9_state li lg v1 v2 v3 v4 v5 v6 v7 st go (nI top) mv pb er (nI (hh top).2.1) (nI (hh top).2.2.1) (pI (hh top).2.2.2.1) (nI (hh top).2.2.2.2.1) (hh top).1 kinds sides rays kns kgs pws = some (stS hh top, nI (lmS (hh top)).length, lg', v1', v2', v3', v4', v5', v6', v7', st', go', er') ∧ rwC (lmS (hh top)) lg' := by
  obtain ⟨hi, h65⟩ := hH.1 top (Nat.le_refl _)
  have hl := lmS_len hi
  obtain ⟨lg', v1', v4', v2', v3', v5', v6', v7', st', go', e2, hr⟩ := x9_list hi hT hB h v1 v4 v2 v3 v5 v6 v7 st go
  obtain ⟨k, hk⟩ := hi.2.2.2.2.1 _ hi.2.1
  obtain ⟨er', e3⟩ := x4_isThrice (by omega) hH er
  have c0 : nI (lmS (hh top)).length = 0 ↔ (lmS (hh top)).length = 0 := nI_eq0 (by omega)
  unfold m_X9_state m_X9_state_b29 m_X9_state_b69 stS
  rw [ob_s e2]
  try dsimp only
  rw [ob_s (x0_isInCheck hi.1 hT hB hi.2.1 hk), ob_s (x0_isFifty (by omega)), ob_s e3]
  try dsimp only
  rw [ob_s (x0_isBare hB)]
  simp only [bI_if, c0]
  by_cases g : (lmS (hh top)).length = 0
  · rw [if_pos g, if_pos g]
    cases chkS (hh top).1 (hh top).2.1 with
    | true => exact ⟨lg', _, _, _, _, _, _, _, _, _, _, rfl, hr⟩
    | false => exact ⟨lg', _, _, _, _, _, _, _, _, _, _, rfl, hr⟩
  · rw [if_neg g, if_neg g]
    by_cases g1 : 100 ≤ (hh top).2.2.2.2.1
    · rw [if_pos g1]
      simp only [g1, decide_true, if_true]
      exact ⟨lg', _, _, _, _, _, _, _, _, _, _, rfl, hr⟩
    · rw [if_neg g1]
      simp only [g1, decide_false, Bool.false_eq_true, if_false]
      by_cases g2 : 1 < thN hh top (hh top)
      · rw [if_pos g2]
        simp only [g2, decide_true, if_true]
        exact ⟨lg', _, _, _, _, _, _, _, _, _, _, rfl, hr⟩
      · rw [if_neg g2]
        simp only [g2, decide_false, Bool.false_eq_true, if_false]
        cases bareS (hh top).1 with
        | true => exact ⟨lg', _, _, _, _, _, _, _, _, _, _, rfl, hr⟩
        | false => exact ⟨lg', _, _, _, _, _, _, _, _, _, _, rfl, hr⟩
theorem state_r {hh : Nat → Pz} {top : Nat} (htop : top < 1000) {bf : Nat → Int32} (hI : ∀ i, i ≤ top → inv (hh i)) (h65 : (hh top).2.2.2.2.1 < 65536) (hs : ∀ k, k < top → hsP bf k (hh k)) (code v : Int32) (fr to tu co cs cm : Nat → Int32) : ∃ (v' : Int32) (fr' to' tu' co' cs' cm' : Nat → Int32), m_X10_state code (nI (hh top).2.1) (nI (hh top).2.2.1) (pI (hh top).2.2.2.1) (nI (hh top).2.2.2.2.1) (nI top) v (hh top).1 bf fr to tu co cs cm = some (stS hh top, 0, v', (hh top).1, fr', to', tu', co', cs', cm') := by
  have hi := hI top (Nat.le_refl _)
  have hl := lmS_len hi
  obtain ⟨v', fr', to', tu', co', cs', cm', e, h1, h2⟩ := x10_find0 hi v fr to tu co cs cm
  have e3 := x10_isThrice (bf := bf) (hh := hh) (top := top) (z := hh top) (by omega) (fun k hk => ⟨hs k hk, (hI k (by omega)).2.1, (hI k (by omega)).2.2.1, (hI k (by omega)).2.2.2.1⟩) hi.2.1 hi.2.2.1 hi.2.2.2.1
  have c0 : nI (lmS (hh top)).length = 0 ↔ (lmS (hh top)).length = 0 := nI_eq0 (by omega)
  have c1 : nI (hh top).2.2.2.2.1 < 100 ↔ (hh top).2.2.2.2.1 < 100 := nI_ltI (b := 100) (by omega) (by omega)
  unfold m_X10_state m_X10_state_b35 m_X10_state_b72 stS
  rw [ob_s e]
  try dsimp only
  rw [tn0, h1, ob_s (x10_inCheck hi.1 hi.2.1), ob_s e3, ob_s (x10_isBare hi.1)]
  simp only [bI_if, c0, c1]
  by_cases g : (lmS (hh top)).length = 0
  · rw [if_pos g, if_pos g]
    cases chkS (hh top).1 (hh top).2.1 with
    | true => exact ⟨_, _, _, _, _, _, _, rfl⟩
    | false => exact ⟨_, _, _, _, _, _, _, rfl⟩
  · rw [if_neg g, if_neg g]
    by_cases g1 : 100 ≤ (hh top).2.2.2.2.1
    · rw [if_pos g1, if_neg (by omega)]
      exact ⟨_, _, _, _, _, _, _, rfl⟩
    · rw [if_neg g1, if_pos (by omega)]
      by_cases g2 : 1 < thN hh top (hh top)
      · rw [if_pos g2]
        simp only [g2, decide_true, if_true]
        exact ⟨_, _, _, _, _, _, _, rfl⟩
      · rw [if_neg g2]
        simp only [g2, decide_false, Bool.false_eq_true, if_false]
        cases bareS (hh top).1 with
        | true => exact ⟨_, _, _, _, _, _, _, rfl⟩
        | false => exact ⟨_, _, _, _, _, _, _, rfl⟩
