/-! Taking back, ways, search: both alike. -/
theorem back_no {z : Pz} (li : Int32) (mv pb : Nat → Int32) (bal : Int32) (kinds sides : Nat → Int64) (tab : Nat → Int32) (out : Nat → Int64) (code : Int32) (bf : Nat → Int32) : m_L_back li (nI 0) mv pb (nI z.2.1) (nI z.2.2.1) (pI z.2.2.2.1) (nI z.2.2.2.2.1) (nI z.2.2.2.2.2) bal z.1 kinds sides tab out = some (1, li, nI 0, nI z.2.1, nI z.2.2.1, pI z.2.2.2.1, nI z.2.2.2.2.1, nI z.2.2.2.2.2, bal, z.1, kinds, sides, out) ∧ m_X10_back code (nI z.2.1) (nI z.2.2.1) (pI z.2.2.2.1) (nI z.2.2.2.2.1) (nI z.2.2.2.2.2) (nI 0) z.1 bf = some (0, 1, nI z.2.1, nI z.2.2.1, pI z.2.2.2.1, nI z.2.2.2.2.1, nI z.2.2.2.2.2, nI 0, z.1) := by
  refine ⟨?_, ?_⟩
  · unfold m_L_back m_X9_back
    rw [if_pos (show nI 0 = 0 by decide)]
    rfl
  · unfold m_X10_back m_X10_back_b13
    rw [if_pos (show nI 0 = 0 by decide), if_neg (by decide)]
theorem back_ok {hh : Nat → Pz} {top : Nat} (htop : top < 1000) {mv pb : Nat → Int32} (hH : hiP hh (top + 1) mv pb) {tab : Nat → Int32} (hB : tbP tab) {bal : Int32} {kinds sides : Nat → Int64} (hC : clP (hh (top + 1)).1 bal kinds sides) {bf : Nat → Int32} (hs : hsP bf top (hh top)) (li : Int32) (out : Nat → Int64) (code : Int32) : ∃ (bal' : Int32) (kinds' sides' out' : Nat → Int64), m_L_back li (nI (top + 1)) mv pb (nI (hh (top + 1)).2.1) (nI (hh (top + 1)).2.2.1) (pI (hh (top + 1)).2.2.2.1) (nI (hh (top + 1)).2.2.2.2.1) (nI (hh (top + 1)).2.2.2.2.2) bal (hh (top + 1)).1 kinds sides tab out = some (0, -1, nI top, nI (hh top).2.1, nI (hh top).2.2.1, pI (hh top).2.2.2.1, nI (hh top).2.2.2.2.1, nI (hh top).2.2.2.2.2, bal', (hh top).1, kinds', sides', out') ∧ m_X10_back code (nI (hh (top + 1)).2.1) (nI (hh (top + 1)).2.2.1) (pI (hh (top + 1)).2.2.2.1) (nI (hh (top + 1)).2.2.2.2.1) (nI (hh (top + 1)).2.2.2.2.2) (nI (top + 1)) (hh (top + 1)).1 bf = some (nI top, 0, nI (hh top).2.1, nI (hh top).2.2.1, pI (hh top).2.2.2.1, nI (hh top).2.2.2.2.1, nI (hh top).2.2.2.2.2, nI top, (hh top).1) ∧ lg_cmp (out' 0) (nI top).toInt64 = 0 ∧ clP (hh top).1 bal' kinds' sides' := by
  obtain ⟨f, t, u, hm, e1, e2, e3⟩ := hH.2 top (by omega)
  obtain ⟨hi, h65⟩ := hH.1 top (by omega)
  have hg2 := (hH.1 (top + 1) (by omega)).1.1
  have hpop := x10_pop (by omega) hs hi.1 hg2 (nI (hh (top + 1)).2.1) (nI (hh (top + 1)).2.2.1) (pI (hh (top + 1)).2.2.2.1) (nI (hh (top + 1)).2.2.2.2.1) (nI (hh (top + 1)).2.2.2.2.2)
  have hne : ¬ nI (top + 1) = 0 := fun w => by have := (nI_eq0 (by omega)).mp w; omega
  have hC' := hC
  rw [e1] at hC'
  obtain ⟨bal', kinds', sides', c1, c2⟩ := x4_takeBack hi h65 hB hm hC' (made := top) (by omega) e2 e3 (nI (hh (top + 1)).2.2.1) (pI (hh (top + 1)).2.2.2.1) (nI (hh (top + 1)).2.2.2.2.1)
  have q1 : (1 - (hh top).2.1) = (hh (top + 1)).2.1 := by rw [e1]; rfl
  have q2 : ((hh top).2.2.2.2.2 + (hh top).2.1) = (hh (top + 1)).2.2.2.2.2 := by rw [e1]; rfl
  rw [q1, q2, ← e1] at c1
  refine ⟨bal', kinds', sides', vp_updL out 0 (nI top).toInt64, ?_, ?_, lg_same _, c2⟩
  · unfold m_L_back m_X9_back
    rw [if_neg hne, ob_s c1]
    rfl
  · unfold m_X10_back m_X10_back_b13
    rw [if_neg hne, if_pos (by decide), ob_s hpop]
def wyP (z : Pz) (L : Option (Int32 × (Nat → Int32) × (Nat → Int32) × Int32 × Int64 × Int64 × Int32 × Int64 × Int64 × Int64 × (Nat → Int32) × (Nat → Int64) × Int32 × (Nat → Int32) × (Nat → Int32) × Int32 × Int32 × Int32 × Int32 × Int32 × Int32 × (Nat → Int32) × (Nat → Int64) × (Nat → Int64) × (Nat → Int64))) (X : Option (Int32 × Int32 × Int32 × Int32 × Int32 × Int32 × Int32 × Int32 × Int32 × (Nat → Int32) × (Nat → Int32) × (Nat → Int32) × (Nat → Int32) × (Nat → Int32) × (Nat → Int32) × (Nat → Int32) × (Nat → Int32))) (top : Nat) (mv pb bf : Nat → Int32) : Prop := ∃ (r r2 : Int32) (row2' row3' : Nat → Int32) (v1' v4' : Int32) (v2' v3' v5' v6' v7' : Int64) (st' : Nat → Int32) (go' : Nat → Int64) (mv' pb' : Nat → Int32) (bal' : Int32) (kinds' sides' out' : Nat → Int64) (v' : Int32) (bf' fr' to' tu' co' cs' cm' : Nat → Int32), L = some (r, row2', row3', v1', v2', v3', v4', v5', v6', v7', st', go', nI top, mv', pb', nI z.2.1, nI z.2.2.1, pI z.2.2.2.1, nI z.2.2.2.2.1, nI z.2.2.2.2.2, bal', z.1, kinds', sides', out') ∧ X = some (r2, r, nI z.2.1, nI z.2.2.1, pI z.2.2.2.1, nI z.2.2.2.2.1, nI z.2.2.2.2.2, nI top, v', z.1, bf', fr', to', tu', co', cs', cm') ∧ (r = 0 → lg_cmp (out' 0) r2.toInt64 = 0) ∧ clP z.1 bal' kinds' sides' ∧ (∀ i, i < top → mv' i = mv i ∧ pb' i = pb i) ∧ ∀ j, j < 69 * top → bf' j = bf j
theorem ways_both {z : Pz} (hi : inv z) (h2 : z.2.2.2.2.1 < 20000) {rays kns kgs pws : Nat → Int64} {tab : Nat → Int32} (hT : lnT rays kns kgs pws) (hB : tbP tab) {bal : Int32} {kinds sides : Nat → Int64} (hC : clP z.1 bal kinds sides) {top : Nat} (htop : top < 1000) (row2 row3 : Nat → Int32) (v1 v4 : Int32) (v2 v3 v5 v6 v7 : Int64) (st : Nat → Int32) (go : Nat → Int64) (mv pb : Nat → Int32) (out : Nat → Int64) (p code v : Int32) (bf fr to tu co cs cm : Nat → Int32) : wyP z (m_L_ways row2 row3 v1 v2 v3 v4 v5 v6 v7 st go (nI top) mv pb (nI z.2.1) (nI z.2.2.1) (pI z.2.2.2.1) (nI z.2.2.2.2.1) (nI z.2.2.2.2.2) bal z.1 kinds sides rays kns kgs pws tab out p) (m_X10_ways code (nI z.2.1) (nI z.2.2.1) (pI z.2.2.2.1) (nI z.2.2.2.2.1) (nI z.2.2.2.2.2) (nI top) v z.1 bf fr to tu co cs cm p) top mv pb bf := by
  unfold m_L_ways m_X9_ways m_X9_ways_b9 m_X10_ways m_X10_ways_b10 m_X10_ways_b15 m_X10_ways_b63
  rcases n_or p with q | ⟨n, hn, e⟩
  · rw [if_pos q, if_pos q]
    exact ⟨1, 0, row2, row3, v1, v4, v2, v3, v5, v6, v7, st, go, mv, pb, bal, kinds, sides, out, v, bf, fr, to, tu, co, cs, cm, rfl, rfl, fun w => absurd w (by decide), hC, fun _ _ => ⟨rfl, rfl⟩, fun _ _ => rfl⟩
  subst e
  have c : nI n ≤ 3 ↔ n ≤ 3 := nI_leI (b := 3) (by omega) (by omega)
  have hq : ¬ nI n < 0 := nI_nlt (b := 0) (by omega) (by omega)
  rw [if_neg hq, if_neg hq]
  by_cases g : n ≤ 3
  case neg =>
    rw [if_neg (fun w => g (c.mp w)), if_neg (fun w => g (c.mp w))]
    exact ⟨1, 0, row2, row3, v1, v4, v2, v3, v5, v6, v7, st, go, mv, pb, bal, kinds, sides, out, v, bf, fr, to, tu, co, cs, cm, rfl, rfl, fun w => absurd w (by decide), hC, fun _ _ => ⟨rfl, rfl⟩, fun _ _ => rfl⟩
  rw [if_pos (c.mpr g), if_pos (c.mpr g), if_pos (show (0 : Int32) ≤ 0 by decide)]
  have : n = 0 ∨ n = 1 ∨ n = 2 ∨ n = 3 := by omega
  rcases this with q | q | q | q <;> subst q
  · rw [if_pos (by decide), if_pos (by decide)]
    exact ⟨0, 1, row2, row3, v1, v4, v2, v3, v5, v6, v7, st, go, mv, pb, bal, kinds, sides, vp_updL out 0 (1 : Int32).toInt64, v, bf, fr, to, tu, co, cs, cm, rfl, rfl, fun _ => lg_same _, hC, fun _ _ => ⟨rfl, rfl⟩, fun _ _ => rfl⟩
  · obtain ⟨l1, l4, l2, l3, l5, l6, l7, l8, l9, a1⟩ := x6_cw1 hi hT hC.1 v1 v4 v2 v3 v5 v6 v7 st go
    obtain ⟨v', fr', to', tu', co', cs', cm', b1, _⟩ := x10_waysOne jC_ok (jC_of hi h2 1 (by omega)) v fr to tu co cs cm
    rw [if_neg (by decide), if_pos (by decide), ob_s a1, if_neg (by decide), if_pos (by decide), ob_s b1]
    try dsimp only
    exact ⟨0, nI (wyS 1 z), row2, row3, l1, l4, l2, l3, l5, l6, l7, l8, l9, mv, pb, bal, kinds, sides, vp_updL out 0 (nI (wyS 1 z)).toInt64, v', bf, fr', to', tu', co', cs', cm', rfl, rfl, fun _ => lg_same _, hC, fun _ _ => ⟨rfl, rfl⟩, fun _ _ => rfl⟩
  · obtain ⟨r2', l1, l4, l2, l3, l5, l6, l7, l8, l9, mv', pb', bal', kinds', sides', a1, a2, a3⟩ := x6_cw2 (jC_of hi h2 2 (by omega)) hT hB hC (made := top) (by omega) row2 v1 v4 v2 v3 v5 v6 v7 st go mv pb
    obtain ⟨v', bf', fr', to', tu', co', cs', cm', b1, b2, _⟩ := x10_waysTwo jC_ok (jC_of hi h2 2 (by omega)) (top := top) (by omega) v bf fr to tu co cs cm
    rw [if_neg (by decide), if_neg (by decide), if_pos (by decide), ob_s a1, if_neg (by decide), if_neg (by decide), if_pos (by decide), ob_s b1]
    try dsimp only
    exact ⟨0, nI (wyS 2 z), r2', row3, l1, l4, l2, l3, l5, l6, l7, l8, l9, mv', pb', bal', kinds', sides', vp_updL out 0 (nI (wyS 2 z)).toInt64, v', bf', fr', to', tu', co', cs', cm', rfl, rfl, fun _ => lg_same _, a2, a3, b2⟩
  · obtain ⟨r2', r3', l1, l4, l2, l3, l5, l6, l7, l8, l9, mv', pb', bal', kinds', sides', a1, a2, a3⟩ := x6_cw3 (jC_of hi h2 3 (by omega)) hT hB hC (made := top) (by omega) row2 row3 v1 v4 v2 v3 v5 v6 v7 st go mv pb
    obtain ⟨v', bf', fr', to', tu', co', cs', cm', b1, b2, _⟩ := x10_waysThree jC_ok (jC_of hi h2 3 (by omega)) (top := top) (by omega) v bf fr to tu co cs cm
    rw [if_neg (by decide), if_neg (by decide), if_neg (by decide), if_pos (by decide), ob_s a1, if_neg (by decide), if_neg (by decide), if_neg (by decide), ob_s b1]
    try dsimp only
    exact ⟨0, nI (wyS 3 z), r2', r3', l1, l4, l2, l3, l5, l6, l7, l8, l9, mv', pb', bal', kinds', sides', vp_updL out 0 (nI (wyS 3 z)).toInt64, v', bf', fr', to', tu', co', cs', cm', rfl, rfl, fun _ => lg_same _, a2, a3, b2⟩
def sePr (z : Pz) (L : Option (Int32 × Int32 × Int32 × (Nat → Int32) × Int32 × (Nat → Int32) × (Nat → Int32) × Int32 × Int64 × Int64 × Int32 × Int64 × Int64 × Int64 × (Nat → Int32) × (Nat → Int64) × Int32 × (Nat → Int32) × (Nat → Int32) × Int32 × Int32 × Int32 × Int32 × Int32 × Int32 × (Nat → Int32) × (Nat → Int64) × (Nat → Int64) × (Nat → Int64))) (X : Option (Int32 × Int32 × Int32 × Int32 × Int32 × Int32 × Int32 × Int32 × Int32 × Int32 × Int32 × Int32 × (Nat → Int32) × (Nat → Int32) × (Nat → Int32) × (Nat → Int32) × (Nat → Int32) × (Nat → Int32) × (Nat → Int32) × (Nat → Int32))) (top : Nat) (mv pb bf : Nat → Int32) : Prop := ∃ (r r2 li' ch' c1' c2' c3' sc' : Int32) (lg' row1' row2' : Nat → Int32) (v1' v4' : Int32) (v2' v3' v5' v6' v7' : Int64) (st' : Nat → Int32) (go' : Nat → Int64) (mv' pb' : Nat → Int32) (bal' : Int32) (kinds' sides' out' : Nat → Int64) (v' : Int32) (bf' fr' to' tu' co' cs' cm' : Nat → Int32), L = some (r, li', ch', lg', sc', row1', row2', v1', v2', v3', v4', v5', v6', v7', st', go', nI top, mv', pb', nI z.2.1, nI z.2.2.1, pI z.2.2.2.1, nI z.2.2.2.2.1, nI z.2.2.2.2.2, bal', z.1, kinds', sides', out') ∧ X = some (r2, r, nI z.2.1, nI z.2.2.1, pI z.2.2.2.1, nI z.2.2.2.2.1, nI z.2.2.2.2.2, nI top, c1', c2', c3', v', z.1, bf', fr', to', tu', co', cs', cm') ∧ (r = 0 → lg_cmp (out' 0) r2.toInt64 = 0) ∧ LV z li' lg' ∧ CV ch' c1' c2' c3' ∧ clP z.1 bal' kinds' sides' ∧ (∀ i, i < top → mv' i = mv i ∧ pb' i = pb i) ∧ ∀ j, j < 69 * top → bf' j = bf j
theorem search_both {z : Pz} (hi : inv z) (h2 : z.2.2.2.2.1 < 20000) {rays kns kgs pws : Nat → Int64} {tab : Nat → Int32} (hT : lnT rays kns kgs pws) (hB : tbP tab) {bal : Int32} {kinds sides : Nat → Int64} (hC : clP z.1 bal kinds sides) {li ch c1 c2 c3 : Int32} {lg : Nat → Int32} (h : LV z li lg) (hV : CV ch c1 c2 c3) {top : Nat} (htop : top < 1000) (sc : Int32) (row1 row2 : Nat → Int32) (v1 v4 : Int32) (v2 v3 v5 v6 v7 : Int64) (st : Nat → Int32) (go : Nat → Int64) (mv pb : Nat → Int32) (out : Nat → Int64) (p code v : Int32) (bf fr to tu co cs cm : Nat → Int32) : sePr z (m_L_search li ch lg sc row1 row2 v1 v2 v3 v4 v5 v6 v7 st go (nI top) mv pb (nI z.2.1) (nI z.2.2.1) (pI z.2.2.2.1) (nI z.2.2.2.2.1) (nI z.2.2.2.2.2) bal z.1 kinds sides rays kns kgs pws tab out p) (m_X10_search code (nI z.2.1) (nI z.2.2.1) (pI z.2.2.2.1) (nI z.2.2.2.2.1) (nI z.2.2.2.2.2) (nI top) c1 c2 c3 v z.1 bf fr to tu co cs cm p) top mv pb bf := by
  have hl := lmS_len hi
  have bad : (p < 1 ∨ ¬ p ≤ 3) → sePr z (m_L_search li ch lg sc row1 row2 v1 v2 v3 v4 v5 v6 v7 st go (nI top) mv pb (nI z.2.1) (nI z.2.2.1) (pI z.2.2.2.1) (nI z.2.2.2.2.1) (nI z.2.2.2.2.2) bal z.1 kinds sides rays kns kgs pws tab out p) (m_X10_search code (nI z.2.1) (nI z.2.2.1) (pI z.2.2.2.1) (nI z.2.2.2.2.1) (nI z.2.2.2.2.2) (nI top) c1 c2 c3 v z.1 bf fr to tu co cs cm p) top mv pb bf := by
    intro q
    unfold m_L_search m_X9_search m_X9_search_b10 m_X10_search m_X10_search_b11 m_X10_search_b16
    have e : ∀ (A B : Option (Int32 × Int32 × Int32 × Int32 × Int32 × Int32 × Int32 × Int32 × Int32 × Int32 × Int32 × Int32 × (Nat → Int32) × (Nat → Int32) × (Nat → Int32) × (Nat → Int32) × (Nat → Int32) × (Nat → Int32) × (Nat → Int32) × (Nat → Int32))), (if p < 1 then A else if p ≤ 3 then B else A) = A := by
      intro A B
      rcases q with q | q
      · rw [if_pos q]
      · rw [if_neg q, ite_self]
    rw [e]
    refine ⟨1, 0, li, ch, c1, c2, c3, sc, lg, row1, row2, v1, v4, v2, v3, v5, v6, v7, st, go, mv, pb, bal, kinds, sides, out, v, bf, fr, to, tu, co, cs, cm, ?_, by rw [if_neg (by decide)], fun w => absurd w (by decide), h, hV, hC, fun _ _ => ⟨rfl, rfl⟩, fun _ _ => rfl⟩
    rcases q with q | q
    · rw [if_pos q]; rfl
    · rw [if_neg q, ite_self]; rfl
  rcases n_or p with q | ⟨d, hd, e⟩
  · exact bad (Or.inl (Int32.lt_trans q (by decide)))
  subst e
  by_cases g1 : 1 ≤ d
  case neg => exact bad (Or.inl (nI_lt (b := 1) (by omega) (by omega)))
  by_cases g3 : d ≤ 3
  case neg => exact bad (Or.inr (nI_ge (a := 3) (by omega) hd))
  obtain ⟨v', bf', fr', to', tu', co', cs', cm', b1, b2⟩ := x10_search jC_ok g1 g3 (jC_of hi h2 d g3) (top := top) (by omega) code c1 c2 c3 v bf fr to tu co cs cm
  obtain ⟨lg', w1, w4, w2, w3, w5, w6, w7, st', go', el, hr⟩ := x9_list hi hT hC.1 h v1 v4 v2 v3 v5 v6 v7 st go
  rw [b1]
  unfold m_L_search m_X9_search m_X9_search_b86 m_X9_search_b91
  rw [if_neg (show ¬ nI d < 1 from nI_nlt (b := 1) (by omega) (by omega)), if_pos (show nI d ≤ 3 from nI_le (b := 3) (by omega) (by omega)), ob_s el]
  try dsimp only
  have c0 : nI (lmS z).length = 0 ↔ (lmS z).length = 0 := nI_eq0 (by omega)
  by_cases gE : (lmS z).length = 0
  · have hnil : lmS z = [] := List.length_eq_zero_iff.mp gE
    have hE : (lmS z).isEmpty = true := by rw [hnil]; rfl
    have hse : (seS d z).2 = none := by unfold seS; rw [hnil]; rfl
    have hne : ¬ endS d z = 1 := by
      unfold endS
      rw [if_pos hE]
      split <;> omega
    rw [if_pos (c0.mpr gE), ob_s (x6_noMoves hi hT hC.1 hE d), hse, if_neg hne]
    exact ⟨0, iI (endS d z), nI (lmS z).length, -1, -1, -1, -1, sc, lg', row1, row2, w1, w4, w2, w3, w5, w6, w7, st', go', mv, pb, bal, kinds, sides, vp_updL out 0 (iI (endS d z)).toInt64, v', bf', fr', to', tu', co', cs', cm', rfl, rfl, fun _ => lg_same _, Or.inr ⟨rfl, hr⟩, ⟨none, rfl, rfl, rfl, rfl, fun _ e => by cases e⟩, hC, fun _ _ => ⟨rfl, rfl⟩, b2⟩
  have hne : lmS z ≠ [] := fun w => gE (by rw [w]; rfl)
  have hE : ¬ (lmS z).isEmpty = true := fun w => hne (List.isEmpty_iff.mp w)
  have hfif := x0_isFifty (h := z.2.2.2.2.1) (by omega)
  rw [if_neg (fun w => gE (c0.mp w))]
  have hcv : ∀ m : Mv, (seS d z).2 = some m → m ∈ lmS z → CV (nI (enM m)) (cvI (seS d z).2).1 (cvI (seS d z).2).2.1 (cvI (seS d z).2).2.2 := fun m e hm => ⟨some m, rfl, by rw [e], by rw [e], by rw [e], fun m' e' => by cases e'; exact lm_ok hm⟩
  have hend : endS d z = if decide (100 ≤ z.2.2.2.2.1) || bareS z.1 then 0 else 1 := by unfold endS; rw [if_neg hE]
  have hd3 : d = 1 ∨ d = 2 ∨ d = 3 := by omega
  rcases hd3 with q | q | q
  · subst q
    obtain ⟨m, mv', pb', bal', kinds', sides', a1, a2, a3, a4, a5⟩ := x6_choose1 (jC_of hi h2 1 (by omega)) hT hB hC hr hne (made := top) (by omega) sc mv pb
    rw [if_pos (by decide), ob_s a1]
    try dsimp only
    rw [ob_s hfif]
    have hb := x0_isBare a4.1
    rw [ob_s hb]
    cases k1 : decide (100 ≤ z.2.2.2.2.1) with
    | true =>
      rw [k1, Bool.true_or, if_pos rfl] at hend
      rw [if_neg bI_tn, hend, if_neg (by omega)]
      exact ⟨0, iI 0, nI (lmS z).length, nI (enM m), _, _, _, nI (enM m), lg', row1, row2, w1, w4, w2, w3, w5, w6, w7, st', go', mv', pb', bal', kinds', sides', vp_updL out 0 (iI 0).toInt64, v', bf', fr', to', tu', co', cs', cm', rfl, rfl, fun _ => lg_same _, Or.inr ⟨rfl, hr⟩, hcv m a2 a3, a4, a5, b2⟩
    | false =>
      rw [if_pos bI_fz]
      cases k2 : bareS z.1 with
      | true =>
        rw [k1, k2, Bool.false_or, if_pos rfl] at hend
        rw [if_neg bI_tn, hend, if_neg (by omega)]
        exact ⟨0, iI 0, nI (lmS z).length, nI (enM m), _, _, _, nI (enM m), lg', row1, row2, w1, w4, w2, w3, w5, w6, w7, st', go', mv', pb', bal', kinds', sides', vp_updL out 0 (iI 0).toInt64, v', bf', fr', to', tu', co', cs', cm', rfl, rfl, fun _ => lg_same _, Or.inr ⟨rfl, hr⟩, hcv m a2 a3, a4, a5, b2⟩
      | false =>
        rw [k1, k2, Bool.false_or, if_neg (by decide)] at hend
        rw [if_pos bI_fz, hend, if_pos rfl]
        exact ⟨0, iI (-((seS 1 z).1)), nI (lmS z).length, nI (enM m), _, _, _, nI (enM m), lg', row1, row2, w1, w4, w2, w3, w5, w6, w7, st', go', mv', pb', bal', kinds', sides', vp_updL out 0 (iI (-((seS 1 z).1))).toInt64, v', bf', fr', to', tu', co', cs', cm', rfl, rfl, fun _ => lg_same _, Or.inr ⟨rfl, hr⟩, hcv m a2 a3, a4, a5, b2⟩
  · subst q
    obtain ⟨m, r1', l1, l4, l2, l3, l5, l6, l7, l8, l9, mv', pb', bal', kinds', sides', a1, a2, a3, a4, a5⟩ := x6_choose2 (jC_of hi h2 2 (by omega)) hT hB hC hr hne (made := top) (by omega) sc row1 w1 w4 w2 w3 w5 w6 w7 st' go' mv pb
    rw [if_neg (by decide), if_pos (by decide), ob_s a1]
    try dsimp only
    rw [ob_s hfif]
    have hb := x0_isBare a4.1
    rw [ob_s hb]
    cases k1 : decide (100 ≤ z.2.2.2.2.1) with
    | true =>
      rw [k1, Bool.true_or, if_pos rfl] at hend
      rw [if_neg bI_tn, hend, if_neg (by omega)]
      exact ⟨0, iI 0, nI (lmS z).length, nI (enM m), _, _, _, nI (enM m), lg', r1', row2, l1, l4, l2, l3, l5, l6, l7, l8, l9, mv', pb', bal', kinds', sides', vp_updL out 0 (iI 0).toInt64, v', bf', fr', to', tu', co', cs', cm', rfl, rfl, fun _ => lg_same _, Or.inr ⟨rfl, hr⟩, hcv m a2 a3, a4, a5, b2⟩
    | false =>
      rw [if_pos bI_fz]
      cases k2 : bareS z.1 with
      | true =>
        rw [k1, k2, Bool.false_or, if_pos rfl] at hend
        rw [if_neg bI_tn, hend, if_neg (by omega)]
        exact ⟨0, iI 0, nI (lmS z).length, nI (enM m), _, _, _, nI (enM m), lg', r1', row2, l1, l4, l2, l3, l5, l6, l7, l8, l9, mv', pb', bal', kinds', sides', vp_updL out 0 (iI 0).toInt64, v', bf', fr', to', tu', co', cs', cm', rfl, rfl, fun _ => lg_same _, Or.inr ⟨rfl, hr⟩, hcv m a2 a3, a4, a5, b2⟩
      | false =>
        rw [k1, k2, Bool.false_or, if_neg (by decide)] at hend
        rw [if_pos bI_fz, hend, if_pos rfl]
        exact ⟨0, iI (-((seS 2 z).1)), nI (lmS z).length, nI (enM m), _, _, _, nI (enM m), lg', r1', row2, l1, l4, l2, l3, l5, l6, l7, l8, l9, mv', pb', bal', kinds', sides', vp_updL out 0 (iI (-((seS 2 z).1))).toInt64, v', bf', fr', to', tu', co', cs', cm', rfl, rfl, fun _ => lg_same _, Or.inr ⟨rfl, hr⟩, hcv m a2 a3, a4, a5, b2⟩
  · subst q
    obtain ⟨m, r1', r2', l1, l4, l2, l3, l5, l6, l7, l8, l9, mv', pb', bal', kinds', sides', a1, a2, a3, a4, a5⟩ := x6_choose3 (jC_of hi h2 3 (by omega)) hT hB hC hr hne (made := top) (by omega) sc row1 row2 w1 w4 w2 w3 w5 w6 w7 st' go' mv pb
    rw [if_neg (by decide), if_neg (by decide), if_pos (by decide), ob_s a1]
    try dsimp only
    rw [ob_s hfif]
    have hb := x0_isBare a4.1
    rw [ob_s hb]
    cases k1 : decide (100 ≤ z.2.2.2.2.1) with
    | true =>
      rw [k1, Bool.true_or, if_pos rfl] at hend
      rw [if_neg bI_tn, hend, if_neg (by omega)]
      exact ⟨0, iI 0, nI (lmS z).length, nI (enM m), _, _, _, nI (enM m), lg', r1', r2', l1, l4, l2, l3, l5, l6, l7, l8, l9, mv', pb', bal', kinds', sides', vp_updL out 0 (iI 0).toInt64, v', bf', fr', to', tu', co', cs', cm', rfl, rfl, fun _ => lg_same _, Or.inr ⟨rfl, hr⟩, hcv m a2 a3, a4, a5, b2⟩
    | false =>
      rw [if_pos bI_fz]
      cases k2 : bareS z.1 with
      | true =>
        rw [k1, k2, Bool.false_or, if_pos rfl] at hend
        rw [if_neg bI_tn, hend, if_neg (by omega)]
        exact ⟨0, iI 0, nI (lmS z).length, nI (enM m), _, _, _, nI (enM m), lg', r1', r2', l1, l4, l2, l3, l5, l6, l7, l8, l9, mv', pb', bal', kinds', sides', vp_updL out 0 (iI 0).toInt64, v', bf', fr', to', tu', co', cs', cm', rfl, rfl, fun _ => lg_same _, Or.inr ⟨rfl, hr⟩, hcv m a2 a3, a4, a5, b2⟩
      | false =>
        rw [k1, k2, Bool.false_or, if_neg (by decide)] at hend
        rw [if_pos bI_fz, hend, if_pos rfl]
        exact ⟨0, iI (-((seS 3 z).1)), nI (lmS z).length, nI (enM m), _, _, _, nI (enM m), lg', r1', r2', l1, l4, l2, l3, l5, l6, l7, l8, l9, mv', pb', bal', kinds', sides', vp_updL out 0 (iI (-((seS 3 z).1))).toInt64, v', bf', fr', to', tu', co', cs', cm', rfl, rfl, fun _ => lg_same _, Or.inr ⟨rfl, hr⟩, hcv m a2 a3, a4, a5, b2⟩
