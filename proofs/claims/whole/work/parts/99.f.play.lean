/-! Playing and taking back: both alike. -/
def pmI (l : List Mv) (f t : Nat) (p : Int32) (i : Nat) : Bool := match l[i]? with
  | some m => decide (m.1 = f) && (decide (m.2.1 = t) && decide (nI m.2.2 = p))
  | none => false
theorem pmI_at {l : List Mv} {f t : Nat} {p : Int32} {i : Nat} {m : Mv} (h : l[i]? = some m) : pmI l f t p i = (decide (m.1 = f) && (decide (m.2.1 = t) && decide (nI m.2.2 = p))) := by
  unfold pmI
  rw [h]
theorem pm_mem {l : List Mv} {f t : Nat} {p : Int32} (h : anyB (pmI l f t p) l.length = true) : ∃ u, (f, t, u) ∈ l ∧ p = nI u := by
  obtain ⟨i, hi, g⟩ := anyB_iff.mp h
  rw [pmI_at (List.getElem?_eq_getElem hi)] at g
  simp only [Bool.and_eq_true, decide_eq_true_eq] at g
  obtain ⟨g1, g2, g3⟩ := g
  refine ⟨l[i].2.2, ?_, g3.symm⟩
  have : (f, t, l[i].2.2) = l[i] := by rw [← g1, ← g2]
  rw [this]
  exact List.getElem_mem hi
theorem isLegal_l {l : List Mv} (hl : l.length ≤ 432) (hok : ∀ m ∈ l, mvOK m) {lg : Nat → Int32} (hr : rwC l lg) {f t : Nat} (hf : f < 64) (ht : t < 64) (p a1 a2 a3 : Int32) (men : Nat → Int32) (kinds sides rays kns kgs pws : Nat → Int64) (li v1 v4 : Int32) (v2 v3 v5 v6 v7 : Int64) (st : Nat → Int32) (go : Nat → Int64) : ∀ (k n i : Nat), i + k = l.length → anyB (pmI l f t p) i = false → m_X9_isLegal_l9 a1 a2 a3 men kinds sides rays kns kgs pws (n + k + 1) li lg v1 v2 v3 v4 v5 v6 v7 st go (nI f) (nI t) p (nI l.length) (nI i) = some (bI (anyB (pmI l f t p) l.length), li, lg, v1, v2, v3, v4, v5, v6, v7, st, go) := by
  intro k
  induction k with
  | zero =>
    intro n i hi hA
    have : i = l.length := by omega
    subst this
    rw [m_X9_isLegal_l9_s]
    unfold m_X9_isLegal_b9
    rw [if_pos (nI_le (by omega) (by omega)), hA]
    rfl
  | succ k ih =>
    intro n i hi hA
    have g : i < l.length := by omega
    have hm := List.getElem?_eq_getElem g
    have hmo := hok _ (List.getElem_mem g)
    generalize l[i] = m at hm hmo
    obtain ⟨mf, mt, mu⟩ := m
    obtain ⟨o1, o2, o3⟩ := hmo
    dsimp only at o1 o2 o3
    have e0 := hr i _ hm
    have ep := pmI_at (f := f) (t := t) (p := p) hm
    dsimp only at ep
    have c1 : nI mf = nI f ↔ mf = f := nI_eq (by omega) (by omega)
    have c2 : nI mt = nI t ↔ mt = t := nI_eq (by omega) (by omega)
    have next : pmI l f t p i = false → anyB (pmI l f t p) (i + 1) = false := by
      intro w
      show (anyB (pmI l f t p) i || pmI l f t p i) = false
      rw [hA, w]; rfl
    rw [show n + (k + 1) + 1 = n + k + 1 + 1 from rfl, m_X9_isLegal_l9_s]
    unfold m_X9_isLegal_b9 m_X9_isLegal_b54
    rw [if_neg (nI_ge (by omega) (by omega)), oin_n (by omega) (by omega), nI_clamp (by omega), ol_r, e0, ob_s (x9_fromOf o1 o2 o3), ob_s (x9_toOf o1 o2 o3), ob_s (x9_becomesOf o1 o2 o3)]
    simp only [ol_r, nI_1, c1, c2]
    by_cases q1 : mf = f
    · rw [if_pos q1]
      by_cases q2 : mt = t
      · rw [if_pos q2]
        by_cases q3 : nI mu = p
        · rw [if_pos q3]
          have : anyB (pmI l f t p) l.length = true := anyB_iff.mpr ⟨i, g, by rw [ep, decide_eq_true q1, decide_eq_true q2, decide_eq_true q3]; rfl⟩
          rw [this]
          rfl
        · rw [if_neg q3]
          exact ih n (i + 1) (by omega) (next (by rw [ep, decide_eq_false q3, Bool.and_false, Bool.and_false]))
      · rw [if_neg q2]
        exact ih n (i + 1) (by omega) (next (by rw [ep, decide_eq_false q2, Bool.false_and, Bool.and_false]))
    · rw [if_neg q1]
      exact ih n (i + 1) (by omega) (next (by rw [ep, decide_eq_false q1, Bool.false_and]))
theorem play_l {l : List Mv} (hl : l.length ≤ 432) (hok : ∀ m ∈ l, mvOK m) {f t : Nat} (hf : f < 64) (ht : t < 64) (p : Int32) {fr to tu co : Nat → Int32} (h1 : co 0 = nI l.length) (h2 : ∀ i m, l[i]? = some m → fr i = nI m.1 ∧ to i = nI m.2.1 ∧ tu i = nI m.2.2) (b1 b2 b3 b4 b5 b6 b7 b8 : Int32) (bd bf cs cm : Nat → Int32) : ∀ (k n i : Nat), i + k = l.length → m_X10_play_l49 (n + k + 1) b1 b2 b3 b4 b5 b6 b7 b8 bd bf fr to tu co cs cm (nI f) (nI t) p (bI (anyB (pmI l f t p) i)) (nI i) = (if anyB (pmI l f t p) l.length then (if b7 = 1024 then m_X10_play_b127 b1 b2 b3 b4 b5 b6 b7 b8 bd bf fr to tu co cs cm (nI f) (nI t) p else m_X10_play_b132 b1 b2 b3 b4 b5 b6 b7 b8 bd bf fr to tu co cs cm (nI f) (nI t) p 0) else m_X10_play_b127 b1 b2 b3 b4 b5 b6 b7 b8 bd bf fr to tu co cs cm (nI f) (nI t) p) := by
  intro k
  induction k with
  | zero =>
    intro n i hi
    have : i = l.length := by omega
    subst this
    rw [m_X10_play_l49_s]
    unfold m_X10_play_b49
    rw [tn0, h1, if_pos (nI_le (by omega) (by omega)), bI_if]
  | succ k ih =>
    intro n i hi
    have g : i < l.length := by omega
    have hm := List.getElem?_eq_getElem g
    have hmo := hok _ (List.getElem_mem g)
    generalize l[i] = m at hm hmo
    obtain ⟨mf, mt, mu⟩ := m
    obtain ⟨o1, o2, o3⟩ := hmo
    dsimp only at o1 o2 o3
    obtain ⟨f1, f2, f3⟩ := h2 i _ hm
    have ep := pmI_at (f := f) (t := t) (p := p) hm
    dsimp only at ep f1 f2 f3
    have c1 : nI mf = nI f ↔ mf = f := nI_eq (by omega) (by omega)
    have c2 : nI mt = nI t ↔ mt = t := nI_eq (by omega) (by omega)
    have ih' := ih n (i + 1) (by omega)
    have ea : anyB (pmI l f t p) (i + 1) = (anyB (pmI l f t p) i || pmI l f t p i) := rfl
    rw [ea, ep] at ih'
    rw [show n + (k + 1) + 1 = n + k + 1 + 1 from rfl, m_X10_play_l49_s]
    unfold m_X10_play_b49 m_X10_play_b98 m_X10_play_b102 m_X10_play_b103
    rw [tn0, h1, if_neg (nI_ge (by omega) (by omega)), oin_n (show i < 2560 by omega) (by omega), nI_clamp (by omega), oin_n (show i < 2560 by omega) (by omega), oin_n (show i < 2560 by omega) (by omega), f1, f2, f3]
    simp only [ol_r, nI_1, c1, c2]
    cases hA : anyB (pmI l f t p) i with
    | true =>
      rw [hA, Bool.true_or] at ih'
      rw [if_neg bI_tn]
      exact ih'
    | false =>
      rw [hA, Bool.false_or] at ih'
      rw [if_pos bI_fz]
      by_cases q1 : mf = f
      · rw [if_pos q1]
        rw [decide_eq_true q1, Bool.true_and] at ih'
        by_cases q2 : mt = t
        · rw [if_pos q2]
          rw [decide_eq_true q2, Bool.true_and] at ih'
          by_cases q3 : nI mu = p
          · rw [if_pos q3]
            rw [decide_eq_true q3] at ih'
            exact ih'
          · rw [if_neg q3]
            rw [decide_eq_false q3] at ih'
            exact ih'
        · rw [if_neg q2]
          rw [decide_eq_false q2, Bool.false_and] at ih'
          exact ih'
      · rw [if_neg q1]
        rw [decide_eq_false q1, Bool.false_and] at ih'
        exact ih'
/-- a call to play that is refused -/
def plNo (z : Pz) (L : Option (Int32 × Int32 × (Nat → Int32) × Int32 × Int64 × Int64 × Int32 × Int64 × Int64 × Int64 × (Nat → Int32) × (Nat → Int64) × Int32 × (Nat → Int32) × (Nat → Int32) × Int32 × Int32 × Int32 × Int32 × Int32 × Int32 × (Nat → Int32) × (Nat → Int64) × (Nat → Int64) × (Nat → Int64))) (X : Option (Int32 × Int32 × Int32 × Int32 × Int32 × Int32 × Int32 × Int32 × Int32 × (Nat → Int32) × (Nat → Int32) × (Nat → Int32) × (Nat → Int32) × (Nat → Int32) × (Nat → Int32) × (Nat → Int32) × (Nat → Int32))) (top : Nat) (mv pb bf : Nat → Int32) (bal : Int32) (kinds sides : Nat → Int64) : Prop := ∃ (r r2 li' : Int32) (lg' : Nat → Int32) (v1' v4' : Int32) (v2' v3' v5' v6' v7' : Int64) (st' : Nat → Int32) (go' out' : Nat → Int64) (v' : Int32) (fr' to' tu' co' cs' cm' : Nat → Int32), ¬ r = 0 ∧ L = some (r, li', lg', v1', v2', v3', v4', v5', v6', v7', st', go', nI top, mv, pb, nI z.2.1, nI z.2.2.1, pI z.2.2.2.1, nI z.2.2.2.2.1, nI z.2.2.2.2.2, bal, z.1, kinds, sides, out') ∧ X = some (r2, r, nI z.2.1, nI z.2.2.1, pI z.2.2.2.1, nI z.2.2.2.2.1, nI z.2.2.2.2.2, nI top, v', z.1, bf, fr', to', tu', co', cs', cm') ∧ LV z li' lg'
/-- a call to play that is done -/
def plOk (z : Pz) (L : Option (Int32 × Int32 × (Nat → Int32) × Int32 × Int64 × Int64 × Int32 × Int64 × Int64 × Int64 × (Nat → Int32) × (Nat → Int64) × Int32 × (Nat → Int32) × (Nat → Int32) × Int32 × Int32 × Int32 × Int32 × Int32 × Int32 × (Nat → Int32) × (Nat → Int64) × (Nat → Int64) × (Nat → Int64))) (X : Option (Int32 × Int32 × Int32 × Int32 × Int32 × Int32 × Int32 × Int32 × Int32 × (Nat → Int32) × (Nat → Int32) × (Nat → Int32) × (Nat → Int32) × (Nat → Int32) × (Nat → Int32) × (Nat → Int32) × (Nat → Int32))) (top : Nat) (mv pb bf : Nat → Int32) : Prop := ∃ (m : Mv) (r2 : Int32) (lg' : Nat → Int32) (v1' v4' : Int32) (v2' v3' v5' v6' v7' : Int64) (st' : Nat → Int32) (go' out' : Nat → Int64) (bal' : Int32) (kinds' sides' : Nat → Int64) (v' : Int32) (bf' fr' to' tu' co' cs' cm' : Nat → Int32), m ∈ lmS z ∧ L = some (0, -1, lg', v1', v2', v3', v4', v5', v6', v7', st', go', nI (top + 1), upd mv top (nI (enM m)), upd pb top (nI (goN (kd (tkS z.1 m.1 m.2.1)) z)), nI (mkM z m).2.1, nI (mkM z m).2.2.1, pI (mkM z m).2.2.2.1, nI (mkM z m).2.2.2.2.1, nI (mkM z m).2.2.2.2.2, bal', (mkM z m).1, kinds', sides', out') ∧ X = some (r2, 0, nI (mkM z m).2.1, nI (mkM z m).2.2.1, pI (mkM z m).2.2.2.1, nI (mkM z m).2.2.2.2.1, nI (mkM z m).2.2.2.2.2, nI (top + 1), v', (mkM z m).1, bf', fr', to', tu', co', cs', cm') ∧ lg_cmp (out' 0) r2.toInt64 = 0 ∧ clP (mkM z m).1 bal' kinds' sides' ∧ hsP bf' top z ∧ ∀ j, j < 69 * top → bf' j = bf j
theorem play_both {z : Pz} (hi : inv z) (h2 : z.2.2.2.2.1 < 20000) {rays kns kgs pws : Nat → Int64} {tab : Nat → Int32} (hT : lnT rays kns kgs pws) (hB : tbP tab) {bal : Int32} {kinds sides : Nat → Int64} (hC : clP z.1 bal kinds sides) {li : Int32} {lg : Nat → Int32} (h : LV z li lg) {top : Nat} (htop : top < 1000) (v1 v4 : Int32) (v2 v3 v5 v6 v7 : Int64) (st : Nat → Int32) (go : Nat → Int64) (mv pb : Nat → Int32) (out : Nat → Int64) (p1 p2 p3 code v : Int32) (bf fr to tu co cs cm : Nat → Int32) : plNo z (m_L_play li lg v1 v2 v3 v4 v5 v6 v7 st go (nI top) mv pb (nI z.2.1) (nI z.2.2.1) (pI z.2.2.2.1) (nI z.2.2.2.2.1) (nI z.2.2.2.2.2) bal z.1 kinds sides rays kns kgs pws tab out p1 p2 p3) (m_X10_play code (nI z.2.1) (nI z.2.2.1) (pI z.2.2.2.1) (nI z.2.2.2.2.1) (nI z.2.2.2.2.2) (nI top) v z.1 bf fr to tu co cs cm p1 p2 p3) top mv pb bf bal kinds sides ∨ plOk z (m_L_play li lg v1 v2 v3 v4 v5 v6 v7 st go (nI top) mv pb (nI z.2.1) (nI z.2.2.1) (pI z.2.2.2.1) (nI z.2.2.2.2.1) (nI z.2.2.2.2.2) bal z.1 kinds sides rays kns kgs pws tab out p1 p2 p3) (m_X10_play code (nI z.2.1) (nI z.2.2.1) (pI z.2.2.2.1) (nI z.2.2.2.2.1) (nI z.2.2.2.2.2) (nI top) v z.1 bf fr to tu co cs cm p1 p2 p3) top mv pb bf := by
  have hl := lmS_len hi
  unfold m_L_play m_X9_play m_X9_play_b14 m_X9_play_b45 m_X10_play m_X10_play_b21 m_X10_play_b26
  rcases n_or p1 with q | ⟨f, hfn, e⟩
  · left
    rw [ob_s (x9_isSq0 q), if_pos rfl, if_pos q]
    exact ⟨1, 0, li, lg, v1, v4, v2, v3, v5, v6, v7, st, go, out, v, fr, to, tu, co, cs, cm, by decide, rfl, rfl, h⟩
  subst e
  have cf : (63 : Int32) < nI f ↔ 63 < f := nI_ltI (a := 63) (by omega) (by omega)
  rw [ob_s (x9_isSq hfn), if_neg (show ¬ nI f < 0 from nI_nlt (b := 0) (by omega) (by omega))]
  by_cases hf : f < 64
  case neg =>
    left
    rw [decide_eq_false hf, if_pos bI_fz, if_pos (cf.mpr (by omega))]
    exact ⟨1, 0, li, lg, v1, v4, v2, v3, v5, v6, v7, st, go, out, v, fr, to, tu, co, cs, cm, by decide, rfl, rfl, h⟩
  rw [decide_eq_true hf, if_neg bI_tn, if_neg (fun w => by have := cf.mp w; omega)]
  rcases n_or p2 with q | ⟨t, htn, e⟩
  · left
    rw [ob_s (x9_isSq0 q), if_pos rfl, if_pos q]
    exact ⟨1, 0, li, lg, v1, v4, v2, v3, v5, v6, v7, st, go, out, v, fr, to, tu, co, cs, cm, by decide, rfl, rfl, h⟩
  subst e
  have ct : nI t ≤ 63 ↔ t ≤ 63 := nI_leI (b := 63) (by omega) (by omega)
  rw [ob_s (x9_isSq htn), if_neg (show ¬ nI t < 0 from nI_nlt (b := 0) (by omega) (by omega))]
  by_cases ht : t < 64
  case neg =>
    left
    rw [decide_eq_false ht, if_pos bI_fz, if_neg (fun w => by have := ct.mp w; omega)]
    exact ⟨1, 0, li, lg, v1, v4, v2, v3, v5, v6, v7, st, go, out, v, fr, to, tu, co, cs, cm, by decide, rfl, rfl, h⟩
  obtain ⟨v', fr', to', tu', co', cs', cm', ef, g1, g2⟩ := x10_find0 hi v fr to tu co cs cm
  obtain ⟨lg', v1', v4', v2', v3', v5', v6', v7', st', go', el, hr⟩ := x9_list hi hT hC.1 h v1 v4 v2 v3 v5 v6 v7 st go
  have ek : kF = kF - 1 - (lmS z).length + (lmS z).length + 1 := by unfold kF; omega
  have eL : m_X9_isLegal li lg v1 v2 v3 v4 v5 v6 v7 st go (nI z.2.1) (nI z.2.2.1) (pI z.2.2.2.1) z.1 kinds sides rays kns kgs pws (nI f) (nI t) p3 = some (bI (anyB (pmI (lmS z) f t p3) (lmS z).length), nI (lmS z).length, lg', v1', v2', v3', v4', v5', v6', v7', st', go') := by
    unfold m_X9_isLegal
    rw [ob_s el]
    try dsimp only
    rw [ek]
    exact isLegal_l hl (fun m hm => lm_ok hm) hr hf ht p3 _ _ _ _ _ _ _ _ _ _ _ _ _ _ _ _ _ _ _ _ (lmS z).length _ 0 (by omega) rfl
  have eR := play_l hl (fun m hm => lm_ok hm) hf ht p3 g1 g2 0 (nI z.2.1) (nI z.2.2.1) (pI z.2.2.2.1) (nI z.2.2.2.2.1) (nI z.2.2.2.2.2) (nI top) v' z.1 bf cs' cm' (lmS z).length (kF - 1 - (lmS z).length) 0 (by omega)
  rw [← ek] at eR
  have eR : m_X10_play_l49 kF 0 (nI z.2.1) (nI z.2.2.1) (pI z.2.2.2.1) (nI z.2.2.2.2.1) (nI z.2.2.2.2.2) (nI top) v' z.1 bf fr' to' tu' co' cs' cm' (nI f) (nI t) p3 0 0 = _ := eR
  rw [decide_eq_true ht, if_neg bI_tn, if_pos (ct.mpr (by omega)), if_pos (show (0 : Int32) ≤ 0 by decide), ob_s ef, ob_s eL]
  try dsimp only
  rw [eR]
  unfold m_X10_play_b127 m_X10_play_b132 m_X10_play_b153
  cases hA : anyB (pmI (lmS z) f t p3) (lmS z).length with
  | false =>
    left
    rw [if_pos bI_fz]
    exact ⟨2, 0, nI (lmS z).length, lg', v1', v4', v2', v3', v5', v6', v7', st', go', out, v', fr', to', tu', co', cs', cm', by decide, rfl, rfl, Or.inr ⟨rfl, hr⟩⟩
  | true =>
    right
    obtain ⟨u, hm, eu⟩ := pm_mem hA
    subst eu
    have hok := lm_ok hm
    have hkk := okZ_mvK (jC_ok.1 0 z (jC_of hi h2 0 (by omega))) hm
    obtain ⟨bal', kinds', sides', c1, c2⟩ := x4_make hi (by omega) hT hB hm hC (made := top) (by omega) mv pb
    obtain ⟨w', bf', cs2, cm2, r1, r2, r3⟩ := x10_make hi.1 hi.2.1 hi.2.2.1 bf (top := top) (by omega) v' cs' cm' hf ht hok.2.2 hkk.2.2.2
    have ctp : nI top < 1024 := nI_lt (b := 1024) (by omega) (by omega)
    have ctn : ¬ nI top = 1024 := fun w => by have := (nI_eq (b := 1024) (by omega) (by omega)).mp w; omega
    rw [if_neg bI_tn, if_pos ctp, ob_s (x9_moveOf hf ht hok.2.2), ob_s c1, if_pos rfl, if_neg ctn, if_pos (show (0 : Int32) ≤ 0 by decide), ob_s r1]
    try dsimp only
    exact ⟨(f, t, u), tkS z.1 f t, lg', v1', v4', v2', v3', v5', v6', v7', st', go', vp_updL out 0 (tkS z.1 f t).toInt64, bal', kinds', sides', w', bf', fr', to', tu', co', cs2, cm2, hm, rfl, rfl, lg_same _, c2, r2, r3⟩
