/-! The class: values within a window, the choice, the ways. -/
def jC (k : Nat) (z : Pz) : Prop := inv z ∧ z.2.2.2.2.1 + k < 65536
theorem jC_ok : jOK jC := by
  refine ⟨fun k z h => ?_, fun k z m h hm => ?_⟩
  · have hl := lmS_len h.1
    exact ⟨h.1.1, h.1.2.1, h.1.2.2.1, h.1.2.2.2.1, inv_rgK h.1, by omega, by have := h.2; omega⟩
  · refine ⟨inv_mk h.1 hm, ?_⟩
    have h2 := h.2
    have e : (mkM z m).2.2.2.2.1 ≤ z.2.2.2.2.1 + 1 := by
      show (if kd (z.1 m.1) = 1 ∨ ¬ tkS z.1 m.1 m.2.1 = 0 then 0 else z.2.2.2.2.1 + 1) ≤ _
      split <;> omega
    omega
theorem jC_le {k j : Nat} (h : j ≤ k) {z : Pz} (hz : jC k z) : jC j z := ⟨hz.1, by have := hz.2; omega⟩
theorem filter_cong2 {p q : Nat → Bool} (h : ∀ t, t < 64 → p t = q t) : (List.range 64).filter p = (List.range 64).filter q := List.filter_congr (fun t ht => h t (List.mem_range.mp ht))
theorem lsP_cong {z : Pz} {p q : Nat → Bool} (h : ∀ t, t < 64 → p t = q t) : lsP z p = lsP z q := by
  unfold lsP
  apply flatMap_cong
  intro f _
  have : gtL z p f = gtL z q f := by
    unfold gtL
    exact filter_cong2 (fun t ht => by rw [h t ht])
  rw [this]
theorem lsP_mem {z : Pz} (hi : inv z) {p : Nat → Bool} {m : Mv} : m ∈ lsP z p ↔ m ∈ lmS z ∧ p m.2.1 = true := by
  rw [lmS_eq hi]
  unfold lsP gtL
  simp only [List.mem_flatMap, List.mem_filter, List.mem_map, List.mem_range, Bool.and_eq_true, Bool.and_true]
  constructor
  · rintro ⟨f, h1, t, ⟨h2, h3, h4⟩, u, h5, rfl⟩
    exact ⟨⟨f, h1, t, ⟨h2, h3⟩, u, h5, rfl⟩, h4⟩
  · rintro ⟨⟨f, h1, t, ⟨h2, h3⟩, u, h5, rfl⟩, h4⟩
    exact ⟨f, h1, t, ⟨h2, h3, h4⟩, u, h5, rfl⟩
theorem cb_split (a p : Nat → Bool) : ∀ n, cb (fun t => a t && p t) n + cb (fun t => a t && !(p t)) n = cb (fun t => a t && true) n
  | 0 => rfl
  | n + 1 => by
    have h := cb_split a p n
    rw [cb_s, cb_s, cb_s]
    generalize cb (fun t => a t && p t) n = A at *
    generalize cb (fun t => a t && !(p t)) n = B at *
    generalize cb (fun t => a t && true) n = C at *
    cases a n <;> cases p n <;> simp [b2n] <;> omega
theorem lsP_len2 {z : Pz} (p : Nat → Bool) : (lsP z p).length + (lsP z (fun t => !(p t))).length = (lsP z (fun _ => true)).length := by
  unfold lsP
  have : ∀ l : List Nat, (l.flatMap (fun f => (gtL z p f).flatMap (fun t => (tbS z f).map (fun u => (f, t, u))))).length + (l.flatMap (fun f => (gtL z (fun t => !(p t)) f).flatMap (fun t => (tbS z f).map (fun u => (f, t, u))))).length = (l.flatMap (fun f => (gtL z (fun _ => true) f).flatMap (fun t => (tbS z f).map (fun u => (f, t, u))))).length := by
    intro l
    induction l with
    | nil => rfl
    | cons f l ih =>
      simp only [List.flatMap_cons, List.length_append]
      have e : ∀ q : Nat → Bool, ((gtL z q f).flatMap (fun t => (tbS z f).map (fun u => (f, t, u)))).length = cb (fun t => leS z f t && q t) 64 * (tbS z f).length := by
        intro q
        rw [flatMap_clen (n := (tbS z f).length) (fun a _ => by simp)]
        unfold gtL
        rw [filter_len]
      have h2 := cb_split (leS z f) p 64
      have h3 := congrArg (· * (tbS z f).length) h2
      simp only [Nat.add_mul] at h3
      rw [e, e, e]
      omega
  exact this (owL z)
/-- the moves, those that take first -/
def tkL (z : Pz) : List Mv := lsP z (fun t => msd (z.1 t) (1 - z.2.1)) ++ lsP z (fun t => !(msd (z.1 t) (1 - z.2.1)))
theorem tkL_mem {z : Pz} (hi : inv z) {m : Mv} : m ∈ tkL z ↔ m ∈ lmS z := by
  unfold tkL
  rw [List.mem_append, lsP_mem hi, lsP_mem hi]
  constructor
  · rintro (h | h)
    · exact h.1
    · exact h.1
  · intro h
    cases q : msd (z.1 m.2.1) (1 - z.2.1) with
    | true => exact Or.inl ⟨h, rfl⟩
    | false => exact Or.inr ⟨h, by simp⟩
theorem tkL_len {z : Pz} (hi : inv z) : (tkL z).length ≤ 432 := by
  have h1 := lsP_len2 (z := z) (fun t => msd (z.1 t) (1 - z.2.1))
  have h2 := lsP_len hi (fun _ => true)
  unfold tkL
  rw [List.length_append]
  omega
theorem x6_ltf1 {z : Pz} (hi : inv z) {kinds sides : Nat → Int64} (hB : brP z.1 kinds sides) {st : Nat → Int32} {go : Nat → Int64} (hsv : svP z (owL z) st go) (row : Nat → Int32) : ∃ row', m_X6_listTakingFirst_1 row (nI (owL z).length) st go (nI z.2.1) z.1 sides = some (nI (tkL z).length, row') ∧ rwC (tkL z) row' := by
  have hc := hi.2.1
  have eo : (1 : Int32) - nI z.2.1 = nI (1 - z.2.1) := pk_sub (a := 1) (by omega)
  have hl := tkL_len hi
  have e1 : lsP z (bt (sides (1 - z.2.1))) = lsP z (fun t => msd (z.1 t) (1 - z.2.1)) := lsP_cong (fun t ht => hB.2 _ t (by omega) ht)
  have e2 : lsP z (bt (sides (1 - z.2.1) ^^^ (-1))) = lsP z (fun t => !(msd (z.1 t) (1 - z.2.1))) := lsP_cong (fun t ht => by rw [bt_not _ ht, hB.2 _ t (by omega) ht])
  have hl2 := hl
  unfold tkL at hl2
  rw [List.length_append] at hl2
  obtain ⟨row1, a1, a2⟩ := x2_list hi hsv (sides (1 - z.2.1)) (l0 := []) (row := row) (fun i m e => by simp at e) (by rw [List.nil_append, e1]; omega)
  rw [List.nil_append, e1] at a1 a2
  obtain ⟨row2, b1, b2⟩ := x2_list hi hsv (sides (1 - z.2.1) ^^^ (-1)) a2 (by rw [e2]; exact hl)
  rw [e2] at b1 b2
  refine ⟨row2, ?_, b2⟩
  have a1 : m_X2_list (nI (owL z).length) st go row (nI z.2.1) z.1 0 (sides (1 - z.2.1)) = _ := a1
  unfold m_X6_listTakingFirst_1
  rw [eo, oin_n (by omega) (by omega), nI_clamp (by omega), ol_r, ob_s a1]
  try dsimp only
  rw [ob_s b1]
  rfl
theorem x6_ltf2 {z : Pz} (hi : inv z) {kinds sides : Nat → Int64} (hB : brP z.1 kinds sides) {st : Nat → Int32} {go : Nat → Int64} (hsv : svP z (owL z) st go) (row : Nat → Int32) : ∃ row', m_X6_listTakingFirst_2 row (nI (owL z).length) st go (nI z.2.1) z.1 sides = some (nI (tkL z).length, row') ∧ rwC (tkL z) row' := by
  have hc := hi.2.1
  have eo : (1 : Int32) - nI z.2.1 = nI (1 - z.2.1) := pk_sub (a := 1) (by omega)
  have hl := tkL_len hi
  have e1 : lsP z (bt (sides (1 - z.2.1))) = lsP z (fun t => msd (z.1 t) (1 - z.2.1)) := lsP_cong (fun t ht => hB.2 _ t (by omega) ht)
  have e2 : lsP z (bt (sides (1 - z.2.1) ^^^ (-1))) = lsP z (fun t => !(msd (z.1 t) (1 - z.2.1))) := lsP_cong (fun t ht => by rw [bt_not _ ht, hB.2 _ t (by omega) ht])
  have hl2 := hl
  unfold tkL at hl2
  rw [List.length_append] at hl2
  obtain ⟨row1, a1, a2⟩ := x2_list hi hsv (sides (1 - z.2.1)) (l0 := []) (row := row) (fun i m e => by simp at e) (by rw [List.nil_append, e1]; omega)
  rw [List.nil_append, e1] at a1 a2
  obtain ⟨row2, b1, b2⟩ := x2_list hi hsv (sides (1 - z.2.1) ^^^ (-1)) a2 (by rw [e2]; exact hl)
  rw [e2] at b1 b2
  refine ⟨row2, ?_, b2⟩
  have a1 : m_X2_list (nI (owL z).length) st go row (nI z.2.1) z.1 0 (sides (1 - z.2.1)) = _ := a1
  unfold m_X6_listTakingFirst_2
  rw [eo, oin_n (by omega) (by omega), nI_clamp (by omega), ol_r, ob_s a1]
  try dsimp only
  rw [ob_s b1]
  rfl
theorem mem_get {l : List Mv} {k : Nat} {m : Mv} (h : l[k]? = some m) : m ∈ l := List.mem_iff_getElem?.mpr ⟨k, h⟩
theorem bestGain_l {z : Pz} (hz : jC 1 z) {tab : Nat → Int32} (hB : tbP tab) (bal : Int32) {L : List Mv} (hL : L.length ≤ 432) (hLm : ∀ m ∈ L, m ∈ lmS z) {row : Nat → Int32} (hr : rwC L row) {hi : Int} (h1 : -1000000 ≤ hi) (h2 : hi ≤ 1000000) : ∀ (dd k n : Nat) (M best : Int), k + dd = L.length → abI M hi best → -1000000 ≤ best → best ≤ 1000000 → ∃ b : Int, m_X6_bestGain_l15 row (nI z.2.1) (pI z.2.2.2.1) bal z.1 tab (n + dd + 1) (nI L.length) (iI hi) (iI (wnS z.1 z.2.1)) (iI best) (nI k) = some (iI b) ∧ abI (((L.drop k).map (fun m => -(vlS 0 (mkM z m)))).foldl max M) hi b ∧ -1000000 ≤ b ∧ b ≤ 1000000 := by
  intro dd
  induction dd with
  | zero =>
    intro k n M best e hab b1 b2
    refine ⟨best, ?_, ?_, b1, b2⟩
    · rw [m_X6_bestGain_l15_s]
      unfold m_X6_bestGain_b15 m_X6_bestGain_b55
      rw [if_pos (nI_le (by omega) (by omega))]
    · rw [List.drop_eq_nil_of_le (by omega)]
      exact hab
  | succ dd ih =>
    intro k n M best e hab b1 b2
    obtain ⟨m, hm1, hm2, hm3⟩ := drop_cons (l := L) (k := k) (by omega)
    rw [show n + (dd + 1) + 1 = n + dd + 1 + 1 from rfl, m_X6_bestGain_l15_s]
    unfold m_X6_bestGain_b15 m_X6_bestGain_b55
    rw [if_neg (nI_ge (by omega) (by omega))]
    have cl : iI hi ≤ iI best ↔ hi ≤ best := iI_le (by omega) (by omega) (by omega) (by omega)
    by_cases q : hi ≤ best
    · rw [if_pos (cl.mpr q)]
      exact ⟨best, rfl, ab_up hab q (fmax_ge _ _).1, b1, b2⟩
    · rw [if_neg (fun g => q (cl.mp g))]
      have hml := hLm m hm2
      have hJm := jC_ok.2 0 z m hz hml
      have bd := vlS_bd2 jC_ok 0 _ (by omega) hJm
      have er := hr k m hm1
      have ew := worth_gain hz.1 (f := m.1) (t := m.2.1) (u := m.2.2) hml
      have ew : wnS z.1 z.2.1 + (if z.2.1 = 0 then gnS z m.1 m.2.1 m.2.2 else -(gnS z m.1 m.2.1 m.2.2)) = -(vlS 0 (mkM z m)) := ew
      have eg : m_X0_gainOf (nI z.2.1) (pI z.2.2.2.1) z.1 tab (nI (enM m)) = _ := x0_gainOf hz.1 hB (f := m.1) (t := m.2.1) (u := m.2.2) hml
      rw [oin_n (by omega) (by omega), nI_clamp (by omega), er, ob_s eg, iI_add, ew, ob_s (j9_max (by omega) (by omega) (by omega) (by omega)), ol_r, nI_1, hm3, List.map_cons, List.foldl_cons]
      exact ih (k + 1) n (max M (-(vlS 0 (mkM z m)))) (max best (-(vlS 0 (mkM z m)))) (by omega) (ab_step hab (by omega) ⟨fun g => g, fun _ _ => rfl, fun g => g⟩) (by omega) (by omega)
theorem x6_noMoves {z : Pz} (hi : inv z) {kinds sides rays kns kgs pws : Nat → Int64} (hT : lnT rays kns kgs pws) (hB : brP z.1 kinds sides) (he : (lmS z).isEmpty = true) (d : Nat) : m_X6_valueWithoutMoves (nI z.2.1) kinds sides rays kns kgs pws (nI d) = some (iI (endS d z)) := by
  obtain ⟨k, hK⟩ := hi.2.2.2.2.1 z.2.1 hi.2.1
  unfold m_X6_valueWithoutMoves m_X6_valueWithoutMoves_b26 endS
  rw [ob_s (x0_isInCheck hi.1 hT hB hi.2.1 hK), bI_if, if_pos he]
  have e2 : (-30000 : Int32) - nI d = iI (-30000 - (d : Int)) := by
    have q : (-30000 : Int32) = iI (-30000) := by decide
    rw [iI_nat, q, iI_sub]
  cases chkS z.1 z.2.1 with
  | true => simp only [if_true]; rw [e2]
  | false => rfl
theorem vl_end {n : Nat} {z : Pz} (h : endS (n + 1) z ≠ 1) : vlS (n + 1) z = endS (n + 1) z := if_neg h
theorem vl_go {n : Nat} {z : Pz} (h : endS (n + 1) z = 1) : vlS (n + 1) z = ((lmS z).map (fun m => -(vlS n (mkM z m)))).foldl max (-100000) := if_pos h
theorem end_go {n : Nat} {z : Pz} (h1 : (lmS z).isEmpty = false) (h2 : decide (100 ≤ z.2.2.2.2.1) = false) (h3 : bareS z.1 = false) : endS n z = 1 := by
  unfold endS
  rw [h1, h2, h3]
  rfl
theorem end_draw {n : Nat} {z : Pz} (h1 : (lmS z).isEmpty = false) (h2 : (decide (100 ≤ z.2.2.2.2.1) || bareS z.1) = true) : endS n z = 0 := by
  unfold endS
  rw [h1, h2]
  rfl
/-- over the moves in the class's order the greatest is the same -/
theorem tk_win {n : Nat} {z : Pz} (hz : jC (n + 1) z) (hn : n ≤ 999) (he : endS (n + 1) z = 1) {lo hi b : Int} (hlh : lo < hi) (h : abI (((tkL z).map (fun m => -(vlS n (mkM z m)))).foldl max lo) hi b) : winP (vlS (n + 1) z) lo hi b := by
  have hne : lmS z ≠ [] := by
    intro e
    unfold endS at he
    rw [e] at he
    simp at he
    split at he <;> omega
  obtain ⟨m, hm⟩ := List.exists_mem_of_ne_nil _ hne
  have bd := vlS_bd2 jC_ok n _ (by omega) (jC_ok.2 n z m hz hm)
  rw [vl_go he]
  have es : ((tkL z).map (fun m => -(vlS n (mkM z m)))).foldl max lo = ((lmS z).map (fun m => -(vlS n (mkM z m)))).foldl max lo := by
    apply fmax_same
    intro x
    rw [List.mem_map, List.mem_map]
    constructor
    · rintro ⟨a, b, c⟩; exact ⟨a, (tkL_mem hz.1).mp b, c⟩
    · rintro ⟨a, b, c⟩; exact ⟨a, (tkL_mem hz.1).mpr b, c⟩
  rw [es] at h
  exact ab_end (e := -(vlS n (mkM z m))) (List.mem_map.mpr ⟨m, hm, rfl⟩) (by omega) hlh h
theorem x6_vw0 {z : Pz} (hz : jC 0 z) {bal : Int32} {kinds sides : Nat → Int64} (hC : clP z.1 bal kinds sides) (x y : Int32) : m_X6_valueWithin_0 (nI z.2.1) bal x y = some (iI (vlS 0 z)) := by
  unfold m_X6_valueWithin_0 m_X6_valueWithin_0_b9
  rw [ob_s (x0_worth hC.2 hz.1.2.1)]
  rfl
theorem x6_vw1 {z : Pz} (hz : jC 1 z) {rays kns kgs pws : Nat → Int64} {tab : Nat → Int32} (hT : lnT rays kns kgs pws) (hB : tbP tab) {bal : Int32} {kinds sides : Nat → Int64} (hC : clP z.1 bal kinds sides) {lo hi : Int} (hlh : lo < hi) (h1 : -1000000 ≤ lo) (h2 : hi ≤ 1000000) (row : Nat → Int32) (l1 l4 : Int32) (l2 l3 l5 l6 l7 : Int64) (l8 : Nat → Int32) (l9 : Nat → Int64) : ∃ (r : Int) (row' : Nat → Int32) (l1' l4' : Int32) (l2' l3' l5' l6' l7' : Int64) (l8' : Nat → Int32) (l9' : Nat → Int64), m_X6_valueWithin_1 row l1 l2 l3 l4 l5 l6 l7 l8 l9 (nI z.2.1) (nI z.2.2.1) (pI z.2.2.2.1) (nI z.2.2.2.2.1) bal z.1 kinds sides rays kns kgs pws tab (iI lo) (iI hi) = some (iI r, row', l1', l2', l3', l4', l5', l6', l7', l8', l9') ∧ winP (vlS 1 z) lo hi r ∧ -1000000 ≤ r ∧ r ≤ 1000000 := by
  have hi1 := hz.1
  have hh := hz.2
  obtain ⟨own, all, S, P, Q, k, st, go, e1, hsv⟩ := x2_survey hi1 hT hC.1 l1 l4 l2 l3 l5 l6 l7 l8 l9
  unfold m_X6_valueWithin_1 m_X6_valueWithin_1_b60
  rw [ob_s e1]
  try dsimp only
  rw [ob_s (x2_hasNone hi1 hsv), bI_if]
  have bd := vlS_bd2 jC_ok 1 z (by omega) hz
  cases hE : (lmS z).isEmpty with
  | true =>
    simp only [if_true]
    have en : endS 1 z ≠ 1 := by
      unfold endS
      rw [if_pos hE]
      split <;> omega
    have ve : vlS 1 z = endS 1 z := vl_end en
    rw [ve] at bd
    have e2 : m_X6_valueWithoutMoves (nI z.2.1) kinds sides rays kns kgs pws 1 = _ := x6_noMoves hi1 hT hC.1 hE 1
    rw [ob_s e2, ve]
    exact ⟨endS 1 z, row, _, _, _, _, _, _, _, _, _, rfl, win_rfl _ _ _, by omega, by omega⟩
  | false =>
    simp only [Bool.false_eq_true, if_false]
    rw [ob_s (x0_isFifty (by omega)), bI_if, ob_s (x0_isBare hC.1), bI_if]
    have draw : (decide (100 ≤ z.2.2.2.2.1) || bareS z.1) = true → winP (vlS 1 z) lo hi 0 := by
      intro h
      rw [vl_end (by rw [end_draw hE h]; decide), end_draw hE h]
      exact win_rfl _ _ _
    have z0 : (0 : Int32) = iI 0 := by decide
    cases h5 : decide (100 ≤ z.2.2.2.2.1) with
    | true =>
      simp only [if_true]
      rw [z0]
      exact ⟨0, row, _, _, _, _, _, _, _, _, _, rfl, draw (by rw [h5]; rfl), by omega, by omega⟩
    | false =>
      simp only [Bool.false_eq_true, if_false]
      cases hb : bareS z.1 with
      | true =>
        simp only [if_true]
        rw [z0]
        exact ⟨0, row, _, _, _, _, _, _, _, _, _, rfl, draw (by rw [hb]; simp), by omega, by omega⟩
      | false =>
        simp only [Bool.false_eq_true, if_false]
        obtain ⟨row', a1, a2⟩ := x6_ltf1 hi1 hC.1 hsv row
        have hl := tkL_len hi1
        rw [ob_s a1]
        try dsimp only
        obtain ⟨b, c1, c2, c3, c4⟩ := bestGain_l hz hB bal hl (fun m hm => (tkL_mem hi1).mp hm) a2 (hi := hi) (by omega) h2 (tkL z).length 0 (kF - 1 - (tkL z).length) lo lo (by omega) ⟨fun _ => rfl, fun g => by omega⟩ h1 (by omega)
        have e : kF - 1 - (tkL z).length + (tkL z).length + 1 = kF := by unfold kF; omega
        rw [e] at c1
        rw [List.drop_zero] at c2
        have eb : m_X6_bestGain row' (nI z.2.1) (pI z.2.2.2.1) bal z.1 tab (nI (tkL z).length) (iI lo) (iI hi) = some (iI b) := by
          unfold m_X6_bestGain
          rw [ob_s (x0_worth hC.2 hi1.2.1)]
          exact c1
        rw [ob_s eb]
        exact ⟨b, row', _, _, _, _, _, _, _, _, _, rfl, tk_win hz (by omega) (end_go hE h5 hb) hlh c2, c3, c4⟩
theorem neg_win {v hi best r : Int} (h : winP v (-hi) (-best) r) : (-v ≤ best → -r ≤ best) ∧ (best < -v → -v < hi → -r = -v) ∧ (hi ≤ -v → hi ≤ -r) := by
  obtain ⟨h1, h2, h3⟩ := h
  refine ⟨fun g => ?_, fun g1 g2 => ?_, fun g => ?_⟩
  · have := h3 (by omega)
    omega
  · have := h2 (by omega) (by omega)
    omega
  · have := h1 (by omega)
    omega
theorem vw2_l {z : Pz} (hz : jC 2 z) {rays kns kgs pws : Nat → Int64} {tab : Nat → Int32} (hT : lnT rays kns kgs pws) (hB : tbP tab) {L : List Mv} (hL : L.length ≤ 432) (hLm : ∀ m ∈ L, m ∈ lmS z) {row2 : Nat → Int32} (hr : rwC L row2) {hi : Int} (h1 : -1000000 ≤ hi) (h2 : hi ≤ 1000000) {made : Nat} (hmade : made + 2 < 1027) : ∀ (dd k n : Nat) (M best : Int) (row1 : Nat → Int32) (l1 l4 : Int32) (l2 l3 l5 l6 l7 : Int64) (l8 : Nat → Int32) (l9 : Nat → Int64) (mv pb : Nat → Int32) (bal : Int32) (kinds sides : Nat → Int64), k + dd = L.length → clP z.1 bal kinds sides → abI M hi best → -1000000 ≤ best → best ≤ 1000000 → ∃ (b : Int) (row1' : Nat → Int32) (l1' l4' : Int32) (l2' l3' l5' l6' l7' : Int64) (l8' : Nat → Int32) (l9' : Nat → Int64) (mv' pb' : Nat → Int32) (bal' : Int32) (kinds' sides' : Nat → Int64), m_X6_valueWithin_2_l102 rays kns kgs pws tab (n + dd + 1) row1 row2 l1 l2 l3 l4 l5 l6 l7 l8 l9 (nI made) mv pb (nI z.2.1) (nI z.2.2.1) (pI z.2.2.2.1) (nI z.2.2.2.2.1) (nI z.2.2.2.2.2) bal z.1 kinds sides (iI hi) (nI L.length) (iI best) (nI k) = some (iI b, row1', row2, l1', l2', l3', l4', l5', l6', l7', l8', l9', nI made, mv', pb', nI z.2.1, nI z.2.2.1, pI z.2.2.2.1, nI z.2.2.2.2.1, nI z.2.2.2.2.2, bal', z.1, kinds', sides') ∧ abI (((L.drop k).map (fun m => -(vlS 1 (mkM z m)))).foldl max M) hi b ∧ -1000000 ≤ b ∧ b ≤ 1000000 ∧ clP z.1 bal' kinds' sides' ∧ (∀ i, i < made → mv' i = mv i ∧ pb' i = pb i) := by
  intro dd
  induction dd with
  | zero =>
    intro k n M best row1 l1 l4 l2 l3 l5 l6 l7 l8 l9 mv pb bal kinds sides e hC hab b1 b2
    refine ⟨best, row1, l1, l4, l2, l3, l5, l6, l7, l8, l9, mv, pb, bal, kinds, sides, ?_, ?_, b1, b2, hC, fun _ _ => ⟨rfl, rfl⟩⟩
    · rw [m_X6_valueWithin_2_l102_s]
      unfold m_X6_valueWithin_2_b102 m_X6_valueWithin_2_b161
      rw [if_pos (nI_le (by omega) (by omega))]
    · rw [List.drop_eq_nil_of_le (by omega)]
      exact hab
  | succ dd ih =>
    intro k n M best row1 l1 l4 l2 l3 l5 l6 l7 l8 l9 mv pb bal kinds sides e hC hab b1 b2
    obtain ⟨m, hm1, hm2, hm3⟩ := drop_cons (l := L) (k := k) (by omega)
    rw [show n + (dd + 1) + 1 = n + dd + 1 + 1 from rfl, m_X6_valueWithin_2_l102_s]
    unfold m_X6_valueWithin_2_b102 m_X6_valueWithin_2_b161
    rw [if_neg (nI_ge (by omega) (by omega))]
    have cl : iI hi ≤ iI best ↔ hi ≤ best := iI_le (by omega) (by omega) (by omega) (by omega)
    by_cases q : hi ≤ best
    · rw [if_pos (cl.mpr q)]
      exact ⟨best, row1, l1, l4, l2, l3, l5, l6, l7, l8, l9, mv, pb, bal, kinds, sides, rfl, ab_up hab q (fmax_ge _ _).1, b1, b2, hC, fun _ _ => ⟨rfl, rfl⟩⟩
    · rw [if_neg (fun g => q (cl.mp g))]
      have hml := hLm m hm2
      have hJm := jC_ok.2 1 z m hz hml
      have hh := hz.2
      have er := hr k m hm1
      obtain ⟨balm, kindsm, sidesm, em, hCm⟩ := x4_make hz.1 (by omega) hT hB (f := m.1) (t := m.2.1) (u := m.2.2) hml hC (made := made) (by omega) mv pb
      have em : m_X4_make (nI made) mv pb (nI z.2.1) (nI z.2.2.1) (pI z.2.2.2.1) (nI z.2.2.2.2.1) (nI z.2.2.2.2.2) bal z.1 kinds sides rays kns kgs pws tab (nI (enM m)) = some (tkS z.1 m.1 m.2.1, nI (made + 1), upd mv made (nI (enM m)), upd pb made (nI (goN (kd (tkS z.1 m.1 m.2.1)) z)), nI (mkM z m).2.1, nI (mkM z m).2.2.1, pI (mkM z m).2.2.2.1, nI (mkM z m).2.2.2.2.1, nI (mkM z m).2.2.2.2.2, balm, (mkM z m).1, kindsm, sidesm) := em
      have hCm : clP (mkM z m).1 balm kindsm sidesm := hCm
      obtain ⟨r, row1', l1q, l4q, l2q, l3q, l5q, l6q, l7q, l8q, l9q, ev, hw, r1, r2⟩ := x6_vw1 hJm hT hB hCm (lo := -hi) (hi := -best) (by omega) (by omega) (by omega) row1 l1 l4 l2 l3 l5 l6 l7 l8 l9
      obtain ⟨bal2, kinds2, sides2, eb, hC2⟩ := x4_takeBack hz.1 (by omega) hB (f := m.1) (t := m.2.1) (u := m.2.2) hml hCm (made := made) (by omega) (mv := upd mv made (nI (enM m))) (pb := upd pb made (nI (goN (kd (tkS z.1 m.1 m.2.1)) z))) pk_us pk_us (nI (mkM z m).2.2.1) (pI (mkM z m).2.2.2.1) (nI (mkM z m).2.2.2.2.1)
      have eb : m_X4_takeBack (nI (made + 1)) (upd mv made (nI (enM m))) (upd pb made (nI (goN (kd (tkS z.1 m.1 m.2.1)) z))) (nI (mkM z m).2.1) (nI (mkM z m).2.2.1) (pI (mkM z m).2.2.2.1) (nI (mkM z m).2.2.2.2.1) (nI (mkM z m).2.2.2.2.2) balm (mkM z m).1 kindsm sidesm tab = some (nI made, nI z.2.1, nI z.2.2.1, pI z.2.2.2.1, nI z.2.2.2.2.1, nI z.2.2.2.2.2, bal2, z.1, kinds2, sides2) := eb
      rw [oin_n (by omega) (by omega), nI_clamp (by omega), er, ob_s em]
      try dsimp only
      rw [iI_neg, iI_neg, ob_s ev]
      try dsimp only
      rw [iI_neg, ob_s (j9_max (by omega) (by omega) (by omega) (by omega)), ob_s eb]
      try dsimp only
      rw [ol_r, nI_1, hm3, List.map_cons, List.foldl_cons]
      obtain ⟨b, row1f, l1f, l4f, l2f, l3f, l5f, l6f, l7f, l8f, l9f, mvf, pbf, balf, kindsf, sidesf, x1, x2, x3, x4, x5, x6⟩ := ih (k + 1) n (max M (-(vlS 1 (mkM z m)))) (max best (-r)) row1' l1q l4q l2q l3q l5q l6q l7q l8q l9q (upd mv made (nI (enM m))) (upd pb made (nI (goN (kd (tkS z.1 m.1 m.2.1)) z))) bal2 kinds2 sides2 (by omega) hC2 (ab_step hab (by omega) (neg_win hw)) (by omega) (by omega)
      refine ⟨b, row1f, l1f, l4f, l2f, l3f, l5f, l6f, l7f, l8f, l9f, mvf, pbf, balf, kindsf, sidesf, x1, x2, x3, x4, x5, fun i hi => ?_⟩
      obtain ⟨y1, y2⟩ := x6 i hi
      rw [pk_un (by omega)] at y1 y2
      exact ⟨y1, y2⟩
theorem x6_vw2 {z : Pz} (hz : jC 2 z) {rays kns kgs pws : Nat → Int64} {tab : Nat → Int32} (hT : lnT rays kns kgs pws) (hB : tbP tab) {bal : Int32} {kinds sides : Nat → Int64} (hC : clP z.1 bal kinds sides) {lo hi : Int} (hlh : lo < hi) (h1 : -1000000 ≤ lo) (h2 : hi ≤ 1000000) {made : Nat} (hmade : made + 2 < 1027) (row1 row2 : Nat → Int32) (l1 l4 : Int32) (l2 l3 l5 l6 l7 : Int64) (l8 : Nat → Int32) (l9 : Nat → Int64) (mv pb : Nat → Int32) : ∃ (r : Int) (row1' row2' : Nat → Int32) (l1' l4' : Int32) (l2' l3' l5' l6' l7' : Int64) (l8' : Nat → Int32) (l9' : Nat → Int64) (mv' pb' : Nat → Int32) (bal' : Int32) (kinds' sides' : Nat → Int64), m_X6_valueWithin_2 row1 row2 l1 l2 l3 l4 l5 l6 l7 l8 l9 (nI made) mv pb (nI z.2.1) (nI z.2.2.1) (pI z.2.2.2.1) (nI z.2.2.2.2.1) (nI z.2.2.2.2.2) bal z.1 kinds sides rays kns kgs pws tab (iI lo) (iI hi) = some (iI r, row1', row2', l1', l2', l3', l4', l5', l6', l7', l8', l9', nI made, mv', pb', nI z.2.1, nI z.2.2.1, pI z.2.2.2.1, nI z.2.2.2.2.1, nI z.2.2.2.2.2, bal', z.1, kinds', sides') ∧ winP (vlS 2 z) lo hi r ∧ -1000000 ≤ r ∧ r ≤ 1000000 ∧ clP z.1 bal' kinds' sides' ∧ (∀ i, i < made → mv' i = mv i ∧ pb' i = pb i) := by
  have hi1 := hz.1
  have hh := hz.2
  obtain ⟨own, all, S, P, Q, k, st, go, e1, hsv⟩ := x2_survey hi1 hT hC.1 l1 l4 l2 l3 l5 l6 l7 l8 l9
  unfold m_X6_valueWithin_2 m_X6_valueWithin_2_b60
  rw [ob_s e1]
  try dsimp only
  rw [ob_s (x2_hasNone hi1 hsv), bI_if]
  have bd := vlS_bd2 jC_ok 2 z (by omega) hz
  cases hE : (lmS z).isEmpty with
  | true =>
    simp only [if_true]
    have en : endS 2 z ≠ 1 := by
      unfold endS
      rw [if_pos hE]
      split <;> omega
    have ve : vlS 2 z = endS 2 z := vl_end en
    rw [ve] at bd
    have e2 : m_X6_valueWithoutMoves (nI z.2.1) kinds sides rays kns kgs pws 2 = _ := x6_noMoves hi1 hT hC.1 hE 2
    rw [ob_s e2, ve]
    exact ⟨endS 2 z, row1, row2, _, _, _, _, _, _, _, _, _, mv, pb, bal, kinds, sides, rfl, win_rfl _ _ _, by omega, by omega, hC, fun _ _ => ⟨rfl, rfl⟩⟩
  | false =>
    simp only [Bool.false_eq_true, if_false]
    rw [ob_s (x0_isFifty (by omega)), bI_if, ob_s (x0_isBare hC.1), bI_if]
    have draw : (decide (100 ≤ z.2.2.2.2.1) || bareS z.1) = true → winP (vlS 2 z) lo hi 0 := by
      intro h
      rw [vl_end (by rw [end_draw hE h]; decide), end_draw hE h]
      exact win_rfl _ _ _
    have z0 : (0 : Int32) = iI 0 := by decide
    cases h5 : decide (100 ≤ z.2.2.2.2.1) with
    | true =>
      simp only [if_true]
      exact ⟨0, row1, row2, _, _, _, _, _, _, _, _, _, mv, pb, bal, kinds, sides, rfl, draw (by rw [h5]; rfl), by omega, by omega, hC, fun _ _ => ⟨rfl, rfl⟩⟩
    | false =>
      simp only [Bool.false_eq_true, if_false]
      cases hb : bareS z.1 with
      | true =>
        simp only [if_true]
        exact ⟨0, row1, row2, _, _, _, _, _, _, _, _, _, mv, pb, bal, kinds, sides, rfl, draw (by rw [hb]; simp), by omega, by omega, hC, fun _ _ => ⟨rfl, rfl⟩⟩
      | false =>
        simp only [Bool.false_eq_true, if_false]
        obtain ⟨row', a1, a2⟩ := x6_ltf2 hi1 hC.1 hsv row2
        have hl := tkL_len hi1
        rw [ob_s a1]
        try dsimp only
        obtain ⟨b, row1f, l1f, l4f, l2f, l3f, l5f, l6f, l7f, l8f, l9f, mvf, pbf, balf, kindsf, sidesf, x1, x2, x3, x4, x5, x6⟩ := vw2_l hz hT hB hl (fun m hm => (tkL_mem hi1).mp hm) a2 (hi := hi) (by omega) h2 hmade (tkL z).length 0 (kF - 1 - (tkL z).length) lo lo row1 (nI (owL z).length) (nI k) own all S P Q st go mv pb bal kinds sides (by omega) hC ⟨fun _ => rfl, fun g => by omega⟩ h1 (by omega)
        have e : kF - 1 - (tkL z).length + (tkL z).length + 1 = kF := by unfold kF; omega
        rw [e] at x1
        rw [List.drop_zero] at x2
        exact ⟨b, row1f, row', l1f, l4f, l2f, l3f, l5f, l6f, l7f, l8f, l9f, mvf, pbf, balf, kindsf, sidesf, x1, tk_win hz (by omega) (end_go hE h5 hb) hlh x2, x3, x4, x5, x6⟩
/-- best and choice of the class say what the plain search says -/
def csP (a : Int × Option Mv) (b : Int) (sc : Int32) : Prop := match a.2 with
  | none => b = -1000000 ∧ a.1 = 100000
  | some m => b = -a.1 ∧ sc = nI (enM m) ∧ -64000 ≤ a.1 ∧ a.1 ≤ 64000
theorem cs_step {a : Int × Option Mv} {b : Int} {sc : Int32} (h : csP a b sc) {v r : Int} (hv1 : -64000 ≤ v) (hv2 : v ≤ 64000) (hw : winP v (-1000000) (-b) r) (m : Mv) : ((-r ≤ b ↔ ¬ v < a.1) ∧ (v < a.1 → -r = -v) ∧ csP (if v < a.1 then (v, some m) else a) (if v < a.1 then -v else b) (if v < a.1 then nI (enM m) else sc)) := by
  obtain ⟨h1, h2, h3⟩ := hw
  obtain ⟨x, o⟩ := a
  cases o with
  | none =>
    obtain ⟨g1, g2⟩ := h
    dsimp only at g2 ⊢
    have hl : v < x := by omega
    have e := h2 (by omega) (by omega)
    rw [if_pos hl, if_pos hl, if_pos hl]
    refine ⟨⟨fun q => by omega, fun q => absurd hl q⟩, fun _ => by omega, rfl, rfl, hv1, hv2⟩
  | some m0 =>
    obtain ⟨g1, g2, g3, g4⟩ := h
    dsimp only at g1 g3 g4 ⊢
    by_cases q : v < x
    · have e := h2 (by omega) (by omega)
      rw [if_pos q, if_pos q, if_pos q]
      exact ⟨⟨fun q2 => by omega, fun q2 => absurd q q2⟩, fun _ => by omega, rfl, rfl, hv1, hv2⟩
    · have e := h3 (by omega)
      rw [if_neg q, if_neg q, if_neg q]
      exact ⟨⟨fun _ => q, fun _ => by omega⟩, fun q2 => absurd q2 q, g1, g2, g3, g4⟩
theorem cs_bd {a : Int × Option Mv} {b : Int} {sc : Int32} (h : csP a b sc) : -1000000 ≤ b ∧ b ≤ 64000 := by
  obtain ⟨x, o⟩ := a
  cases o with
  | none =>
    have := h.1
    omega
  | some m0 =>
    obtain ⟨g1, g2, g3, g4⟩ := h
    dsimp only at g1 g3 g4
    omega
theorem choose1_l {z : Pz} (hz : jC 1 z) {rays kns kgs pws : Nat → Int64} {tab : Nat → Int32} (hT : lnT rays kns kgs pws) (hB : tbP tab) {row : Nat → Int32} (hr : rwC (lmS z) row) {made : Nat} (hmade : made + 3 < 1027) : ∀ (dd k n : Nat) (a : Int × Option Mv) (b : Int) (sc : Int32) (mv pb : Nat → Int32) (bal : Int32) (kinds sides : Nat → Int64), k + dd = (lmS z).length → clP z.1 bal kinds sides → csP a b sc → ∃ (b' : Int) (sc' : Int32) (mv' pb' : Nat → Int32) (bal' : Int32) (kinds' sides' : Nat → Int64), m_X6_choose_1_l7 row rays kns kgs pws tab (n + dd + 1) sc (nI made) mv pb (nI z.2.1) (nI z.2.2.1) (pI z.2.2.2.1) (nI z.2.2.2.2.1) (nI z.2.2.2.2.2) bal z.1 kinds sides (nI (lmS z).length) (iI b) (nI k) = some (iI (b'), sc', nI made, mv', pb', nI z.2.1, nI z.2.2.1, pI z.2.2.2.1, nI z.2.2.2.2.1, nI z.2.2.2.2.2, bal', z.1, kinds', sides') ∧ csP (lsS (fun m => vlS 0 (mkM z m)) ((lmS z).drop k) a) b' sc' ∧ clP z.1 bal' kinds' sides' ∧ (∀ i, i < made → mv' i = mv i ∧ pb' i = pb i) := by
  have hl := lmS_len hz.1
  have hh := hz.2
  intro dd
  induction dd with
  | zero =>
    intro k n a b sc mv pb bal kinds sides e hC hcs
    refine ⟨b, sc, mv, pb, bal, kinds, sides, ?_, ?_, hC, fun _ _ => ⟨rfl, rfl⟩⟩
    · rw [m_X6_choose_1_l7_s]
      unfold m_X6_choose_1_b7
      rw [if_pos (nI_le (by omega) (by omega))]
    · rw [List.drop_eq_nil_of_le (by omega)]
      exact hcs
  | succ dd ih =>
    intro k n a b sc mv pb bal kinds sides e hC hcs
    obtain ⟨m, hm1, hml, hm3⟩ := drop_cons (l := lmS z) (k := k) (by omega)
    have hb := cs_bd hcs
    have hJm := jC_ok.2 0 z m hz hml
    have bd := vlS_bd2 jC_ok 0 _ (by omega) hJm
    have er := hr k m hm1
    obtain ⟨balm, kindsm, sidesm, em, hCm⟩ := x4_make hz.1 (by omega) hT hB (f := m.1) (t := m.2.1) (u := m.2.2) hml hC (made := made) (by omega) mv pb
    have em : m_X4_make (nI made) mv pb (nI z.2.1) (nI z.2.2.1) (pI z.2.2.2.1) (nI z.2.2.2.2.1) (nI z.2.2.2.2.2) bal z.1 kinds sides rays kns kgs pws tab (nI (enM m)) = some (tkS z.1 m.1 m.2.1, nI (made + 1), upd mv made (nI (enM m)), upd pb made (nI (goN (kd (tkS z.1 m.1 m.2.1)) z)), nI (mkM z m).2.1, nI (mkM z m).2.2.1, pI (mkM z m).2.2.2.1, nI (mkM z m).2.2.2.2.1, nI (mkM z m).2.2.2.2.2, balm, (mkM z m).1, kindsm, sidesm) := em
    have hCm : clP (mkM z m).1 balm kindsm sidesm := hCm
    have ev : m_X6_valueWithin_0 (nI (mkM z m).2.1) balm (-1000000) (-(iI b)) = some (iI (vlS 0 (mkM z m))) := x6_vw0 hJm hCm _ _
    have hw : winP (vlS 0 (mkM z m)) (-1000000) (-b) (vlS 0 (mkM z m)) := win_rfl _ _ _
    generalize er0 : vlS 0 (mkM z m) = r at ev
    have r1 : -1000000 ≤ r ∧ r ≤ 1000000 := by omega
    rw [er0] at hw
    have hw : winP (vlS 0 (mkM z m)) (-1000000) (-b) r := by rw [er0]; exact hw
    obtain ⟨c1, c2, c3⟩ := cs_step hcs bd.1 bd.2 hw m
    obtain ⟨bal2, kinds2, sides2, eb, hC2⟩ := x4_takeBack hz.1 (by omega) hB (f := m.1) (t := m.2.1) (u := m.2.2) hml hCm (made := made) (by omega) (mv := (upd mv made (nI (enM m)))) (pb := (upd pb made (nI (goN (kd (tkS z.1 m.1 m.2.1)) z)))) pk_us pk_us (nI (mkM z m).2.2.1) (pI (mkM z m).2.2.2.1) (nI (mkM z m).2.2.2.2.1)
    have eb : m_X4_takeBack (nI (made + 1)) (upd mv made (nI (enM m))) (upd pb made (nI (goN (kd (tkS z.1 m.1 m.2.1)) z))) (nI (mkM z m).2.1) (nI (mkM z m).2.2.1) (pI (mkM z m).2.2.2.1) (nI (mkM z m).2.2.2.2.1) (nI (mkM z m).2.2.2.2.2) balm (mkM z m).1 kindsm sidesm tab = some (nI made, nI z.2.1, nI z.2.2.1, pI z.2.2.2.1, nI z.2.2.2.2.1, nI z.2.2.2.2.2, bal2, z.1, kinds2, sides2) := eb
    obtain ⟨bf, scf, mvf, pbf, balf, kindsf, sidesf, x1, x2, x3, x4⟩ := ih (k + 1) n (if vlS 0 (mkM z m) < a.1 then (vlS 0 (mkM z m), some m) else a) (if vlS 0 (mkM z m) < a.1 then -(vlS 0 (mkM z m)) else b) (if vlS 0 (mkM z m) < a.1 then nI (enM m) else sc) (upd mv made (nI (enM m))) (upd pb made (nI (goN (kd (tkS z.1 m.1 m.2.1)) z))) bal2 kinds2 sides2 (by omega) hC2 c3
    refine ⟨bf, scf, mvf, pbf, balf, kindsf, sidesf, ?_, ?_, x3, fun i hi => ?_⟩
    · rw [← x1]
      rw [show n + (dd + 1) + 1 = n + dd + 1 + 1 from rfl, m_X6_choose_1_l7_s]
      unfold m_X6_choose_1_b7 m_X6_choose_1_b66
      rw [if_neg (nI_ge (by omega) (by omega)), oin_n (by omega) (by omega), nI_clamp (by omega), er, ob_s em]
      try dsimp only
      rw [ob_s ev]
      try dsimp only
      rw [ol_r, iI_neg, ob_s eb]
      try dsimp only
      have cl : iI (-r) ≤ iI b ↔ -r ≤ b := iI_le (by omega) (by omega) (by omega) (by omega)
      by_cases q : vlS 0 (mkM z m) < a.1
      · rw [if_neg (fun g => (c1.mp (cl.mp g)) q), if_pos q, if_pos q, oin_n (by omega) (by omega), ol_r, ol_r, nI_1, c2 q]
      · rw [if_pos (cl.mpr (c1.mpr q)), if_neg q, if_neg q, ol_r, nI_1]
    · rw [hm3]
      exact x2
    · obtain ⟨y1, y2⟩ := x4 i hi
      rw [pk_un (by omega)] at y1 y2
      exact ⟨y1, y2⟩
theorem x6_choose1 {z : Pz} (hz : jC 1 z) {rays kns kgs pws : Nat → Int64} {tab : Nat → Int32} (hT : lnT rays kns kgs pws) (hB : tbP tab) {bal : Int32} {kinds sides : Nat → Int64} (hC : clP z.1 bal kinds sides) {row : Nat → Int32} (hr : rwC (lmS z) row) (hne : lmS z ≠ []) {made : Nat} (hmade : made + 3 < 1027) (sc : Int32) (mv pb : Nat → Int32) : ∃ (m : Mv) (mv' pb' : Nat → Int32) (bal' : Int32) (kinds' sides' : Nat → Int64), m_X6_choose_1 sc row (nI made) mv pb (nI z.2.1) (nI z.2.2.1) (pI z.2.2.2.1) (nI z.2.2.2.2.1) (nI z.2.2.2.2.2) bal z.1 kinds sides rays kns kgs pws tab (nI (lmS z).length) = some (iI (-((seS 1 z).1)), nI (enM m), nI made, mv', pb', nI z.2.1, nI z.2.2.1, pI z.2.2.2.1, nI z.2.2.2.2.1, nI z.2.2.2.2.2, bal', z.1, kinds', sides') ∧ (seS 1 z).2 = some m ∧ m ∈ lmS z ∧ clP z.1 bal' kinds' sides' ∧ (∀ i, i < made → mv' i = mv i ∧ pb' i = pb i) := by
  have hl := lmS_len hz.1
  obtain ⟨bf, scf, mvf, pbf, balf, kindsf, sidesf, x1, x2, x3, x4⟩ := choose1_l hz hT hB hr hmade (lmS z).length 0 (kF - 1 - (lmS z).length) (100000, none) (-1000000) sc mv pb bal kinds sides (by omega) hC ⟨rfl, rfl⟩
  have e : kF - 1 - (lmS z).length + (lmS z).length + 1 = kF := by unfold kF; omega
  rw [e] at x1
  rw [List.drop_zero] at x2
  have hsome : ∃ m, (seS 1 z).2 = some m ∧ m ∈ lmS z := by
    have : ∀ (g : Mv → Int) (l : List Mv) (a : Int × Option Mv), (∀ m ∈ l, g m ≤ 64000) → (l ≠ [] → (a.2 = none → a.1 = 100000) → ∃ m, (lsS g l a).2 = some m ∧ (m ∈ l ∨ a.2 = some m)) := by
      intro g l
      induction l with
      | nil => intro a _ h; exact absurd rfl h
      | cons x l ih =>
        intro a hg _ ha
        unfold lsS
        have hx := hg x List.mem_cons_self
        by_cases q : g x < a.1
        · rw [if_pos q]
          cases l with
          | nil => exact ⟨x, rfl, Or.inl List.mem_cons_self⟩
          | cons y l =>
            obtain ⟨m, h1, h2⟩ := ih (g x, some x) (fun m hm => hg m (List.mem_cons_of_mem _ hm)) (by simp) (fun h => by cases h)
            refine ⟨m, h1, ?_⟩
            rcases h2 with h2 | h2
            · exact Or.inl (List.mem_cons_of_mem _ h2)
            · have : x = m := by simpa using h2
              rw [← this]
              exact Or.inl List.mem_cons_self
        · rw [if_neg q]
          have han : a.2 ≠ none := by
            intro h
            have := ha h
            omega
          cases l with
          | nil =>
            obtain ⟨m, hm⟩ := Option.ne_none_iff_exists'.mp han
            exact ⟨m, hm, Or.inr hm⟩
          | cons y l =>
            obtain ⟨m, h1, h2⟩ := ih a (fun m hm => hg m (List.mem_cons_of_mem _ hm)) (by simp) ha
            exact ⟨m, h1, h2.imp (List.mem_cons_of_mem _) id⟩
    obtain ⟨m, h1, h2⟩ := this (fun m => vlS 0 (mkM z m)) (lmS z) (100000, none) (fun m hm => (vlS_bd2 jC_ok 0 _ (by omega) (jC_ok.2 0 z m hz hm)).2) hne (fun _ => rfl)
    exact ⟨m, h1, h2.elim id (fun h => by cases h)⟩
  obtain ⟨m, hm1, hm2⟩ := hsome
  have x2 : csP (seS 1 z) bf scf := x2
  unfold csP at x2
  rw [hm1] at x2
  obtain ⟨y1, y2, -, -⟩ := x2
  rw [y1, y2] at x1
  exact ⟨m, mvf, pbf, balf, kindsf, sidesf, x1, hm1, hm2, x3, x4⟩
theorem choose2_l {z : Pz} (hz : jC 2 z) {rays kns kgs pws : Nat → Int64} {tab : Nat → Int32} (hT : lnT rays kns kgs pws) (hB : tbP tab) {row : Nat → Int32} (hr : rwC (lmS z) row) {made : Nat} (hmade : made + 3 < 1027) : ∀ (dd k n : Nat) (a : Int × Option Mv) (b : Int) (sc : Int32) (row1 : Nat → Int32) (l1 l4 : Int32) (l2 l3 l5 l6 l7 : Int64) (l8 : Nat → Int32) (l9 : Nat → Int64) (mv pb : Nat → Int32) (bal : Int32) (kinds sides : Nat → Int64), k + dd = (lmS z).length → clP z.1 bal kinds sides → csP a b sc → ∃ (b' : Int) (sc' : Int32) (row1' : Nat → Int32) (l1' l4' : Int32) (l2' l3' l5' l6' l7' : Int64) (l8' : Nat → Int32) (l9' : Nat → Int64) (mv' pb' : Nat → Int32) (bal' : Int32) (kinds' sides' : Nat → Int64), m_X6_choose_2_l7 row rays kns kgs pws tab (n + dd + 1) sc row1 l1 l2 l3 l4 l5 l6 l7 l8 l9 (nI made) mv pb (nI z.2.1) (nI z.2.2.1) (pI z.2.2.2.1) (nI z.2.2.2.2.1) (nI z.2.2.2.2.2) bal z.1 kinds sides (nI (lmS z).length) (iI b) (nI k) = some (iI (b'), sc', row1', l1', l2', l3', l4', l5', l6', l7', l8', l9', nI made, mv', pb', nI z.2.1, nI z.2.2.1, pI z.2.2.2.1, nI z.2.2.2.2.1, nI z.2.2.2.2.2, bal', z.1, kinds', sides') ∧ csP (lsS (fun m => vlS 1 (mkM z m)) ((lmS z).drop k) a) b' sc' ∧ clP z.1 bal' kinds' sides' ∧ (∀ i, i < made → mv' i = mv i ∧ pb' i = pb i) := by
  have hl := lmS_len hz.1
  have hh := hz.2
  intro dd
  induction dd with
  | zero =>
    intro k n a b sc row1 l1 l4 l2 l3 l5 l6 l7 l8 l9 mv pb bal kinds sides e hC hcs
    refine ⟨b, sc, row1, l1, l4, l2, l3, l5, l6, l7, l8, l9, mv, pb, bal, kinds, sides, ?_, ?_, hC, fun _ _ => ⟨rfl, rfl⟩⟩
    · rw [m_X6_choose_2_l7_s]
      unfold m_X6_choose_2_b7
      rw [if_pos (nI_le (by omega) (by omega))]
    · rw [List.drop_eq_nil_of_le (by omega)]
      exact hcs
  | succ dd ih =>
    intro k n a b sc row1 l1 l4 l2 l3 l5 l6 l7 l8 l9 mv pb bal kinds sides e hC hcs
    obtain ⟨m, hm1, hml, hm3⟩ := drop_cons (l := lmS z) (k := k) (by omega)
    have hb := cs_bd hcs
    have hJm := jC_ok.2 1 z m hz hml
    have bd := vlS_bd2 jC_ok 1 _ (by omega) hJm
    have er := hr k m hm1
    obtain ⟨balm, kindsm, sidesm, em, hCm⟩ := x4_make hz.1 (by omega) hT hB (f := m.1) (t := m.2.1) (u := m.2.2) hml hC (made := made) (by omega) mv pb
    have em : m_X4_make (nI made) mv pb (nI z.2.1) (nI z.2.2.1) (pI z.2.2.2.1) (nI z.2.2.2.2.1) (nI z.2.2.2.2.2) bal z.1 kinds sides rays kns kgs pws tab (nI (enM m)) = some (tkS z.1 m.1 m.2.1, nI (made + 1), upd mv made (nI (enM m)), upd pb made (nI (goN (kd (tkS z.1 m.1 m.2.1)) z)), nI (mkM z m).2.1, nI (mkM z m).2.2.1, pI (mkM z m).2.2.2.1, nI (mkM z m).2.2.2.2.1, nI (mkM z m).2.2.2.2.2, balm, (mkM z m).1, kindsm, sidesm) := em
    have hCm : clP (mkM z m).1 balm kindsm sidesm := hCm
    obtain ⟨r, row1q, l1q, l4q, l2q, l3q, l5q, l6q, l7q, l8q, l9q, ev, hw, r1⟩ := x6_vw1 hJm hT hB hCm (lo := -1000000) (hi := -b) (by omega) (by omega) (by omega) row1 l1 l4 l2 l3 l5 l6 l7 l8 l9
    have ev : m_X6_valueWithin_1 row1 l1 l2 l3 l4 l5 l6 l7 l8 l9 (nI (mkM z m).2.1) (nI (mkM z m).2.2.1) (pI (mkM z m).2.2.2.1) (nI (mkM z m).2.2.2.2.1) balm (mkM z m).1 kindsm sidesm rays kns kgs pws tab (-1000000) (-(iI b)) = some (iI r, row1q, l1q, l2q, l3q, l4q, l5q, l6q, l7q, l8q, l9q) := by
      rw [iI_neg]
      exact ev
    obtain ⟨c1, c2, c3⟩ := cs_step hcs bd.1 bd.2 hw m
    obtain ⟨bal2, kinds2, sides2, eb, hC2⟩ := x4_takeBack hz.1 (by omega) hB (f := m.1) (t := m.2.1) (u := m.2.2) hml hCm (made := made) (by omega) (mv := (upd mv made (nI (enM m)))) (pb := (upd pb made (nI (goN (kd (tkS z.1 m.1 m.2.1)) z)))) pk_us pk_us (nI (mkM z m).2.2.1) (pI (mkM z m).2.2.2.1) (nI (mkM z m).2.2.2.2.1)
    have eb : m_X4_takeBack (nI (made + 1)) (upd mv made (nI (enM m))) (upd pb made (nI (goN (kd (tkS z.1 m.1 m.2.1)) z))) (nI (mkM z m).2.1) (nI (mkM z m).2.2.1) (pI (mkM z m).2.2.2.1) (nI (mkM z m).2.2.2.2.1) (nI (mkM z m).2.2.2.2.2) balm (mkM z m).1 kindsm sidesm tab = some (nI made, nI z.2.1, nI z.2.2.1, pI z.2.2.2.1, nI z.2.2.2.2.1, nI z.2.2.2.2.2, bal2, z.1, kinds2, sides2) := eb
    obtain ⟨bf, scf, row1f, l1f, l4f, l2f, l3f, l5f, l6f, l7f, l8f, l9f, mvf, pbf, balf, kindsf, sidesf, x1, x2, x3, x4⟩ := ih (k + 1) n (if vlS 1 (mkM z m) < a.1 then (vlS 1 (mkM z m), some m) else a) (if vlS 1 (mkM z m) < a.1 then -(vlS 1 (mkM z m)) else b) (if vlS 1 (mkM z m) < a.1 then nI (enM m) else sc) row1q l1q l4q l2q l3q l5q l6q l7q l8q l9q (upd mv made (nI (enM m))) (upd pb made (nI (goN (kd (tkS z.1 m.1 m.2.1)) z))) bal2 kinds2 sides2 (by omega) hC2 c3
    refine ⟨bf, scf, row1f, l1f, l4f, l2f, l3f, l5f, l6f, l7f, l8f, l9f, mvf, pbf, balf, kindsf, sidesf, ?_, ?_, x3, fun i hi => ?_⟩
    · rw [← x1]
      rw [show n + (dd + 1) + 1 = n + dd + 1 + 1 from rfl, m_X6_choose_2_l7_s]
      unfold m_X6_choose_2_b7 m_X6_choose_2_b66
      rw [if_neg (nI_ge (by omega) (by omega)), oin_n (by omega) (by omega), nI_clamp (by omega), er, ob_s em]
      try dsimp only
      rw [ob_s ev]
      try dsimp only
      rw [ol_r, iI_neg, ob_s eb]
      try dsimp only
      have cl : iI (-r) ≤ iI b ↔ -r ≤ b := iI_le (by omega) (by omega) (by omega) (by omega)
      by_cases q : vlS 1 (mkM z m) < a.1
      · rw [if_neg (fun g => (c1.mp (cl.mp g)) q), if_pos q, if_pos q, oin_n (by omega) (by omega), ol_r, ol_r, nI_1, c2 q]
      · rw [if_pos (cl.mpr (c1.mpr q)), if_neg q, if_neg q, ol_r, nI_1]
    · rw [hm3]
      exact x2
    · obtain ⟨y1, y2⟩ := x4 i hi
      rw [pk_un (by omega)] at y1 y2
      exact ⟨y1, y2⟩
theorem x6_choose2 {z : Pz} (hz : jC 2 z) {rays kns kgs pws : Nat → Int64} {tab : Nat → Int32} (hT : lnT rays kns kgs pws) (hB : tbP tab) {bal : Int32} {kinds sides : Nat → Int64} (hC : clP z.1 bal kinds sides) {row : Nat → Int32} (hr : rwC (lmS z) row) (hne : lmS z ≠ []) {made : Nat} (hmade : made + 3 < 1027) (sc : Int32) (row1 : Nat → Int32) (l1 l4 : Int32) (l2 l3 l5 l6 l7 : Int64) (l8 : Nat → Int32) (l9 : Nat → Int64) (mv pb : Nat → Int32) : ∃ (m : Mv) (row1' : Nat → Int32) (l1' l4' : Int32) (l2' l3' l5' l6' l7' : Int64) (l8' : Nat → Int32) (l9' : Nat → Int64) (mv' pb' : Nat → Int32) (bal' : Int32) (kinds' sides' : Nat → Int64), m_X6_choose_2 sc row1 row l1 l2 l3 l4 l5 l6 l7 l8 l9 (nI made) mv pb (nI z.2.1) (nI z.2.2.1) (pI z.2.2.2.1) (nI z.2.2.2.2.1) (nI z.2.2.2.2.2) bal z.1 kinds sides rays kns kgs pws tab (nI (lmS z).length) = some (iI (-((seS 2 z).1)), nI (enM m), row1', l1', l2', l3', l4', l5', l6', l7', l8', l9', nI made, mv', pb', nI z.2.1, nI z.2.2.1, pI z.2.2.2.1, nI z.2.2.2.2.1, nI z.2.2.2.2.2, bal', z.1, kinds', sides') ∧ (seS 2 z).2 = some m ∧ m ∈ lmS z ∧ clP z.1 bal' kinds' sides' ∧ (∀ i, i < made → mv' i = mv i ∧ pb' i = pb i) := by
  have hl := lmS_len hz.1
  obtain ⟨bf, scf, row1f, l1f, l4f, l2f, l3f, l5f, l6f, l7f, l8f, l9f, mvf, pbf, balf, kindsf, sidesf, x1, x2, x3, x4⟩ := choose2_l hz hT hB hr hmade (lmS z).length 0 (kF - 1 - (lmS z).length) (100000, none) (-1000000) sc row1 l1 l4 l2 l3 l5 l6 l7 l8 l9 mv pb bal kinds sides (by omega) hC ⟨rfl, rfl⟩
  have e : kF - 1 - (lmS z).length + (lmS z).length + 1 = kF := by unfold kF; omega
  rw [e] at x1
  rw [List.drop_zero] at x2
  have hsome : ∃ m, (seS 2 z).2 = some m ∧ m ∈ lmS z := by
    have : ∀ (g : Mv → Int) (l : List Mv) (a : Int × Option Mv), (∀ m ∈ l, g m ≤ 64000) → (l ≠ [] → (a.2 = none → a.1 = 100000) → ∃ m, (lsS g l a).2 = some m ∧ (m ∈ l ∨ a.2 = some m)) := by
      intro g l
      induction l with
      | nil => intro a _ h; exact absurd rfl h
      | cons x l ih =>
        intro a hg _ ha
        unfold lsS
        have hx := hg x List.mem_cons_self
        by_cases q : g x < a.1
        · rw [if_pos q]
          cases l with
          | nil => exact ⟨x, rfl, Or.inl List.mem_cons_self⟩
          | cons y l =>
            obtain ⟨m, h1, h2⟩ := ih (g x, some x) (fun m hm => hg m (List.mem_cons_of_mem _ hm)) (by simp) (fun h => by cases h)
            refine ⟨m, h1, ?_⟩
            rcases h2 with h2 | h2
            · exact Or.inl (List.mem_cons_of_mem _ h2)
            · have : x = m := by simpa using h2
              rw [← this]
              exact Or.inl List.mem_cons_self
        · rw [if_neg q]
          have han : a.2 ≠ none := by
            intro h
            have := ha h
            omega
          cases l with
          | nil =>
            obtain ⟨m, hm⟩ := Option.ne_none_iff_exists'.mp han
            exact ⟨m, hm, Or.inr hm⟩
          | cons y l =>
            obtain ⟨m, h1, h2⟩ := ih a (fun m hm => hg m (List.mem_cons_of_mem _ hm)) (by simp) ha
            exact ⟨m, h1, h2.imp (List.mem_cons_of_mem _) id⟩
    obtain ⟨m, h1, h2⟩ := this (fun m => vlS 1 (mkM z m)) (lmS z) (100000, none) (fun m hm => (vlS_bd2 jC_ok 1 _ (by omega) (jC_ok.2 1 z m hz hm)).2) hne (fun _ => rfl)
    exact ⟨m, h1, h2.elim id (fun h => by cases h)⟩
  obtain ⟨m, hm1, hm2⟩ := hsome
  have x2 : csP (seS 2 z) bf scf := x2
  unfold csP at x2
  rw [hm1] at x2
  obtain ⟨y1, y2, -, -⟩ := x2
  rw [y1, y2] at x1
  exact ⟨m, row1f, l1f, l4f, l2f, l3f, l5f, l6f, l7f, l8f, l9f, mvf, pbf, balf, kindsf, sidesf, x1, hm1, hm2, x3, x4⟩
theorem choose3_l {z : Pz} (hz : jC 3 z) {rays kns kgs pws : Nat → Int64} {tab : Nat → Int32} (hT : lnT rays kns kgs pws) (hB : tbP tab) {row : Nat → Int32} (hr : rwC (lmS z) row) {made : Nat} (hmade : made + 3 < 1027) : ∀ (dd k n : Nat) (a : Int × Option Mv) (b : Int) (sc : Int32) (row1 row2 : Nat → Int32) (l1 l4 : Int32) (l2 l3 l5 l6 l7 : Int64) (l8 : Nat → Int32) (l9 : Nat → Int64) (mv pb : Nat → Int32) (bal : Int32) (kinds sides : Nat → Int64), k + dd = (lmS z).length → clP z.1 bal kinds sides → csP a b sc → ∃ (b' : Int) (sc' : Int32) (row1' row2' : Nat → Int32) (l1' l4' : Int32) (l2' l3' l5' l6' l7' : Int64) (l8' : Nat → Int32) (l9' : Nat → Int64) (mv' pb' : Nat → Int32) (bal' : Int32) (kinds' sides' : Nat → Int64), m_X6_choose_3_l7 row rays kns kgs pws tab (n + dd + 1) sc row1 row2 l1 l2 l3 l4 l5 l6 l7 l8 l9 (nI made) mv pb (nI z.2.1) (nI z.2.2.1) (pI z.2.2.2.1) (nI z.2.2.2.2.1) (nI z.2.2.2.2.2) bal z.1 kinds sides (nI (lmS z).length) (iI b) (nI k) = some (iI (b'), sc', row1', row2', l1', l2', l3', l4', l5', l6', l7', l8', l9', nI made, mv', pb', nI z.2.1, nI z.2.2.1, pI z.2.2.2.1, nI z.2.2.2.2.1, nI z.2.2.2.2.2, bal', z.1, kinds', sides') ∧ csP (lsS (fun m => vlS 2 (mkM z m)) ((lmS z).drop k) a) b' sc' ∧ clP z.1 bal' kinds' sides' ∧ (∀ i, i < made → mv' i = mv i ∧ pb' i = pb i) := by
  have hl := lmS_len hz.1
  have hh := hz.2
  intro dd
  induction dd with
  | zero =>
    intro k n a b sc row1 row2 l1 l4 l2 l3 l5 l6 l7 l8 l9 mv pb bal kinds sides e hC hcs
    refine ⟨b, sc, row1, row2, l1, l4, l2, l3, l5, l6, l7, l8, l9, mv, pb, bal, kinds, sides, ?_, ?_, hC, fun _ _ => ⟨rfl, rfl⟩⟩
    · rw [m_X6_choose_3_l7_s]
      unfold m_X6_choose_3_b7
      rw [if_pos (nI_le (by omega) (by omega))]
    · rw [List.drop_eq_nil_of_le (by omega)]
      exact hcs
  | succ dd ih =>
    intro k n a b sc row1 row2 l1 l4 l2 l3 l5 l6 l7 l8 l9 mv pb bal kinds sides e hC hcs
    obtain ⟨m, hm1, hml, hm3⟩ := drop_cons (l := lmS z) (k := k) (by omega)
    have hb := cs_bd hcs
    have hJm := jC_ok.2 2 z m hz hml
    have bd := vlS_bd2 jC_ok 2 _ (by omega) hJm
    have er := hr k m hm1
    obtain ⟨balm, kindsm, sidesm, em, hCm⟩ := x4_make hz.1 (by omega) hT hB (f := m.1) (t := m.2.1) (u := m.2.2) hml hC (made := made) (by omega) mv pb
    have em : m_X4_make (nI made) mv pb (nI z.2.1) (nI z.2.2.1) (pI z.2.2.2.1) (nI z.2.2.2.2.1) (nI z.2.2.2.2.2) bal z.1 kinds sides rays kns kgs pws tab (nI (enM m)) = some (tkS z.1 m.1 m.2.1, nI (made + 1), upd mv made (nI (enM m)), upd pb made (nI (goN (kd (tkS z.1 m.1 m.2.1)) z)), nI (mkM z m).2.1, nI (mkM z m).2.2.1, pI (mkM z m).2.2.2.1, nI (mkM z m).2.2.2.2.1, nI (mkM z m).2.2.2.2.2, balm, (mkM z m).1, kindsm, sidesm) := em
    have hCm : clP (mkM z m).1 balm kindsm sidesm := hCm
    obtain ⟨r, row1q, row2q, l1q, l4q, l2q, l3q, l5q, l6q, l7q, l8q, l9q, mvq, pbq, balq, kindsq, sidesq, ev, hw, r1, r2, hCq, hfq⟩ := x6_vw2 hJm hT hB hCm (lo := -1000000) (hi := -b) (by omega) (by omega) (by omega) (made := made + 1) (by omega) row1 row2 l1 l4 l2 l3 l5 l6 l7 l8 l9 (upd mv made (nI (enM m))) (upd pb made (nI (goN (kd (tkS z.1 m.1 m.2.1)) z)))
    have r1 : -1000000 ≤ r ∧ r ≤ 1000000 := ⟨r1, r2⟩
    have ev : m_X6_valueWithin_2 row1 row2 l1 l2 l3 l4 l5 l6 l7 l8 l9 (nI (made + 1)) (upd mv made (nI (enM m))) (upd pb made (nI (goN (kd (tkS z.1 m.1 m.2.1)) z))) (nI (mkM z m).2.1) (nI (mkM z m).2.2.1) (pI (mkM z m).2.2.2.1) (nI (mkM z m).2.2.2.2.1) (nI (mkM z m).2.2.2.2.2) balm (mkM z m).1 kindsm sidesm rays kns kgs pws tab (-1000000) (-(iI b)) = some (iI r, row1q, row2q, l1q, l2q, l3q, l4q, l5q, l6q, l7q, l8q, l9q, nI (made + 1), mvq, pbq, nI (mkM z m).2.1, nI (mkM z m).2.2.1, pI (mkM z m).2.2.2.1, nI (mkM z m).2.2.2.2.1, nI (mkM z m).2.2.2.2.2, balq, (mkM z m).1, kindsq, sidesq) := by
      rw [iI_neg]
      exact ev
    obtain ⟨c1, c2, c3⟩ := cs_step hcs bd.1 bd.2 hw m
    obtain ⟨bal2, kinds2, sides2, eb, hC2⟩ := x4_takeBack hz.1 (by omega) hB (f := m.1) (t := m.2.1) (u := m.2.2) hml hCq (made := made) (by omega) (mv := mvq) (pb := pbq) (by rw [(hfq made (by omega)).1, pk_us]) (by rw [(hfq made (by omega)).2, pk_us]) (nI (mkM z m).2.2.1) (pI (mkM z m).2.2.2.1) (nI (mkM z m).2.2.2.2.1)
    have eb : m_X4_takeBack (nI (made + 1)) mvq pbq (nI (mkM z m).2.1) (nI (mkM z m).2.2.1) (pI (mkM z m).2.2.2.1) (nI (mkM z m).2.2.2.2.1) (nI (mkM z m).2.2.2.2.2) balq (mkM z m).1 kindsq sidesq tab = some (nI made, nI z.2.1, nI z.2.2.1, pI z.2.2.2.1, nI z.2.2.2.2.1, nI z.2.2.2.2.2, bal2, z.1, kinds2, sides2) := eb
    obtain ⟨bf, scf, row1f, row2f, l1f, l4f, l2f, l3f, l5f, l6f, l7f, l8f, l9f, mvf, pbf, balf, kindsf, sidesf, x1, x2, x3, x4⟩ := ih (k + 1) n (if vlS 2 (mkM z m) < a.1 then (vlS 2 (mkM z m), some m) else a) (if vlS 2 (mkM z m) < a.1 then -(vlS 2 (mkM z m)) else b) (if vlS 2 (mkM z m) < a.1 then nI (enM m) else sc) row1q row2q l1q l4q l2q l3q l5q l6q l7q l8q l9q mvq pbq bal2 kinds2 sides2 (by omega) hC2 c3
    refine ⟨bf, scf, row1f, row2f, l1f, l4f, l2f, l3f, l5f, l6f, l7f, l8f, l9f, mvf, pbf, balf, kindsf, sidesf, ?_, ?_, x3, fun i hi => ?_⟩
    · rw [← x1]
      rw [show n + (dd + 1) + 1 = n + dd + 1 + 1 from rfl, m_X6_choose_3_l7_s]
      unfold m_X6_choose_3_b7 m_X6_choose_3_b66
      rw [if_neg (nI_ge (by omega) (by omega)), oin_n (by omega) (by omega), nI_clamp (by omega), er, ob_s em]
      try dsimp only
      rw [ob_s ev]
      try dsimp only
      rw [ol_r, iI_neg, ob_s eb]
      try dsimp only
      have cl : iI (-r) ≤ iI b ↔ -r ≤ b := iI_le (by omega) (by omega) (by omega) (by omega)
      by_cases q : vlS 2 (mkM z m) < a.1
      · rw [if_neg (fun g => (c1.mp (cl.mp g)) q), if_pos q, if_pos q, oin_n (by omega) (by omega), ol_r, ol_r, nI_1, c2 q]
      · rw [if_pos (cl.mpr (c1.mpr q)), if_neg q, if_neg q, ol_r, nI_1]
    · rw [hm3]
      exact x2
    · obtain ⟨y1, y2⟩ := x4 i hi
      obtain ⟨z1, z2⟩ := hfq i (by omega)
      rw [pk_un (by omega)] at z1 z2
      exact ⟨y1.trans z1, y2.trans z2⟩
theorem x6_choose3 {z : Pz} (hz : jC 3 z) {rays kns kgs pws : Nat → Int64} {tab : Nat → Int32} (hT : lnT rays kns kgs pws) (hB : tbP tab) {bal : Int32} {kinds sides : Nat → Int64} (hC : clP z.1 bal kinds sides) {row : Nat → Int32} (hr : rwC (lmS z) row) (hne : lmS z ≠ []) {made : Nat} (hmade : made + 3 < 1027) (sc : Int32) (row1 row2 : Nat → Int32) (l1 l4 : Int32) (l2 l3 l5 l6 l7 : Int64) (l8 : Nat → Int32) (l9 : Nat → Int64) (mv pb : Nat → Int32) : ∃ (m : Mv) (row1' row2' : Nat → Int32) (l1' l4' : Int32) (l2' l3' l5' l6' l7' : Int64) (l8' : Nat → Int32) (l9' : Nat → Int64) (mv' pb' : Nat → Int32) (bal' : Int32) (kinds' sides' : Nat → Int64), m_X6_choose_3 sc row1 row2 row l1 l2 l3 l4 l5 l6 l7 l8 l9 (nI made) mv pb (nI z.2.1) (nI z.2.2.1) (pI z.2.2.2.1) (nI z.2.2.2.2.1) (nI z.2.2.2.2.2) bal z.1 kinds sides rays kns kgs pws tab (nI (lmS z).length) = some (iI (-((seS 3 z).1)), nI (enM m), row1', row2', l1', l2', l3', l4', l5', l6', l7', l8', l9', nI made, mv', pb', nI z.2.1, nI z.2.2.1, pI z.2.2.2.1, nI z.2.2.2.2.1, nI z.2.2.2.2.2, bal', z.1, kinds', sides') ∧ (seS 3 z).2 = some m ∧ m ∈ lmS z ∧ clP z.1 bal' kinds' sides' ∧ (∀ i, i < made → mv' i = mv i ∧ pb' i = pb i) := by
  have hl := lmS_len hz.1
  obtain ⟨bf, scf, row1f, row2f, l1f, l4f, l2f, l3f, l5f, l6f, l7f, l8f, l9f, mvf, pbf, balf, kindsf, sidesf, x1, x2, x3, x4⟩ := choose3_l hz hT hB hr hmade (lmS z).length 0 (kF - 1 - (lmS z).length) (100000, none) (-1000000) sc row1 row2 l1 l4 l2 l3 l5 l6 l7 l8 l9 mv pb bal kinds sides (by omega) hC ⟨rfl, rfl⟩
  have e : kF - 1 - (lmS z).length + (lmS z).length + 1 = kF := by unfold kF; omega
  rw [e] at x1
  rw [List.drop_zero] at x2
  have hsome : ∃ m, (seS 3 z).2 = some m ∧ m ∈ lmS z := by
    have : ∀ (g : Mv → Int) (l : List Mv) (a : Int × Option Mv), (∀ m ∈ l, g m ≤ 64000) → (l ≠ [] → (a.2 = none → a.1 = 100000) → ∃ m, (lsS g l a).2 = some m ∧ (m ∈ l ∨ a.2 = some m)) := by
      intro g l
      induction l with
      | nil => intro a _ h; exact absurd rfl h
      | cons x l ih =>
        intro a hg _ ha
        unfold lsS
        have hx := hg x List.mem_cons_self
        by_cases q : g x < a.1
        · rw [if_pos q]
          cases l with
          | nil => exact ⟨x, rfl, Or.inl List.mem_cons_self⟩
          | cons y l =>
            obtain ⟨m, h1, h2⟩ := ih (g x, some x) (fun m hm => hg m (List.mem_cons_of_mem _ hm)) (by simp) (fun h => by cases h)
            refine ⟨m, h1, ?_⟩
            rcases h2 with h2 | h2
            · exact Or.inl (List.mem_cons_of_mem _ h2)
            · have : x = m := by simpa using h2
              rw [← this]
              exact Or.inl List.mem_cons_self
        · rw [if_neg q]
          have han : a.2 ≠ none := by
            intro h
            have := ha h
            omega
          cases l with
          | nil =>
            obtain ⟨m, hm⟩ := Option.ne_none_iff_exists'.mp han
            exact ⟨m, hm, Or.inr hm⟩
          | cons y l =>
            obtain ⟨m, h1, h2⟩ := ih a (fun m hm => hg m (List.mem_cons_of_mem _ hm)) (by simp) ha
            exact ⟨m, h1, h2.imp (List.mem_cons_of_mem _) id⟩
    obtain ⟨m, h1, h2⟩ := this (fun m => vlS 2 (mkM z m)) (lmS z) (100000, none) (fun m hm => (vlS_bd2 jC_ok 2 _ (by omega) (jC_ok.2 2 z m hz hm)).2) hne (fun _ => rfl)
    exact ⟨m, h1, h2.elim id (fun h => by cases h)⟩
  obtain ⟨m, hm1, hm2⟩ := hsome
  have x2 : csP (seS 3 z) bf scf := x2
  unfold csP at x2
  rw [hm1] at x2
  obtain ⟨y1, y2, -, -⟩ := x2
  rw [y1, y2] at x1
  exact ⟨m, row1f, row2f, l1f, l4f, l2f, l3f, l5f, l6f, l7f, l8f, l9f, mvf, pbf, balf, kindsf, sidesf, x1, hm1, hm2, x3, x4⟩
theorem x6_cw1 {z : Pz} (hi1 : inv z) {rays kns kgs pws : Nat → Int64} (hT : lnT rays kns kgs pws) {kinds sides : Nat → Int64} (hBr : brP z.1 kinds sides) (l1 l4 : Int32) (l2 l3 l5 l6 l7 : Int64) (l8 : Nat → Int32) (l9 : Nat → Int64) : ∃ (l1' l4' : Int32) (l2' l3' l5' l6' l7' : Int64) (l8' : Nat → Int32) (l9' : Nat → Int64), m_X6_countWays_1 l1 l2 l3 l4 l5 l6 l7 l8 l9 (nI z.2.1) (nI z.2.2.1) (pI z.2.2.2.1) z.1 kinds sides rays kns kgs pws = some (nI (wyS 1 z), l1', l2', l3', l4', l5', l6', l7', l8', l9') := by
  obtain ⟨own, all, S, P, Q, k, st, go, e1, hsv⟩ := x2_survey hi1 hT hBr l1 l4 l2 l3 l5 l6 l7 l8 l9
  unfold m_X6_countWays_1 m_X6_countWays_1_b23
  rw [ob_s e1]
  try dsimp only
  rw [ob_s (x2_count hi1 hsv), wy1]
  exact ⟨_, _, _, _, _, _, _, _, _, rfl⟩
theorem ls_all (z : Pz) (hi1 : inv z) : lsP z (bt (-1)) = lmS z := by
  rw [lmS_eq hi1]
  exact lsP_cong (fun t ht => bt_m1 ht)
theorem cw2_l {z : Pz} (hz : jC 2 z) {rays kns kgs pws : Nat → Int64} {tab : Nat → Int32} (hT : lnT rays kns kgs pws) (hB : tbP tab) {row2 : Nat → Int32} (hr : rwC (lmS z) row2) {made : Nat} (hmade : made + 2 < 1027) : ∀ (dd k n b : Nat) (l1 l4 : Int32) (l2 l3 l5 l6 l7 : Int64) (l8 : Nat → Int32) (l9 : Nat → Int64) (mv pb : Nat → Int32) (bal : Int32) (kinds sides : Nat → Int64), k + dd = (lmS z).length → clP z.1 bal kinds sides → ∃ (l1' l4' : Int32) (l2' l3' l5' l6' l7' : Int64) (l8' : Nat → Int32) (l9' : Nat → Int64) (mv' pb' : Nat → Int32) (bal' : Int32) (kinds' sides' : Nat → Int64), m_X6_countWays_2_l59 rays kns kgs pws tab (n + dd + 1) row2 l1 l2 l3 l4 l5 l6 l7 l8 l9 (nI made) mv pb (nI z.2.1) (nI z.2.2.1) (pI z.2.2.2.1) (nI z.2.2.2.2.1) (nI z.2.2.2.2.2) bal z.1 kinds sides (nI (lmS z).length) (nI b) (nI k) = some (nI ((((lmS z).drop k).map (fun m => wyS 1 (mkM z m))).foldl (fun a b => a + b) b), row2, l1', l2', l3', l4', l5', l6', l7', l8', l9', nI made, mv', pb', nI z.2.1, nI z.2.2.1, pI z.2.2.2.1, nI z.2.2.2.2.1, nI z.2.2.2.2.2, bal', z.1, kinds', sides') ∧ clP z.1 bal' kinds' sides' ∧ (∀ i, i < made → mv' i = mv i ∧ pb' i = pb i) := by
  have hl := lmS_len hz.1
  have hh := hz.2
  intro dd
  induction dd with
  | zero =>
    intro k n b l1 l4 l2 l3 l5 l6 l7 l8 l9 mv pb bal kinds sides e hC
    refine ⟨l1, l4, l2, l3, l5, l6, l7, l8, l9, mv, pb, bal, kinds, sides, ?_, hC, fun _ _ => ⟨rfl, rfl⟩⟩
    rw [m_X6_countWays_2_l59_s]
    unfold m_X6_countWays_2_b59
    rw [if_pos (nI_le (by omega) (by omega)), List.drop_eq_nil_of_le (by omega)]
    rfl
  | succ dd ih =>
    intro k n b l1 l4 l2 l3 l5 l6 l7 l8 l9 mv pb bal kinds sides e hC
    obtain ⟨m, hm1, hml, hm3⟩ := drop_cons (l := lmS z) (k := k) (by omega)
    have hJm := jC_ok.2 1 z m hz hml
    have er := hr k m hm1
    obtain ⟨balm, kindsm, sidesm, em, hCm⟩ := x4_make hz.1 (by omega) hT hB (f := m.1) (t := m.2.1) (u := m.2.2) hml hC (made := made) (by omega) mv pb
    have em : m_X4_make (nI made) mv pb (nI z.2.1) (nI z.2.2.1) (pI z.2.2.2.1) (nI z.2.2.2.2.1) (nI z.2.2.2.2.2) bal z.1 kinds sides rays kns kgs pws tab (nI (enM m)) = some (tkS z.1 m.1 m.2.1, nI (made + 1), upd mv made (nI (enM m)), upd pb made (nI (goN (kd (tkS z.1 m.1 m.2.1)) z)), nI (mkM z m).2.1, nI (mkM z m).2.2.1, pI (mkM z m).2.2.2.1, nI (mkM z m).2.2.2.2.1, nI (mkM z m).2.2.2.2.2, balm, (mkM z m).1, kindsm, sidesm) := em
    have hCm : clP (mkM z m).1 balm kindsm sidesm := hCm
    obtain ⟨l1q, l4q, l2q, l3q, l5q, l6q, l7q, l8q, l9q, ev⟩ := x6_cw1 hJm.1 hT hCm.1 l1 l4 l2 l3 l5 l6 l7 l8 l9
    obtain ⟨bal2, kinds2, sides2, eb, hC2⟩ := x4_takeBack hz.1 (by omega) hB (f := m.1) (t := m.2.1) (u := m.2.2) hml hCm (made := made) (by omega) (mv := (upd mv made (nI (enM m)))) (pb := (upd pb made (nI (goN (kd (tkS z.1 m.1 m.2.1)) z)))) pk_us pk_us (nI (mkM z m).2.2.1) (pI (mkM z m).2.2.2.1) (nI (mkM z m).2.2.2.2.1)
    have eb : m_X4_takeBack (nI (made + 1)) (upd mv made (nI (enM m))) (upd pb made (nI (goN (kd (tkS z.1 m.1 m.2.1)) z))) (nI (mkM z m).2.1) (nI (mkM z m).2.2.1) (pI (mkM z m).2.2.2.1) (nI (mkM z m).2.2.2.2.1) (nI (mkM z m).2.2.2.2.2) balm (mkM z m).1 kindsm sidesm tab = some (nI made, nI z.2.1, nI z.2.2.1, pI z.2.2.2.1, nI z.2.2.2.2.1, nI z.2.2.2.2.2, bal2, z.1, kinds2, sides2) := eb
    obtain ⟨l1f, l4f, l2f, l3f, l5f, l6f, l7f, l8f, l9f, mvf, pbf, balf, kindsf, sidesf, x1, x3, x4⟩ := ih (k + 1) n (b + wyS 1 (mkM z m)) l1q l4q l2q l3q l5q l6q l7q l8q l9q (upd mv made (nI (enM m))) (upd pb made (nI (goN (kd (tkS z.1 m.1 m.2.1)) z))) bal2 kinds2 sides2 (by omega) hC2
    refine ⟨l1f, l4f, l2f, l3f, l5f, l6f, l7f, l8f, l9f, mvf, pbf, balf, kindsf, sidesf, ?_, x3, fun i hi => ?_⟩
    · rw [hm3, List.map_cons, List.foldl_cons, ← x1]
      rw [show n + (dd + 1) + 1 = n + dd + 1 + 1 from rfl, m_X6_countWays_2_l59_s]
      unfold m_X6_countWays_2_b59
      rw [if_neg (nI_ge (by omega) (by omega)), oin_n (by omega) (by omega), nI_clamp (by omega), er, ob_s em]
      try dsimp only
      rw [ob_s ev]
      try dsimp only
      rw [ol_r, nI_add, ob_s eb]
      try dsimp only
      rw [ol_r, nI_1]
    · obtain ⟨y1, y2⟩ := x4 i hi
      rw [pk_un (by omega)] at y1 y2
      exact ⟨y1, y2⟩
theorem x6_cw2 {z : Pz} (hz : jC 2 z) {rays kns kgs pws : Nat → Int64} {tab : Nat → Int32} (hT : lnT rays kns kgs pws) (hB : tbP tab) {bal : Int32} {kinds sides : Nat → Int64} (hC : clP z.1 bal kinds sides) {made : Nat} (hmade : made + 2 < 1027) (row2 : Nat → Int32) (l1 l4 : Int32) (l2 l3 l5 l6 l7 : Int64) (l8 : Nat → Int32) (l9 : Nat → Int64) (mv pb : Nat → Int32) : ∃ (row2' : Nat → Int32) (l1' l4' : Int32) (l2' l3' l5' l6' l7' : Int64) (l8' : Nat → Int32) (l9' : Nat → Int64) (mv' pb' : Nat → Int32) (bal' : Int32) (kinds' sides' : Nat → Int64), m_X6_countWays_2 row2 l1 l2 l3 l4 l5 l6 l7 l8 l9 (nI made) mv pb (nI z.2.1) (nI z.2.2.1) (pI z.2.2.2.1) (nI z.2.2.2.2.1) (nI z.2.2.2.2.2) bal z.1 kinds sides rays kns kgs pws tab = some (nI (wyS 2 z), row2', l1', l2', l3', l4', l5', l6', l7', l8', l9', nI made, mv', pb', nI z.2.1, nI z.2.2.1, pI z.2.2.2.1, nI z.2.2.2.2.1, nI z.2.2.2.2.2, bal', z.1, kinds', sides') ∧ clP z.1 bal' kinds' sides' ∧ (∀ i, i < made → mv' i = mv i ∧ pb' i = pb i) := by
  have hl := lmS_len hz.1
  have ha := ls_all z hz.1
  obtain ⟨own, all, S, P, Q, k, st, go, e1, hsv⟩ := x2_survey hz.1 hT hC.1 l1 l4 l2 l3 l5 l6 l7 l8 l9
  obtain ⟨rw, a1, a2⟩ := x2_list hz.1 hsv (-1) (l0 := []) (row := row2) (fun i m e => by simp at e) (by rw [List.nil_append, ha]; exact hl)
  rw [List.nil_append, ha] at a1 a2
  have a1 : m_X2_list (nI (owL z).length) st go row2 (nI z.2.1) z.1 0 (-1) = _ := a1
  obtain ⟨l1f, l4f, l2f, l3f, l5f, l6f, l7f, l8f, l9f, mvf, pbf, balf, kindsf, sidesf, x1, x3, x4⟩ := cw2_l hz hT hB a2 hmade (lmS z).length 0 (kF - 1 - (lmS z).length) 0 (nI (owL z).length) (nI k) own all S P Q st go mv pb bal kinds sides (by omega) hC
  have e : kF - 1 - (lmS z).length + (lmS z).length + 1 = kF := by unfold kF; omega
  rw [e, List.drop_zero] at x1
  refine ⟨rw, l1f, l4f, l2f, l3f, l5f, l6f, l7f, l8f, l9f, mvf, pbf, balf, kindsf, sidesf, ?_, x3, x4⟩
  unfold m_X6_countWays_2
  rw [ob_s e1]
  try dsimp only
  rw [ob_s a1]
  exact x1
theorem cw3_l {z : Pz} (hz : jC 3 z) {rays kns kgs pws : Nat → Int64} {tab : Nat → Int32} (hT : lnT rays kns kgs pws) (hB : tbP tab) {row3 : Nat → Int32} (hr : rwC (lmS z) row3) {made : Nat} (hmade : made + 3 < 1027) : ∀ (dd k n b : Nat) (row2 : Nat → Int32) (l1 l4 : Int32) (l2 l3 l5 l6 l7 : Int64) (l8 : Nat → Int32) (l9 : Nat → Int64) (mv pb : Nat → Int32) (bal : Int32) (kinds sides : Nat → Int64), k + dd = (lmS z).length → clP z.1 bal kinds sides → ∃ (row2' : Nat → Int32) (l1' l4' : Int32) (l2' l3' l5' l6' l7' : Int64) (l8' : Nat → Int32) (l9' : Nat → Int64) (mv' pb' : Nat → Int32) (bal' : Int32) (kinds' sides' : Nat → Int64), m_X6_countWays_3_l59 rays kns kgs pws tab (n + dd + 1) row2 row3 l1 l2 l3 l4 l5 l6 l7 l8 l9 (nI made) mv pb (nI z.2.1) (nI z.2.2.1) (pI z.2.2.2.1) (nI z.2.2.2.2.1) (nI z.2.2.2.2.2) bal z.1 kinds sides (nI (lmS z).length) (nI b) (nI k) = some (nI ((((lmS z).drop k).map (fun m => wyS 2 (mkM z m))).foldl (fun a b => a + b) b), row2', row3, l1', l2', l3', l4', l5', l6', l7', l8', l9', nI made, mv', pb', nI z.2.1, nI z.2.2.1, pI z.2.2.2.1, nI z.2.2.2.2.1, nI z.2.2.2.2.2, bal', z.1, kinds', sides') ∧ clP z.1 bal' kinds' sides' ∧ (∀ i, i < made → mv' i = mv i ∧ pb' i = pb i) := by
  have hl := lmS_len hz.1
  have hh := hz.2
  intro dd
  induction dd with
  | zero =>
    intro k n b row2 l1 l4 l2 l3 l5 l6 l7 l8 l9 mv pb bal kinds sides e hC
    refine ⟨row2, l1, l4, l2, l3, l5, l6, l7, l8, l9, mv, pb, bal, kinds, sides, ?_, hC, fun _ _ => ⟨rfl, rfl⟩⟩
    rw [m_X6_countWays_3_l59_s]
    unfold m_X6_countWays_3_b59
    rw [if_pos (nI_le (by omega) (by omega)), List.drop_eq_nil_of_le (by omega)]
    rfl
  | succ dd ih =>
    intro k n b row2 l1 l4 l2 l3 l5 l6 l7 l8 l9 mv pb bal kinds sides e hC
    obtain ⟨m, hm1, hml, hm3⟩ := drop_cons (l := lmS z) (k := k) (by omega)
    have hJm := jC_ok.2 2 z m hz hml
    have er := hr k m hm1
    obtain ⟨balm, kindsm, sidesm, em, hCm⟩ := x4_make hz.1 (by omega) hT hB (f := m.1) (t := m.2.1) (u := m.2.2) hml hC (made := made) (by omega) mv pb
    have em : m_X4_make (nI made) mv pb (nI z.2.1) (nI z.2.2.1) (pI z.2.2.2.1) (nI z.2.2.2.2.1) (nI z.2.2.2.2.2) bal z.1 kinds sides rays kns kgs pws tab (nI (enM m)) = some (tkS z.1 m.1 m.2.1, nI (made + 1), upd mv made (nI (enM m)), upd pb made (nI (goN (kd (tkS z.1 m.1 m.2.1)) z)), nI (mkM z m).2.1, nI (mkM z m).2.2.1, pI (mkM z m).2.2.2.1, nI (mkM z m).2.2.2.2.1, nI (mkM z m).2.2.2.2.2, balm, (mkM z m).1, kindsm, sidesm) := em
    have hCm : clP (mkM z m).1 balm kindsm sidesm := hCm
    obtain ⟨row2q, l1q, l4q, l2q, l3q, l5q, l6q, l7q, l8q, l9q, mvq, pbq, balq, kindsq, sidesq, ev, hCq, hfq⟩ := x6_cw2 hJm hT hB hCm (made := made + 1) (by omega) row2 l1 l4 l2 l3 l5 l6 l7 l8 l9 (upd mv made (nI (enM m))) (upd pb made (nI (goN (kd (tkS z.1 m.1 m.2.1)) z)))
    obtain ⟨bal2, kinds2, sides2, eb, hC2⟩ := x4_takeBack hz.1 (by omega) hB (f := m.1) (t := m.2.1) (u := m.2.2) hml hCq (made := made) (by omega) (mv := mvq) (pb := pbq) (by rw [(hfq made (by omega)).1, pk_us]) (by rw [(hfq made (by omega)).2, pk_us]) (nI (mkM z m).2.2.1) (pI (mkM z m).2.2.2.1) (nI (mkM z m).2.2.2.2.1)
    have eb : m_X4_takeBack (nI (made + 1)) mvq pbq (nI (mkM z m).2.1) (nI (mkM z m).2.2.1) (pI (mkM z m).2.2.2.1) (nI (mkM z m).2.2.2.2.1) (nI (mkM z m).2.2.2.2.2) balq (mkM z m).1 kindsq sidesq tab = some (nI made, nI z.2.1, nI z.2.2.1, pI z.2.2.2.1, nI z.2.2.2.2.1, nI z.2.2.2.2.2, bal2, z.1, kinds2, sides2) := eb
    obtain ⟨row2f, l1f, l4f, l2f, l3f, l5f, l6f, l7f, l8f, l9f, mvf, pbf, balf, kindsf, sidesf, x1, x3, x4⟩ := ih (k + 1) n (b + wyS 2 (mkM z m)) row2q l1q l4q l2q l3q l5q l6q l7q l8q l9q mvq pbq bal2 kinds2 sides2 (by omega) hC2
    refine ⟨row2f, l1f, l4f, l2f, l3f, l5f, l6f, l7f, l8f, l9f, mvf, pbf, balf, kindsf, sidesf, ?_, x3, fun i hi => ?_⟩
    · rw [hm3, List.map_cons, List.foldl_cons, ← x1]
      rw [show n + (dd + 1) + 1 = n + dd + 1 + 1 from rfl, m_X6_countWays_3_l59_s]
      unfold m_X6_countWays_3_b59
      rw [if_neg (nI_ge (by omega) (by omega)), oin_n (by omega) (by omega), nI_clamp (by omega), er, ob_s em]
      try dsimp only
      rw [ob_s ev]
      try dsimp only
      rw [ol_r, nI_add, ob_s eb]
      try dsimp only
      rw [ol_r, nI_1]
    · obtain ⟨y1, y2⟩ := x4 i hi
      obtain ⟨z1, z2⟩ := hfq i (by omega)
      rw [pk_un (by omega)] at z1 z2
      exact ⟨y1.trans z1, y2.trans z2⟩
theorem x6_cw3 {z : Pz} (hz : jC 3 z) {rays kns kgs pws : Nat → Int64} {tab : Nat → Int32} (hT : lnT rays kns kgs pws) (hB : tbP tab) {bal : Int32} {kinds sides : Nat → Int64} (hC : clP z.1 bal kinds sides) {made : Nat} (hmade : made + 3 < 1027) (row2 row3 : Nat → Int32) (l1 l4 : Int32) (l2 l3 l5 l6 l7 : Int64) (l8 : Nat → Int32) (l9 : Nat → Int64) (mv pb : Nat → Int32) : ∃ (row2' row3' : Nat → Int32) (l1' l4' : Int32) (l2' l3' l5' l6' l7' : Int64) (l8' : Nat → Int32) (l9' : Nat → Int64) (mv' pb' : Nat → Int32) (bal' : Int32) (kinds' sides' : Nat → Int64), m_X6_countWays_3 row2 row3 l1 l2 l3 l4 l5 l6 l7 l8 l9 (nI made) mv pb (nI z.2.1) (nI z.2.2.1) (pI z.2.2.2.1) (nI z.2.2.2.2.1) (nI z.2.2.2.2.2) bal z.1 kinds sides rays kns kgs pws tab = some (nI (wyS 3 z), row2', row3', l1', l2', l3', l4', l5', l6', l7', l8', l9', nI made, mv', pb', nI z.2.1, nI z.2.2.1, pI z.2.2.2.1, nI z.2.2.2.2.1, nI z.2.2.2.2.2, bal', z.1, kinds', sides') ∧ clP z.1 bal' kinds' sides' ∧ (∀ i, i < made → mv' i = mv i ∧ pb' i = pb i) := by
  have hl := lmS_len hz.1
  have ha := ls_all z hz.1
  obtain ⟨own, all, S, P, Q, k, st, go, e1, hsv⟩ := x2_survey hz.1 hT hC.1 l1 l4 l2 l3 l5 l6 l7 l8 l9
  obtain ⟨rw, a1, a2⟩ := x2_list hz.1 hsv (-1) (l0 := []) (row := row3) (fun i m e => by simp at e) (by rw [List.nil_append, ha]; exact hl)
  rw [List.nil_append, ha] at a1 a2
  have a1 : m_X2_list (nI (owL z).length) st go row3 (nI z.2.1) z.1 0 (-1) = _ := a1
  obtain ⟨row2f, l1f, l4f, l2f, l3f, l5f, l6f, l7f, l8f, l9f, mvf, pbf, balf, kindsf, sidesf, x1, x3, x4⟩ := cw3_l hz hT hB a2 hmade (lmS z).length 0 (kF - 1 - (lmS z).length) 0 row2 (nI (owL z).length) (nI k) own all S P Q st go mv pb bal kinds sides (by omega) hC
  have e : kF - 1 - (lmS z).length + (lmS z).length + 1 = kF := by unfold kF; omega
  rw [e, List.drop_zero] at x1
  refine ⟨row2f, rw, l1f, l4f, l2f, l3f, l5f, l6f, l7f, l8f, l9f, mvf, pbf, balf, kindsf, sidesf, ?_, x3, x4⟩
  unfold m_X6_countWays_3
  rw [ob_s e1]
  try dsimp only
  rw [ob_s a1]
  exact x1
