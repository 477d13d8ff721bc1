/-! The class: check, bare, gains; the window. -/
theorem x0_isInCheck {bd : Nat → Int32} (hb : gbd bd) {kinds sides rays kns kgs pws : Nat → Int64} (hT : lnT rays kns kgs pws) (hB : brP bd kinds sides) {c k : Nat} (hc : c < 2) (hK : isK bd c k) : m_X0_isInCheck kinds sides rays kns kgs pws (nI c) = some (bI (chkS bd c)) := by
  obtain ⟨E, hE1, hE2⟩ := x0_everyone hB
  have eo : (1 : Int32) - nI c = nI (1 - c) := pk_sub (a := 1) (by omega)
  obtain ⟨b, s1, s2⟩ := x0_isStruck hT hB hK.1 (c := 1 - c) (by omega) E
  unfold m_X0_isInCheck
  rw [ob_s (x0_kingOf hb hB hc hK), ob_s hE1, eo, ob_s s1, obl_b]
  have : b = chkS bd c := by
    apply bool_iff
    unfold chkS
    rw [s2, kgS_eq hK, att_iff hb hK.1, attG_occ hE2 hK.1]
  rw [this]
theorem x0_isFifty {h : Nat} (hh : h < 2 ^ 30) : m_X0_isFifty (nI h) = some (bI (decide (100 ≤ h))) := by
  have e : nI h < 100 ↔ h < 100 := nI_ltI (b := 100) (by omega) (by omega)
  unfold m_X0_isFifty m_X0_isFifty_b14
  by_cases q : h < 100
  · rw [if_pos (e.mpr q)]
    have : ¬ 100 ≤ h := by omega
    simp [this, bI, obl_0]
  · rw [if_neg (fun g => q (e.mp g))]
    have : 100 ≤ h := by omega
    simp [this, bI, obl_1]
set_option maxRecDepth 100000 in
theorem even_tb : (List.range 64).all (fun s => (bt (-6172840429334713771) s == decide ((s / 8 + s % 8) % 2 = 0)) && (bt 6172840429334713770 s == !decide ((s / 8 + s % 8) % 2 = 0))) = true := by decide +kernel
theorem cb0_iff {x : Int64} {p : Nat → Bool} (h : ∀ s, s < 64 → bt x s = p s) : x = 0 ↔ cb p 64 = 0 := by
  have e : cb (bt x) 64 = cb p 64 := cb_cong h
  rw [← e]
  constructor
  · intro q
    rw [q]
    have : cb (bt 0) 64 = cb (fun _ => false) 64 := cb_cong (fun i _ => bt_zero i)
    rw [this]
    decide
  · intro q
    apply Classical.byContradiction
    intro g
    obtain ⟨i, h1, h2⟩ := bt_ne0.mp g
    rw [eq0_cb q i h1] at h2
    cases h2
theorem x0_isBare {bd : Nat → Int32} {kinds sides : Nat → Int64} (hB : brP bd kinds sides) : m_X0_isBare kinds = some (bI (bareS bd)) := by
  have hk := hB.1
  have et := fun s hs => all_lt even_tb (i := s) hs
  have e1 : (((kinds 1) ||| (kinds 4)) ||| (kinds 5)) = 0 ↔ cb (otB bd) 64 = 0 := cb0_iff (fun s hs => by
    rw [bt_or, bt_or, hk 1 s (by omega) (by omega) hs, hk 4 s (by omega) (by omega) hs, hk 5 s (by omega) (by omega) hs]
    rfl)
  have e2 : kinds 2 = 0 ↔ cb (knB bd) 64 = 0 := cb0_iff (fun s hs => hk 2 s (by omega) (by omega) hs)
  have e3 : kinds 3 &&& (-6172840429334713771) = 0 ↔ cb (evB bd) 64 = 0 := cb0_iff (fun s hs => by
    have := et s hs
    rw [Bool.and_eq_true] at this
    rw [bt_and, hk 3 s (by omega) (by omega) hs, eq_of_beq this.1]
    rfl)
  have e4 : kinds 3 &&& 6172840429334713770 = 0 ↔ cb (odB bd) 64 = 0 := cb0_iff (fun s hs => by
    have := et s hs
    rw [Bool.and_eq_true] at this
    rw [bt_and, hk 3 s (by omega) (by omega) hs, eq_of_beq this.2]
    rfl)
  have e5 : kinds 3 = 0 ↔ cb (fun s => decide (kd (bd s) = 3)) 64 = 0 := cb0_iff (fun s hs => hk 3 s (by omega) (by omega) hs)
  have e6 : cb (fun s => decide (kd (bd s) = 3)) 64 = cb (evB bd) 64 + cb (odB bd) 64 := by
    have : ∀ n, cb (fun s => decide (kd (bd s) = 3)) n = cb (evB bd) n + cb (odB bd) n := by
      intro n
      induction n with
      | zero => rfl
      | succ n ih =>
        rw [cb_s, cb_s, cb_s, ih]
        unfold evB odB
        by_cases g : kd (bd n) = 3 <;> by_cases g2 : (n / 8 + n % 8) % 2 = 0 <;> simp [g, g2, b2n] <;> omega
    exact this 64
  have e7 : cb (bt (kinds 2)) 64 = cb (knB bd) 64 := cb_cong (fun s hs => hk 2 s (by omega) (by omega) hs)
  unfold m_X0_isBare m_X0_isBare_b66 m_X0_isBare_b67 m_X0_isBare_b98 m_X0_isBare_b103 bareS
  rw [tc1, tc2, tc3, tc4, tc5, ob_s (bitCount_eq _), e7]
  have l1 := cb_le (knB bd) 64
  have e8 : nI (cb (knB bd) 64) = 1 ↔ cb (knB bd) 64 = 1 := nI_eq1 (by omega)
  rw [e6] at e5
  simp only [lg0, e1, e2, e3, e4, e5, e8, obl_0, obl_1]
  generalize cb (knB bd) 64 = a at *
  generalize cb (evB bd) 64 = b at *
  generalize cb (odB bd) 64 = c at *
  generalize cb (otB bd) 64 = d at *
  by_cases q4 : d = 0
  · by_cases q1 : a = 0
    · by_cases q2 : b = 0
      · simp [q4, q1, q2, bI]
      · by_cases q3 : c = 0
        · simp [q4, q1, q2, q3, bI]
        · simp [q4, q1, q2, q3, bI]
    · by_cases q6 : b + c = 0
      · by_cases q5 : a = 1
        · simp only [q4, q1, q5, q6]
          simp [bI]
        · simp only [q4, q1, q5, q6]
          simp [bI]
      · simp only [q4, q1, q6]
        simp [bI]
  · simp [q4, bI]
theorem x0_worth {bd : Nat → Int32} {bal : Int32} (hb : bal = iI (balS bd)) {c : Nat} (hc : c < 2) : m_X0_worthForMover (nI c) bal = some (iI (wnS bd c)) := by
  unfold m_X0_worthForMover m_X0_worthForMover_b19 wnS
  rw [hb]
  have : c = 0 ∨ c = 1 := by omega
  rcases this with q | q
  · subst q
    rw [if_pos (by decide)]
    rfl
  · subst q
    rw [if_neg (by decide), iI_neg]
    rfl
/-- what a move adds, for WHITE -/
def gnS (z : Pz) (f t u : Nat) : Int := fwS (cmS (z.1 f) u) t - fwS (z.1 f) f - fwS (z.1 (onQ z f t)) (onQ z f t)
theorem gain_eq {z : Pz} (hi : inv z) {f t u : Nat} (hm : (f, t, u) ∈ lmS z) : balS (mvS z.1 f t u) = balS z.1 + gnS z f t u := by
  have hCs := mv_cases hi hm
  have hep := ep_iff hi hm
  have hmem := lmS_mem.mp hm
  dsimp only at hmem hCs
  obtain ⟨hf, ht, ho, hg, hu, hsf⟩ := hmem
  have hu5 := tuS_le hu
  have hc := hi.2.1
  have hE := hi.2.2.2.2.2.2.2.2.2
  have hto : msd (z.1 t) z.2.1 = false := by
    unfold goS at hg
    rw [Bool.and_eq_true, Bool.not_eq_true'] at hg
    exact hg.1
  have hft : f ≠ t := by
    intro e
    rw [e, hto] at ho
    cases ho
  unfold gnS onQ
  rcases hCs with ⟨he, hl⟩ | ⟨he, hl, hu0, hp, hpm, hw⟩ | ⟨he, hl, hu0, x1, x2, sh, x3, x4, x5, x6, x7, x8, x9⟩
  · rw [mvS_plain he hl, he, balS_upd ht, balS_upd hf, pk_un (Ne.symm hft), fwS_0]
    simp only [Bool.false_eq_true, if_false]
    omega
  · subst hu0
    have hE := hE (by omega)
    have hdl : dnS z.2.1 t < 64 := dnS_lt hc ht (fun h => by
      have := hE.1
      rw [← hp] at this
      unfold rkS at this
      rw [if_neg (by omega)] at this
      omega)
    have hdf : f ≠ dnS z.2.1 t := by
      intro e
      have := hE.2.2
      rw [← hp, ← e] at this
      rw [this] at ho
      have h2 := msd_two (c := 1 - z.2.1) (by omega) (pmn_ok (c := 1 - z.2.1) (by omega)).2.1
      rw [show 1 - (1 - z.2.1) = z.2.1 by omega, ho] at h2
      cases h2
    have htd : t ≠ dnS z.2.1 t := by
      intro e
      have h3 := hE.2.2
      have h4 := hE.2.1
      rw [← hp] at h3 h4
      rw [← e, h4] at h3
      have t2 := congrArg kd h3
      rw [(pmn_ok (c := 1 - z.2.1) (by omega)).1] at t2
      exact absurd t2 (by decide)
    have ht0 : z.1 t = 0 := by rw [hp]; exact hE.2.1
    rw [mvS_ep hc he hl hpm, he, balS_upd ht, balS_upd hf, balS_upd hdl, pk_un (Ne.symm hft), pk_un htd, pk_un hdf, ht0]
    simp only [if_true, fwS_0]
    have : cmS (z.1 f) 0 = z.1 f := rfl
    rw [this]
    omega
  · subst hu0
    have hmid : 56 * z.2.1 + (if sh then 5 else 3) < 64 := by split <;> omega
    have hcor : 56 * z.2.1 + (if sh then 7 else 0) < 64 := by split <;> omega
    have d1 : 56 * z.2.1 + (if sh then 7 else 0) ≠ 56 * z.2.1 + (if sh then 5 else 3) := by cases sh <;> simp
    have d2 : 56 * z.2.1 + (if sh then 7 else 0) ≠ f := by rw [x1]; cases sh <;> simp
    have d3 : 56 * z.2.1 + (if sh then 5 else 3) ≠ f := by rw [x1]; cases sh <;> simp
    have d4 : 56 * z.2.1 + (if sh then 7 else 0) ≠ t := by rw [x4]; cases sh <;> simp
    have d5 : 56 * z.2.1 + (if sh then 5 else 3) ≠ t := by rw [x4]; cases sh <;> simp
    have hrook : fwS (rkm z.2.1) (56 * z.2.1 + (if sh then 5 else 3)) = fwS (rkm z.2.1) (56 * z.2.1 + (if sh then 7 else 0)) := by
      have : z.2.1 = 0 ∨ z.2.1 = 1 := by omega
      rcases this with q | q <;> rw [q] <;> cases sh <;> decide
    rw [mvS_lp he hl x7 x8, x9, he]
    generalize 56 * z.2.1 + (if sh then 5 else 3) = mid at *
    generalize 56 * z.2.1 + (if sh then 7 else 0) = cor at *
    rw [balS_upd ht, balS_upd hf, balS_upd hcor, balS_upd hmid, pk_un (Ne.symm hft), pk_un (Ne.symm d4), pk_un (Ne.symm d5), pk_un (Ne.symm d2), pk_un (Ne.symm d3), pk_un d1, x9, x6, x5, fwS_0, fwS_0, fwS_0]
    simp only [Bool.false_eq_true, if_false]
    rw [x5, fwS_0]
    have : cmS (z.1 f) 0 = z.1 f := rfl
    rw [this]
    omega
theorem x0_gainOf {z : Pz} (hi : inv z) {tab : Nat → Int32} (hB : tbP tab) {f t u : Nat} (hm : (f, t, u) ∈ lmS z) : m_X0_gainOf (nI z.2.1) (pI z.2.2.2.1) z.1 tab (nI (enM (f, t, u))) = some (iI (if z.2.1 = 0 then gnS z f t u else -(gnS z f t u))) := by
  have hep := ep_iff hi hm
  have hmem := lmS_mem.mp hm
  dsimp only at hmem
  obtain ⟨hf, ht, ho, hg, hu, hsf⟩ := hmem
  have hu5 := tuS_le hu
  obtain ⟨hb, hc, hr, hpp, hKK, h16, hR, hPw, hN, hE⟩ := hi
  have hmf := hb.1 f hf
  have hE0 : epB z.1 f t = true → z.2.2.2.1 < 64 ∧ t = z.2.2.2.1 := fun h => ⟨by rw [← (hep.mpr h).1]; exact ht, (hep.mpr h).1⟩
  have honl : onQ z f t < 64 := by
    unfold onQ
    split
    · rename_i h
      obtain ⟨a, b⟩ := hE0 h
      exact dnS_lt hc ht (fun h1 => by
        have := (hE a).1
        rw [← b] at this
        unfold rkS at this
        rw [if_neg (by omega)] at this
        omega)
    · exact ht
  have e_on : m_X0_takesOn (nI z.2.1) (pI z.2.2.2.1) z.1 (nI (enM (f, t, u))) = some (nI (onQ z f t)) := by
    rw [x0_takesOn hc hpp hf ht hu5 hmf (fun h h0 => by
      have := (hE (by omega)).1
      rw [← h] at this
      unfold rkS at this
      rw [if_pos h0] at this
      omega)]
    unfold onQ
    cases q : epB z.1 f t with
    | true => rw [if_pos (hep.mpr q)]; rfl
    | false => rw [if_neg (fun h => by rw [hep.mp h] at q; cases q)]; rfl
  have b44 : m_X0_gainOf_b44 (nI z.2.1) (pI z.2.2.2.1) z.1 tab (nI f) (nI t) (nI (onQ z f t)) (z.1 f) (cmS (z.1 f) u) = some (iI (if z.2.1 = 0 then gnS z f t u else -(gnS z f t u))) := by
    unfold m_X0_gainOf_b44 m_X0_gainOf_b101
    rw [ob_s (x7_forWhite hB (mOK_cmS hmf hu5) ht), ob_s (x7_forWhite hB hmf hf), oin_n (by omega) (by omega), nI_clamp (by omega), ob_s (x7_forWhite hB (mOK_all hb _) honl), iI_sub, iI_sub, ol_r, iI_neg]
    unfold gnS
    have : z.2.1 = 0 ∨ z.2.1 = 1 := by omega
    rcases this with q | q
    · rw [q, if_pos (by decide)]
      rfl
    · rw [q, if_neg (by decide)]
      rfl
  unfold m_X0_gainOf
  rw [ob_s (x9_fromOf hf ht hu5), ob_s (x9_toOf hf ht hu5), ob_s e_on, oin_n (by omega) (by omega), nI_clamp (by omega), ol_r, ob_s (x9_becomesOf hf ht hu5), ob_s (x9_becomesOf hf ht hu5)]
  have cu : nI u = 0 ↔ u = 0 := nI_eq0 (by omega)
  by_cases q : u = 0
  · rw [if_pos (cu.mpr q)]
    have : cmS (z.1 f) u = z.1 f := if_pos q
    rw [this] at b44
    exact b44
  · rw [if_neg (fun h => q (cu.mp h))]
    have h1 : kd (z.1 f) = 1 := by
      unfold tuS at hu
      split at hu
      · rename_i g
        unfold lastS at g
        simp at g
        exact g.1
      · rw [List.mem_range'_1] at hu
        omega
    rw [pawn_mul hmf h1 hu5 q]
    exact b44
/-- worth and gain are what stands behind -/
theorem worth_gain {z : Pz} (hi : inv z) {f t u : Nat} (hm : (f, t, u) ∈ lmS z) : wnS z.1 z.2.1 + (if z.2.1 = 0 then gnS z f t u else -(gnS z f t u)) = -(vlS 0 (mkM z (f, t, u))) := by
  show _ = -(wnS (mvS z.1 f t u) (1 - z.2.1))
  have hc := hi.2.1
  have e := gain_eq hi hm
  unfold wnS
  have : z.2.1 = 0 ∨ z.2.1 = 1 := by omega
  rcases this with q | q
  · rw [q]
    simp
    omega
  · rw [q]
    simp
    omega
/-- r says of v what matters within a window -/
def winP (v lo hi r : Int) : Prop := (v ≤ lo → r ≤ lo) ∧ (lo < v → v < hi → r = v) ∧ (hi ≤ v → hi ≤ r)
theorem win_rfl (v lo hi : Int) : winP v lo hi v := ⟨id, fun _ _ => rfl, id⟩
/-- what best is while the moves are looked at, M being the greatest so far -/
def abI (M hi best : Int) : Prop := (M < hi → best = M) ∧ (hi ≤ M → hi ≤ best)
theorem ab_step {M hi best a x : Int} (h : abI M hi best) (hb : best < hi) (hx : (a ≤ best → x ≤ best) ∧ (best < a → a < hi → x = a) ∧ (hi ≤ a → hi ≤ x)) : abI (max M a) hi (max best x) := by
  obtain ⟨h1, h2⟩ := h
  have hM : M < hi := by
    apply Classical.byContradiction
    intro q
    have := h2 (by omega)
    omega
  have e := h1 hM
  subst e
  obtain ⟨x1, x2, x3⟩ := hx
  refine ⟨fun g => ?_, fun g => ?_⟩
  · rcases Int.lt_or_le best a with q | q
    · have := x2 q (by omega)
      omega
    · have := x1 q
      omega
  · have := x3 (by omega)
    omega
theorem ab_up {M M' hi best : Int} (h : abI M hi best) (hb : hi ≤ best) (hm : M ≤ M') : abI M' hi best := by
  refine ⟨fun g => ?_, fun _ => hb⟩
  have := h.1 (by omega)
  omega
theorem fmax_ge : ∀ (l : List Int) (b : Int), b ≤ l.foldl max b ∧ ∀ x ∈ l, x ≤ l.foldl max b
  | [], b => ⟨Int.le_refl _, fun x h => by cases h⟩
  | a :: l, b => by
    obtain ⟨h1, h2⟩ := fmax_ge l (max b a)
    rw [List.foldl_cons]
    refine ⟨by omega, fun x hx => ?_⟩
    rcases List.mem_cons.mp hx with q | q
    · subst q; omega
    · exact h2 x q
theorem fmax_in : ∀ (l : List Int) (b : Int), l.foldl max b = b ∨ l.foldl max b ∈ l
  | [], b => Or.inl rfl
  | a :: l, b => by
    rw [List.foldl_cons]
    rcases fmax_in l (max b a) with h | h
    · rcases Int.le_total b a with q | q
      · right
        rw [h, Int.max_eq_right q]
        exact List.mem_cons_self
      · left
        rw [h, Int.max_eq_left q]
    · right
      exact List.mem_cons_of_mem _ h
theorem fmax_same {l l' : List Int} (h : ∀ x, x ∈ l ↔ x ∈ l') (b : Int) : l.foldl max b = l'.foldl max b := by
  obtain ⟨a1, a2⟩ := fmax_ge l b
  obtain ⟨b1, b2⟩ := fmax_ge l' b
  apply Int.le_antisymm
  · rcases fmax_in l b with q | q
    · omega
    · exact b2 _ ((h _).mp q)
  · rcases fmax_in l' b with q | q
    · omega
    · exact a2 _ ((h _).mpr q)
theorem fmax_low {l : List Int} {B lo : Int} {e : Int} (he : e ∈ l) (hB : B ≤ e) : l.foldl max lo = max lo (l.foldl max B) := by
  obtain ⟨a1, a2⟩ := fmax_ge l lo
  obtain ⟨b1, b2⟩ := fmax_ge l B
  have x1 := a2 e he
  have x2 := b2 e he
  apply Int.le_antisymm
  · rcases fmax_in l lo with q | q
    · omega
    · have := b2 _ q
      omega
  · rcases fmax_in l B with q | q
    · omega
    · have := a2 _ q
      omega
/-- the end of the moves: the window holds -/
theorem ab_end {l : List Int} {B lo hi best e : Int} (he : e ∈ l) (hB : B ≤ e) (hlh : lo < hi) (h : abI (l.foldl max lo) hi best) : winP (l.foldl max B) lo hi best := by
  rw [fmax_low he hB] at h
  obtain ⟨h1, h2⟩ := h
  refine ⟨fun g => ?_, fun g1 g2 => ?_, fun g => ?_⟩
  · have := h1 (by omega)
    omega
  · have := h1 (by omega)
    omega
  · exact h2 (by omega)
theorem vlS_bd2 {J : Nat → Pz → Prop} (hJ : jOK J) : ∀ (n : Nat) (z : Pz), n ≤ 1000 → J n z → -64000 ≤ vlS n z ∧ vlS n z ≤ 64000
  | 0, z, _, h => wnS_bd (hJ.1 0 z h).1 z.2.1
  | n + 1, z, hn, h => by
    unfold vlS
    by_cases q : endS (n + 1) z = 1
    · rw [if_pos q]
      have hne : lmS z ≠ [] := by
        intro e
        unfold endS at q
        rw [e] at q
        simp at q
        split at q <;> omega
      obtain ⟨m, hm⟩ := List.exists_mem_of_ne_nil _ hne
      have all : ∀ x ∈ (lmS z).map (fun m => -(vlS n (mkM z m))), -64000 ≤ x ∧ x ≤ 64000 := by
        intro x hx
        obtain ⟨m', hm', rfl⟩ := List.mem_map.mp hx
        have := vlS_bd2 hJ n (mkM z m') (by omega) (hJ.2 n z m' h hm')
        omega
      have hmem : -(vlS n (mkM z m)) ∈ (lmS z).map (fun m => -(vlS n (mkM z m))) := List.mem_map.mpr ⟨m, hm, rfl⟩
      have h1 := (fmax_ge ((lmS z).map (fun m => -(vlS n (mkM z m)))) (-100000)).2 _ hmem
      have h2 := all _ hmem
      rcases fmax_in ((lmS z).map (fun m => -(vlS n (mkM z m)))) (-100000) with g | g
      · omega
      · exact all _ g
    · rw [if_neg q]
      unfold endS
      split
      · split <;> omega
      · split
        · omega
        · unfold endS at q
          rename_i h1 h2
          rw [if_neg h1, if_neg h2] at q
          exact absurd rfl q
theorem j9_max {a b : Int} (h1 : -2 ^ 31 ≤ a) (h2 : a < 2 ^ 31) (h3 : -2 ^ 31 ≤ b) (h4 : b < 2 ^ 31) : m_J9_max_7cf53 (iI a) (iI b) = some (iI (max a b)) := by
  unfold m_J9_max_7cf53 m_J9_max_7cf53_b10
  by_cases g : a < b
  · rw [if_pos ((iI_lt h1 h2 h3 h4).mpr g), Int.max_eq_right (by omega)]
  · rw [if_neg (fun q => g ((iI_lt h1 h2 h3 h4).mp q)), Int.max_eq_left (by omega)]
