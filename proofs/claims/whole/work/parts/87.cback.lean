/-! The class takes a move back. -/
theorem tk_enemy {z : Pz} (hi : inv z) {f t u : Nat} (hm : (f, t, u) ∈ lmS z) (hn : tkS z.1 f t ≠ 0) : msd (tkS z.1 f t) (1 - z.2.1) = true := by
  have hep := ep_iff hi hm
  have hon := tk_on hi hm
  have hmem := lmS_mem.mp hm
  dsimp only at hmem
  obtain ⟨hf, ht, ho, hg, hu, hsf⟩ := hmem
  have hc := hi.2.1
  have hE := hi.2.2.2.2.2.2.2.2.2
  have hto : msd (z.1 t) z.2.1 = false := by
    unfold goS at hg
    rw [Bool.and_eq_true, Bool.not_eq_true'] at hg
    exact hg.1
  rw [hon] at hn ⊢
  unfold onQ at hn ⊢
  cases he : epB z.1 f t with
  | true =>
    simp only [if_true]
    have e1 := (hep.mpr he).1
    have := (hE (by omega)).2.2
    rw [← e1] at this
    rw [this]
    exact (pmn_ok (c := 1 - z.2.1) (by omega)).2.1
  | false =>
    rw [he] at hn
    simp only [Bool.false_eq_true, if_false] at hn ⊢
    have := occ_sides (bd := z.1) t
    rw [occ_t.mpr hn] at this
    have c2 : z.2.1 = 0 ∨ z.2.1 = 1 := by omega
    rcases c2 with q | q
    · rw [q] at hto ⊢
      rw [hto, Bool.false_or] at this
      exact this
    · rw [q] at hto ⊢
      rw [hto, Bool.or_false] at this
      exact this
theorem man_sign {m : Int32} (hm : mOK m) {c : Nat} (hc : c < 2) (h : msd m (1 - c) = true) : (-(if c = 0 then (1 : Int32) else -1)) * nI (kd m) = m := by
  have : c = 0 ∨ c = 1 := by omega
  rcases this with e | e <;> subst e <;> rcases mOK_cases hm with q | q | q | q | q | q | q | q | q | q | q | q | q <;> subst q <;> revert h <;> decide
theorem x4_takeBack {z : Pz} (hi : inv z) (hh : z.2.2.2.2.1 < 65536) {tab : Nat → Int32} (hB : tbP tab) {f t u : Nat} (hm : (f, t, u) ∈ lmS z) {bal : Int32} {kinds sides : Nat → Int64} (hC : clP (mkM z (f, t, u)).1 bal kinds sides) {made : Nat} (hmade : made < 1027) {mv pb : Nat → Int32} (hmv : mv made = nI (enM (f, t, u))) (hpb : pb made = nI (goN (kd (tkS z.1 f t)) z)) (v2 v3 v4 : Int32) : ∃ (bal' : Int32) (kinds' sides' : Nat → Int64), m_X4_takeBack (nI (made + 1)) mv pb (nI (1 - z.2.1)) v2 v3 v4 (nI (z.2.2.2.2.2 + z.2.1)) bal (mkM z (f, t, u)).1 kinds sides tab = some (nI made, nI z.2.1, nI z.2.2.1, pI z.2.2.2.1, nI z.2.2.2.2.1, nI z.2.2.2.2.2, bal', z.1, kinds', sides') ∧ clP z.1 bal' kinds' sides' := by
  have hep := ep_iff hi hm
  have hon := tk_on hi hm
  have hCs := mv_cases hi hm
  have hat := mv_at hi hm
  have hten := tk_enemy hi hm
  have hmem := lmS_mem.mp hm
  dsimp only at hmem hCs hat
  obtain ⟨hf, ht, ho, hg, hu, hsf⟩ := hmem
  have hu5 := tuS_le hu
  have hi2 := hi
  obtain ⟨hb, hc, hr, hpp, hKK, h16, hR, hPw, hN, hE⟩ := hi
  have hmf := hb.1 f hf
  have hto : msd (z.1 t) z.2.1 = false := by
    unfold goS at hg
    rw [Bool.and_eq_true, Bool.not_eq_true'] at hg
    exact hg.1
  have hft : f ≠ t := by
    intro e
    rw [e, hto] at ho
    cases ho
  have hfn : z.1 f ≠ 0 := occ_t.mp (msd_occ ho)
  have hE0 : epB z.1 f t = true → z.2.2.2.1 < 64 ∧ t = z.2.2.2.1 := fun h => ⟨by rw [← (hep.mpr h).1]; exact ht, (hep.mpr h).1⟩
  have honl : onQ z f t < 64 := by
    unfold onQ
    split
    · rename_i h
      obtain ⟨a, b⟩ := hE0 h
      exact dnS_lt hc ht (fun h1 => by
        have := (hE a).1
        rw [← b] at this
        unfold rkS at this
        rw [if_neg (by omega)] at this
        omega)
    · exact ht
  have hof : onQ z f t ≠ f := by
    unfold onQ
    split
    · rename_i h
      obtain ⟨a, b⟩ := hE0 h
      intro e
      have := (hE a).2.2
      rw [← b, e] at this
      rw [this] at ho
      have h4 := msd_two (c := 1 - z.2.1) (by omega) (pmn_ok (c := 1 - z.2.1) (by omega)).2.1
      rw [show 1 - (1 - z.2.1) = z.2.1 by omega, ho] at h4
      cases h4
    · exact Ne.symm hft
  have hmt : mOK (tkS z.1 f t) := by rw [hon]; exact mOK_all hb _
  have kt := kd_le hmt
  -- the board
  show ∃ (bal' : Int32) (kinds' sides' : Nat → Int64), m_X4_takeBack (nI (made + 1)) mv pb (nI (1 - z.2.1)) v2 v3 v4 (nI (z.2.2.2.2.2 + z.2.1)) bal (mvS z.1 f t u) kinds sides tab = _ ∧ _
  have hC : clP (mvS z.1 f t u) bal kinds sides := hC
  have at_t : mvS z.1 f t u t = cmS (z.1 f) u := by rw [hat, if_pos rfl]
  have at_f : mvS z.1 f t u f = 0 := by rw [hat, if_neg hft, if_pos rfl]
  have at_on : onQ z f t ≠ t → mvS z.1 f t u (onQ z f t) = 0 := by
    intro h
    have he : epB z.1 f t = true := by
      cases q : epB z.1 f t with
      | true => rfl
      | false =>
        unfold onQ at h
        rw [q] at h
        exact absurd rfl h
    have hq : onQ z f t = dnS z.2.1 t := by
      unfold onQ
      rw [he]
      rfl
    rw [hat, if_neg h, if_neg hof, if_pos ⟨he, hq⟩]
  have hcn := cm_ne hmf hc ho hu5
  have hmc := mOK_cmS hmf hu5
  obtain ⟨bal1, kinds1, sides1, l1, l2⟩ := x0_lift hB hC ht (by rw [at_t]; exact hmc) (by rw [at_t]; exact hcn)
  rw [at_t] at l1
  have v1 : upd (mvS z.1 f t u) t 0 f = 0 := by rw [pk_un hft]; exact at_f
  obtain ⟨bal2, kinds2, sides2, p1, p2⟩ := x0_put hB l2 hf v1 hmf hfn
  have b2f : upd (upd (mvS z.1 f t u) t 0) f (z.1 f) f = z.1 f := pk_us
  have b2on : upd (upd (mvS z.1 f t u) t 0) f (z.1 f) (onQ z f t) = 0 := by
    rw [pk_un hof]
    by_cases q : onQ z f t = t
    · rw [q, pk_us]
    · rw [pk_un q]; exact at_on q
  have e_on : m_X0_takesOn (nI z.2.1) (pI z.2.2.2.1) (upd (upd (mvS z.1 f t u) t 0) f (z.1 f)) (nI (enM (f, t, u))) = some (nI (onQ z f t)) := by
    rw [x0_takesOn hc hpp hf ht hu5 (by rw [b2f]; exact hmf) (fun h h0 => by
      have := (hE (by omega)).1
      rw [← h] at this
      unfold rkS at this
      rw [if_pos h0] at this
      omega), b2f]
    unfold onQ
    cases q : epB z.1 f t with
    | true => rw [if_pos (hep.mpr q)]; rfl
    | false => rw [if_neg (fun h => by rw [hep.mp h] at q; cases q)]; rfl
  obtain ⟨hh1, hh2⟩ := x4_halvesIn (k := kd (tkS z.1 f t)) (z := z) (by omega) hr hpp hh
  -- the end: the rook
  have fin : ∀ (bal3 : Int32) (kinds3 sides3 : Nat → Int64), clP (upd (upd (upd (mvS z.1 f t u) t 0) f (z.1 f)) (onQ z f t) (tkS z.1 f t)) bal3 kinds3 sides3 → ∃ (bal' : Int32) (kinds' sides' : Nat → Int64), m_X4_takeBack_b191 (nI made) mv pb (nI z.2.1) (nI z.2.2.1) (pI z.2.2.2.1) (nI z.2.2.2.2.1) (nI z.2.2.2.2.2) bal3 (upd (upd (upd (mvS z.1 f t u) t 0) f (z.1 f)) (onQ z f t) (tkS z.1 f t)) kinds3 sides3 tab (nI f) (nI t) (cmS (z.1 f) u) = some (nI made, nI z.2.1, nI z.2.2.1, pI z.2.2.2.1, nI z.2.2.2.2.1, nI z.2.2.2.2.2, bal', z.1, kinds', sides') ∧ clP z.1 bal' kinds' sides' := by
    intro bal3 kinds3 sides3 hC3
    have kc := kd_le hmc
    have c6 : nI (kd (cmS (z.1 f) u)) = 6 ↔ kd (cmS (z.1 f) u) = 6 := nI_eq (b := 6) (by omega) (by omega)
    have k66 : kd (cmS (z.1 f) u) = 6 ↔ kd (z.1 f) = 6 := by
      by_cases q : u = 0
      · have : cmS (z.1 f) u = z.1 f := if_pos q
        rw [this]
      · rw [cmS_kd hu5 q]
        constructor
        · intro h; omega
        · intro h
          have h1 : kd (z.1 f) = 1 := by
            unfold tuS at hu
            split at hu
            · rename_i g
              unfold lastS at g
              simp at g
              exact g.1
            · rw [List.mem_range'_1] at hu
              omega
          omega
    have plain : lpB z.1 f t = false → upd (upd (upd (mvS z.1 f t u) t 0) f (z.1 f)) (onQ z f t) (tkS z.1 f t) = z.1 := by
      intro hl
      funext s
      by_cases q1 : s = onQ z f t
      · rw [q1, pk_us]; exact hon
      · rw [pk_un q1]
        by_cases q2 : s = f
        · rw [q2, pk_us]
        · rw [pk_un q2]
          by_cases q3 : s = t
          · rw [q3, pk_us]
            have he : epB z.1 f t = true := by
              cases q : epB z.1 f t with
              | true => rfl
              | false =>
                unfold onQ at q1
                rw [q] at q1
                exact absurd q3 q1
            obtain ⟨a, b⟩ := hE0 he
            rw [b]
            exact ((hE a).2.1).symm
          · rw [pk_un q3, hat, if_neg q3, if_neg q2, if_neg, hl]
            · simp
            · rintro ⟨h1, h2⟩
              unfold onQ at q1
              rw [h1] at q1
              exact q1 h2
    unfold m_X4_takeBack_b191 m_X4_takeBack_b236
    rw [ob_s (j9_abs hmc)]
    by_cases q6 : kd (z.1 f) = 6
    · rw [if_pos (c6.mpr (k66.mpr q6)), ob_s (x4_isByRight hf ht), bI_if]
      have hlp := lp_iff hi2 hm q6
      cases hl : lpB z.1 f t with
      | false =>
        have hn2 : ¬ absD f t = 2 := fun h => by rw [hlp.mp h] at hl; cases hl
        have e0 : decide (absD f t = 2) = false := decide_eq_false hn2
        rw [e0]
        simp only [Bool.false_eq_true, if_false]
        rw [plain hl] at hC3 ⊢
        exact ⟨bal3, kinds3, sides3, rfl, hC3⟩
      | true =>
        have h2 := hlp.mpr hl
        have e0 : decide (absD f t = 2) = true := decide_eq_true h2
        rw [e0]
        simp only [if_true]
        rcases hCs with ⟨_, hl2⟩ | ⟨_, hl2, _⟩ | ⟨he, _, hu0, x1, x2, sh, x3, x4, x5, x6, x7, x8, x9⟩
        · rw [hl] at hl2; cases hl2
        · rw [hl] at hl2; cases hl2
        · have hon2 : onQ z f t = t := by
            unfold onQ
            rw [he]
            rfl
          have htk0 : tkS z.1 f t = 0 := by rw [hon, hon2]; exact x5
          subst hu0
          rw [hon2, htk0] at hC3 ⊢
          have em : (nI f + nI t) / 2 = nI ((f + t) / 2) := by
            rw [nI_add]
            exact pk_div (d := 2) (by omega) (by omega) (by omega)
          have ecor := corner_eq hf ht h2 (fun h => by rw [x4] at h ⊢; cases sh <;> simp at h ⊢ <;> omega)
          rw [ob_s ecor, x8, em, x7]
          have hmid : 56 * z.2.1 + (if sh then 5 else 3) < 64 := by split <;> omega
          have hcor : 56 * z.2.1 + (if sh then 7 else 0) < 64 := by split <;> omega
          have d1 : 56 * z.2.1 + (if sh then 7 else 0) ≠ 56 * z.2.1 + (if sh then 5 else 3) := by cases sh <;> simp
          have d2 : 56 * z.2.1 + (if sh then 7 else 0) ≠ f := by rw [x1]; cases sh <;> simp
          have d3 : 56 * z.2.1 + (if sh then 5 else 3) ≠ f := by rw [x1]; cases sh <;> simp
          have d4 : 56 * z.2.1 + (if sh then 7 else 0) ≠ t := by rw [x4]; cases sh <;> simp
          have d5 : 56 * z.2.1 + (if sh then 5 else 3) ≠ t := by rw [x4]; cases sh <;> simp
          have hmvl := mvS_lp he hl x7 x8
          generalize 56 * z.2.1 + (if sh then 5 else 3) = mid at *
          generalize 56 * z.2.1 + (if sh then 7 else 0) = cor at *
          rw [hmvl, x9] at hC3 ⊢
          have rk := rkm_ok hc
          have rko : mOK (rkm z.2.1) := by rw [← x9]; exact mOK_all hb cor
          have rkn : rkm z.2.1 ≠ 0 := by
            intro e
            rw [e, msd_0] at rk
            cases rk.1
          have vm : upd (upd (upd (upd (upd (upd (upd z.1 mid (rkm z.2.1)) cor 0) f 0) t (z.1 f)) t 0) f (z.1 f)) t 0 mid = rkm z.2.1 := by
            rw [pk_un d5, pk_un d3, pk_un d5, pk_un d5, pk_un d3, pk_un (Ne.symm d1), pk_us]
          obtain ⟨bal4, kinds4, sides4, l3, l4⟩ := x0_lift hB hC3 hmid (by rw [vm]; exact rko) (by rw [vm]; exact rkn)
          rw [vm] at l3
          rw [ob_s l3]
          try dsimp only
          have vc : upd (upd (upd (upd (upd (upd (upd (upd z.1 mid (rkm z.2.1)) cor 0) f 0) t (z.1 f)) t 0) f (z.1 f)) t 0) mid 0 cor = 0 := by
            rw [pk_un d1, pk_un d4, pk_un d2, pk_un d4, pk_un d4, pk_un d2, pk_us]
          obtain ⟨bal5, kinds5, sides5, p3, p4⟩ := x0_put hB l4 hcor vc rko rkn
          rw [ob_s p3]
          try dsimp only
          have efun : upd (upd (upd (upd (upd (upd (upd (upd (upd z.1 mid (rkm z.2.1)) cor 0) f 0) t (z.1 f)) t 0) f (z.1 f)) t 0) mid 0) cor (rkm z.2.1) = z.1 := by
            funext s
            by_cases q4 : s = cor
            · rw [q4, pk_us]; exact x9.symm
            · rw [pk_un q4]
              by_cases q3 : s = mid
              · rw [q3, pk_us]; exact x6.symm
              · rw [pk_un q3]
                by_cases q1 : s = t
                · rw [q1, pk_us]; exact x5.symm
                · rw [pk_un q1]
                  by_cases q2 : s = f
                  · rw [q2, pk_us]
                  · rw [pk_un q2, pk_un q1, pk_un q1, pk_un q2, pk_un q4, pk_un q3]
          rw [efun] at p4 ⊢
          exact ⟨bal5, kinds5, sides5, rfl, p4⟩
    · rw [if_neg (fun h => q6 (k66.mp (c6.mp h)))]
      have hl : lpB z.1 f t = false := by
        unfold lpB
        simp [q6]
      rw [plain hl] at hC3 ⊢
      exact ⟨bal3, kinds3, sides3, rfl, hC3⟩
  -- from the put of the man on
  have b158 : ∃ (bal' : Int32) (kinds' sides' : Nat → Int64), m_X4_takeBack_b158 (nI made) mv pb (nI z.2.1) (nI z.2.2.1) (pI z.2.2.2.1) (nI z.2.2.2.2.1) (nI z.2.2.2.2.2) bal1 (upd (mvS z.1 f t u) t 0) kinds1 sides1 tab (nI (enM (f, t, u))) (nI (goN (kd (tkS z.1 f t)) z)) (nI f) (nI t) (if z.2.1 = 0 then 1 else -1) (cmS (z.1 f) u) (nI f) (z.1 f) = some (nI made, nI z.2.1, nI z.2.2.1, pI z.2.2.2.1, nI z.2.2.2.2.1, nI z.2.2.2.2.2, bal', z.1, kinds', sides') ∧ clP z.1 bal' kinds' sides' := by
    unfold m_X4_takeBack_b158
    rw [ob_s p1]
    try dsimp only
    rw [hh2]
    have c0 : nI (kd (tkS z.1 f t)) = 0 ↔ kd (tkS z.1 f t) = 0 := nI_eq0 (by omega)
    by_cases q : tkS z.1 f t = 0
    · have q0 : kd (tkS z.1 f t) = 0 := by rw [q]; decide
      rw [if_pos (c0.mpr q0)]
      have e := upd_same (bd := upd (upd (mvS z.1 f t u) t 0) f (z.1 f)) (k := onQ z f t) (x := tkS z.1 f t) (by rw [q]; exact b2on)
      have := fin bal2 kinds2 sides2 (by rw [e]; exact p2)
      rw [e] at this
      exact this
    · rw [if_neg (fun h => q (kd_0 (c0.mp h))), ob_s e_on, man_sign hmt hc (hten q)]
      obtain ⟨bal3, kinds3, sides3, p3, p4⟩ := x0_put hB p2 honl b2on hmt q
      rw [ob_s p3]
      exact fin bal3 kinds3 sides3 p4
  have b124 : ∃ (bal' : Int32) (kinds' sides' : Nat → Int64), m_X4_takeBack_b124 (nI made) mv pb (nI z.2.1) (nI z.2.2.1) (pI z.2.2.2.1) (nI z.2.2.2.2.1) (nI z.2.2.2.2.2) bal (mvS z.1 f t u) kinds sides tab (nI (enM (f, t, u))) (nI (goN (kd (tkS z.1 f t)) z)) (nI f) (nI t) (if z.2.1 = 0 then 1 else -1) = some (nI made, nI z.2.1, nI z.2.2.1, pI z.2.2.2.1, nI z.2.2.2.2.1, nI z.2.2.2.2.2, bal', z.1, kinds', sides') ∧ clP z.1 bal' kinds' sides' := by
    unfold m_X4_takeBack_b124
    rw [ob_s l1]
    try dsimp only
    rw [ob_s (x9_becomesOf hf ht hu5)]
    have cu : nI u = 0 ↔ u = 0 := nI_eq0 (by omega)
    by_cases q : u = 0
    · rw [if_pos (cu.mpr q)]
      have : cmS (z.1 f) u = z.1 f := if_pos q
      rw [this] at b158 ⊢
      exact b158
    · rw [if_neg (fun h => q (cu.mp h))]
      have h1 : kd (z.1 f) = 1 := by
        unfold tuS at hu
        split at hu
        · rename_i g
          unfold lastS at g
          simp at g
          exact g.1
        · rw [List.mem_range'_1] at hu
          omega
      have hpm := (pawn_man hmf hc).mp ⟨h1, ho⟩
      have e : (if z.2.1 = 0 then (1 : Int32) else -1) * 1 = z.1 f := by
        rw [hpm]
        unfold pmn
        split <;> decide
      rw [e]
      exact b158
  unfold m_X4_takeBack
  have ec : (1 : Int32) - nI (1 - z.2.1) = nI z.2.1 := by
    have := pk_sub (a := 1) (b := 1 - z.2.1) (by omega)
    rw [show 1 - (1 - z.2.1) = z.2.1 by omega] at this
    exact this
  have en : nI (z.2.2.2.2.2 + z.2.1) - nI z.2.1 = nI z.2.2.2.2.2 := by
    rw [pk_sub (by omega)]
    congr 1
    omega
  rw [ol_r, nI_pred, oin_n (by omega) (by omega), nI_clamp (by omega), ol_r, oin_n (by omega) (by omega), ol_r, hmv, hpb, ob_s (x9_fromOf hf ht hu5), ob_s (x9_toOf hf ht hu5), ol_r, ec, ol_r, en, ob_s (x4_rightsIn (by omega) hr hpp hh), ob_s (x4_passedIn (by omega) hr hpp hh), ol_r, hh1]
  have : z.2.1 = 0 ∨ z.2.1 = 1 := by omega
  rcases this with q | q
  · rw [q] at b124 ⊢
    rw [if_pos (by decide)]
    exact b124
  · rw [q] at b124 ⊢
    rw [if_neg (by decide)]
    exact b124
