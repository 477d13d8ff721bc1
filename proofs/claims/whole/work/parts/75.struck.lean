/-! The class: along a way, and whether a square is struck. -/
def lnT (rays kns kgs pws : Nat → Int64) : Prop := (∀ w s t, w < 8 → s < 64 → t < 64 → bt (rays (w * 64 + s)) t = rayB w s t) ∧ ∀ s t, s < 64 → t < 64 → bt (kns s) t = kniB s t ∧ bt (kgs s) t = kinB s t ∧ bt (pws s) t = pawB 0 s t ∧ bt (pws (64 + s)) t = pawB 1 s t
/-- kinds and sides say what the men are -/
def brP (bd : Nat → Int32) (kinds sides : Nat → Int64) : Prop := (∀ k s, 1 ≤ k → k ≤ 6 → s < 64 → bt (kinds k) s = decide (kd (bd s) = k)) ∧ ∀ c s, c < 2 → s < 64 → bt (sides c) s = msd (bd s) c
theorem lg0 (x : Int64) : lg_cmp x 0 = 0 ↔ x = 0 := lg_cmp_eq x 0
def smP (x met : Int64) (n : Nat) : Prop := ∀ i, bt x i = anyB (fun d => bt met (i + d)) n
theorem anyB_two (p : Nat → Bool) (n : Nat) : ∀ k, anyB p (n + k) = (anyB p n || anyB (fun d => p (n + d)) k)
  | 0 => by simp [anyB]
  | k + 1 => by
    show (anyB p (n + k) || p (n + k)) = (anyB p n || (anyB (fun d => p (n + d)) k || p (n + k)))
    rw [anyB_two p n k, Bool.or_assoc]
theorem smP_step {x met : Int64} {n : Nat} (h : smP x met n) (hn : n < 64) : smP (x ||| (x.toUInt64 >>> ((nI n).toInt64.toUInt64 &&& Int64.toUInt64 63)).toInt64) met (n + n) := by
  intro i
  rw [bt_or, bt_ushr x i hn, h i, h (n + i), anyB_two]
  congr 1
  apply anyB_cong
  intro d _
  rw [show n + i + d = i + (n + d) by omega]
theorem x3_along {rays kns kgs pws : Nat → Int64} (hT : lnT rays kns kgs pws) {w s : Nat} (hw : w < 8) (hs : s < 64) (men : Int64) : ∃ L, m_X3_along rays (nI w) (nI s) men = some L ∧ ∀ t, t < 64 → (bt L t = true ↔ ∃ j, 1 ≤ j ∧ j ≤ wln w s ∧ t = wsq w s j ∧ clr (bt men) w s j = true) := by
  have ei : nI w * 64 + nI s = nI (w * 64 + s) := by
    have : nI w * 64 = nI (w * 64) := pk_mul w 64
    rw [this, nI_add]
  have hr := fun t ht => hT.1 w s t hw hs ht
  unfold m_X3_along
  rw [ei, oin_n (by omega) (by omega), nI_clamp (by omega)]
  simp only [ol_r]
  generalize rays (w * 64 + s) = ray at hr
  have e4 : (4 : Int32) ≤ nI w ↔ 4 ≤ w := nI_leI (a := 4) (by omega) (by omega)
  have hmet : ∀ t, t < 64 → bt (ray &&& men) t = (rayB w s t && bt men t) := by
    intro t ht
    rw [bt_and, hr t ht]
  by_cases g : 4 ≤ w
  · rw [if_pos (e4.mpr g)]
    have s0 : smP (ray &&& men) (ray &&& men) 1 := by
      intro i
      show _ = (false || bt (ray &&& men) (i + 0))
      simp
    have s1 := smP_step s0 (by omega)
    have s2 := smP_step s1 (by omega)
    have s3 := smP_step s2 (by omega)
    have s4 := smP_step s3 (by omega)
    have s5 := smP_step s4 (by omega)
    have s6 := smP_step s5 (by omega)
    refine ⟨_, rfl, fun t ht => ?_⟩
    rw [bt_and, bt_not _ ht, hr t ht, Bool.and_eq_true, Bool.not_eq_true']
    have e1 := bt_ushr (s := 1) ((((((((ray &&& men) ||| ((ray &&& men).toUInt64 >>> ((nI 1).toInt64.toUInt64 &&& Int64.toUInt64 63)).toInt64)))))) : Int64) t (by omega)
    have key : ∀ X : Int64, smP X (ray &&& men) 64 → (bt (X.toUInt64 >>> ((nI 1).toInt64.toUInt64 &&& Int64.toUInt64 63)).toInt64 t = false ↔ ∀ u, t < u → u < 64 → ¬ (rayB w s u = true ∧ bt men u = true)) := by
      intro X hX
      rw [bt_ushr X t (by omega), hX (1 + t)]
      constructor
      · intro h u h1 h2 h3
        have : anyB (fun d => bt (ray &&& men) (1 + t + d)) 64 = true := by
          rw [anyB_iff]
          refine ⟨u - 1 - t, by omega, ?_⟩
          rw [show 1 + t + (u - 1 - t) = u by omega, hmet u h2, h3.1, h3.2]
          rfl
        rw [h] at this
        cases this
      · intro h
        cases q : anyB (fun d => bt (ray &&& men) (1 + t + d)) 64 with
        | false => rfl
        | true =>
          obtain ⟨d, _, h2⟩ := anyB_iff.mp q
          by_cases l : 1 + t + d < 64
          · rw [hmet _ l, Bool.and_eq_true] at h2
            exact absurd h2 (h _ (by omega) l)
          · rw [bt_ge (by omega)] at h2
            cases h2
    rw [ray_iff hw hs ht]
    refine Iff.trans (and_congr Iff.rfl (key _ s6)) ?_
    constructor
    · rintro ⟨⟨j, a1, a2, a3⟩, h⟩
      refine ⟨j, a1, a2, a3, clr_iff.mpr fun i b1 b2 => ?_⟩
      cases q : bt men (wsq w s i) with
      | false => rfl
      | true =>
        have l := wsq_lt hw hs b1 (show i ≤ wln w s by omega)
        have := wsq_anti hw g hs a2 b2
        exact absurd ⟨(ray_iff hw hs l).mpr ⟨i, b1, by omega, rfl⟩, q⟩ (h _ (by omega) l)
    · rintro ⟨j, a1, a2, a3, h⟩
      refine ⟨⟨j, a1, a2, a3⟩, fun u h1 h2 h3 => ?_⟩
      obtain ⟨i, b1, b2, b3⟩ := (ray_iff hw hs h2).mp h3.1
      have : i < j := by
        apply Classical.byContradiction
        intro q
        rcases Nat.lt_or_ge j i with q2 | q2
        · have := wsq_anti hw g hs b2 q2
          omega
        · have : i = j := by omega
          subst this
          omega
      have := clr_iff.mp h i b1 this
      rw [← b3] at this
      rw [this] at h3
      cases h3.2
  · rw [if_neg (fun z => g (e4.mp z))]
    refine ⟨_, rfl, fun t ht => ?_⟩
    rw [bt_and, hr t ht, Bool.and_eq_true, ray_iff hw hs ht]
    have key : bt ((ray &&& men) ^^^ ((ray &&& men) - 1)) t = true ↔ ∀ u, u < t → ¬ (rayB w s u = true ∧ bt men u = true) := by
      by_cases h0 : (ray &&& men) = 0
      · rw [h0]
        have : (0 : Int64) ^^^ (0 - 1) = -1 := by decide
        rw [this, bt_m1 ht]
        constructor
        · intro _ u h1 h2
          have := hmet u (by omega)
          rw [h0, bt_zero, h2.1, h2.2] at this
          cases this
        · intro _; rfl
      · obtain ⟨k, hk⟩ := leastB_ex h0
        rw [bt_upto hk ht, decide_eq_true_eq]
        constructor
        · intro h u h1 h2
          have := hk.2.2 u (by omega)
          rw [hmet u (by omega), h2.1, h2.2] at this
          cases this
        · intro h
          apply Classical.byContradiction
          intro q
          have := hk.2.1
          rw [hmet k hk.1, Bool.and_eq_true] at this
          exact h k (by omega) this
    refine Iff.trans (and_congr Iff.rfl key) ?_
    constructor
    · rintro ⟨⟨j, a1, a2, a3⟩, h⟩
      refine ⟨j, a1, a2, a3, clr_iff.mpr fun i b1 b2 => ?_⟩
      cases q : bt men (wsq w s i) with
      | false => rfl
      | true =>
        have l := wsq_lt hw hs b1 (show i ≤ wln w s by omega)
        have := wsq_mono (s := s) (show w < 4 by omega) b2
        exact absurd ⟨(ray_iff hw hs l).mpr ⟨i, b1, by omega, rfl⟩, q⟩ (h _ (by omega))
    · rintro ⟨j, a1, a2, a3, h⟩
      refine ⟨⟨j, a1, a2, a3⟩, fun u h1 h3 => ?_⟩
      obtain ⟨i, b1, b2, b3⟩ := (ray_iff hw hs (by omega)).mp h3.1
      have : i < j := by
        apply Classical.byContradiction
        intro q
        rcases Nat.lt_or_ge j i with q2 | q2
        · have := wsq_mono (s := s) (show w < 4 by omega) q2
          omega
        · have : i = j := by omega
          subst this
          omega
      have := clr_iff.mp h i b1 this
      rw [← b3] at this
      rw [this] at h3
      cases h3.2
theorem absD_sym (a b : Nat) : absD a b = absD b a := by
  unfold absD
  split <;> split <;> omega
theorem pawB_rev {c s t : Nat} (hc : c < 2) : pawB (1 - c) t s = pawB c s t := by
  unfold pawB
  rw [absD_sym]
  congr 1
  have : c = 0 ∨ c = 1 := by omega
  rcases this with q | q
  · subst q
    simp
    omega
  · subst q
    simp
    omega
theorem kniB_rev (s t : Nat) : kniB t s = kniB s t := by
  unfold kniB
  rw [absD_sym, absD_sym (t % 8)]
theorem kinB_rev (s t : Nat) : kinB t s = kinB s t := by
  unfold kinB
  rw [absD_sym, absD_sym (t % 8)]
  congr 1
  apply decide_eq_decide.mpr
  exact ne_comm
theorem w_slant : ∀ w, w < 8 → (nI w &&& 2 = 0 ↔ wsl w = false) := by decide
theorem isStruck_l {bd : Nat → Int32} {kinds sides rays kns kgs pws : Nat → Int64} (hT : lnT rays kns kgs pws) (hB : brP bd kinds sides) {t c : Nat} (ht : t < 64) (hc : c < 2) (set : Int64) : ∀ d w n : Nat, w + d = 8 → ∃ b : Bool, m_X0_isStruck_l121 kinds sides rays kns kgs pws (n + d + 1) (nI t) set ((sides c &&& set) &&& (kinds 4 ||| kinds 5)) ((sides c &&& set) &&& (kinds 3 ||| kinds 5)) (nI w) = some (bI b) ∧ (b = true ↔ ∃ v, w ≤ v ∧ v < 8 ∧ farG bd (bt set) t c v) := by
  intro d
  induction d with
  | zero =>
    intro w n e
    have e : w = 8 := by omega
    subst e
    refine ⟨false, ?_, ?_⟩
    · rw [m_X0_isStruck_l121_s]
      unfold m_X0_isStruck_b121
      rw [if_pos (by decide)]
      rfl
    · constructor
      · intro h; cases h
      · rintro ⟨v, h1, h2, _⟩; omega
  | succ d ih =>
    intro w n e
    obtain ⟨b, ih1, ih2⟩ := ih (w + 1) n (by omega)
    have hw : w < 8 := by omega
    have hn : ¬ (8 : Int32) ≤ nI w := nI_ge (b := 8) (by omega) (by omega)
    have ei : nI w * 64 + nI t = nI (w * 64 + t) := by
      have : nI w * 64 = nI (w * 64) := pk_mul w 64
      rw [this, nI_add]
    have hr := fun s hs => hT.1 w t s hw ht hs
    obtain ⟨L, hL1, hL2⟩ := x3_along hT hw ht set
    rw [show n + (d + 1) + 1 = n + d + 1 + 1 from rfl, m_X0_isStruck_l121_s]
    unfold m_X0_isStruck_b121
    rw [if_neg hn, ei, oin_n (by omega) (by omega), nI_clamp (by omega)]
    -- the riders of this way
    have key : ∀ R : Int64, (∀ s, s < 64 → (bt R s = true ↔ bt set s = true ∧ msd (bd s) c = true ∧ ridB w (bd s) = true)) → ∃ b : Bool, m_X0_isStruck_b157 (m_X0_isStruck_l121 kinds sides rays kns kgs pws (n + d + 1)) kinds sides rays kns kgs pws (nI t) set ((sides c &&& set) &&& (kinds 4 ||| kinds 5)) ((sides c &&& set) &&& (kinds 3 ||| kinds 5)) (nI w) (rays (w * 64 + t)) R = some (bI b) ∧ (b = true ↔ ∃ v, w ≤ v ∧ v < 8 ∧ farG bd (bt set) t c v) := by
      intro R hR
      have far : (∃ s, s < 64 ∧ bt L s = true ∧ bt (rays (w * 64 + t) &&& R) s = true) ↔ farG bd (bt set) t c w := by
        constructor
        · rintro ⟨s, hs, h1, h2⟩
          rw [bt_and, Bool.and_eq_true, hR s hs] at h2
          obtain ⟨j, a1, a2, a3, a4⟩ := (hL2 s hs).mp h1
          subst a3
          exact ⟨j, a1, a2, h2.2.1, h2.2.2.1, h2.2.2.2, a4⟩
        · rintro ⟨j, a1, a2, a3, a4, a5, a6⟩
          have hs := wsq_lt hw ht a1 a2
          refine ⟨_, hs, (hL2 _ hs).mpr ⟨j, a1, a2, rfl, a6⟩, ?_⟩
          rw [bt_and, Bool.and_eq_true, hR _ hs, hr _ hs]
          exact ⟨(ray_iff hw ht hs).mpr ⟨j, a1, a2, rfl⟩, a3, a4, a5⟩
      have go : ¬ farG bd (bt set) t c w → ∃ b : Bool, m_X0_isStruck_l121 kinds sides rays kns kgs pws (n + d + 1) (nI t) set ((sides c &&& set) &&& (kinds 4 ||| kinds 5)) ((sides c &&& set) &&& (kinds 3 ||| kinds 5)) (nI (w + 1)) = some (bI b) ∧ (b = true ↔ ∃ v, w ≤ v ∧ v < 8 ∧ farG bd (bt set) t c v) := by
        intro hnf
        refine ⟨b, ih1, ih2.trans ?_⟩
        constructor
        · rintro ⟨v, h1, h2, h3⟩
          exact ⟨v, by omega, h2, h3⟩
        · rintro ⟨v, h1, h2, h3⟩
          by_cases q : v = w
          · subst q; exact absurd h3 hnf
          · exact ⟨v, by omega, h2, h3⟩
      unfold m_X0_isStruck_b157 m_X0_isStruck_b188
      simp only [ol_r, lg0, ob_s hL1, nI_1]
      by_cases q0 : rays (w * 64 + t) &&& R = 0
      · rw [if_pos q0]
        apply go
        intro hf
        obtain ⟨s, hs, _, h2⟩ := far.mpr hf
        rw [q0, bt_zero] at h2
        cases h2
      · rw [if_neg q0]
        by_cases q1 : L &&& (rays (w * 64 + t) &&& R) = 0
        · rw [if_pos q1]
          apply go
          intro hf
          obtain ⟨s, hs, h1, h2⟩ := far.mpr hf
          have : bt (L &&& (rays (w * 64 + t) &&& R)) s = true := by rw [bt_and, h1, h2]; rfl
          rw [q1, bt_zero] at this
          cases this
        · rw [if_neg q1]
          refine ⟨true, rfl, ?_⟩
          constructor
          · intro _
            obtain ⟨s, hs, h⟩ := bt_ne0.mp q1
            rw [bt_and, Bool.and_eq_true] at h
            exact ⟨w, Nat.le_refl _, hw, far.mp ⟨s, hs, h.1, h.2⟩⟩
          · intro _; rfl
    have hk := hB.1
    have hsd := hB.2
    have sl := w_slant w hw
    by_cases q : nI w &&& 2 = 0
    · rw [if_pos q]
      apply key
      intro s hs
      rw [bt_and, bt_and, bt_or, hsd c s hc hs, hk 4 s (by omega) (by omega) hs, hk 5 s (by omega) (by omega) hs]
      unfold ridB
      rw [sl.mp q]
      simp only [Bool.and_eq_true, Bool.or_eq_true, decide_eq_true_eq, Bool.false_eq_true, if_false]
      constructor
      · rintro ⟨⟨a, b⟩, c⟩; exact ⟨b, a, c.symm⟩
      · rintro ⟨a, b, c⟩; exact ⟨⟨b, a⟩, c.symm⟩
    · rw [if_neg q]
      have e1 : wsl w = true := by
        cases h : wsl w with
        | true => rfl
        | false => exact absurd (sl.mpr h) q
      apply key
      intro s hs
      rw [bt_and, bt_and, bt_or, hsd c s hc hs, hk 3 s (by omega) (by omega) hs, hk 5 s (by omega) (by omega) hs]
      unfold ridB
      rw [e1]
      simp only [Bool.and_eq_true, Bool.or_eq_true, decide_eq_true_eq, if_true]
      constructor
      · rintro ⟨⟨a, b⟩, c⟩; exact ⟨b, a, c.symm⟩
      · rintro ⟨a, b, c⟩; exact ⟨⟨b, a⟩, c.symm⟩
theorem x0_isStruck {bd : Nat → Int32} {kinds sides rays kns kgs pws : Nat → Int64} (hT : lnT rays kns kgs pws) (hB : brP bd kinds sides) {t c : Nat} (ht : t < 64) (hc : c < 2) (set : Int64) : ∃ b : Bool, m_X0_isStruck kinds sides rays kns kgs pws (nI t) (nI c) set = some (bI b) ∧ (b = true ↔ attG bd (bt set) t c) := by
  have eo : (1 : Int32) - nI c = nI (1 - c) := pk_sub (a := 1) (by omega)
  have ei : nI (1 - c) * 64 + nI t = nI ((1 - c) * 64 + t) := by
    have : nI (1 - c) * 64 = nI ((1 - c) * 64) := pk_mul (1 - c) 64
    rw [this, nI_add]
  have hk := hB.1
  have hsd := hB.2
  have hp : ∀ s, s < 64 → bt (pws ((1 - c) * 64 + t)) s = pawB c s t := by
    intro s hs
    rw [← pawB_rev hc]
    have : c = 0 ∨ c = 1 := by omega
    rcases this with q | q
    · subst q
      exact (hT.2 t s ht hs).2.2.2
    · subst q
      rw [show (1 - 1) * 64 + t = t by omega]
      exact (hT.2 t s ht hs).2.2.1
  -- the men near
  have near : (((pws ((1 - c) * 64 + t) &&& kinds 1) ||| (kns t &&& kinds 2)) ||| (kgs t &&& kinds 6)) &&& (sides c &&& set) = 0 ↔ ¬ ∃ s, s < 64 ∧ bt set s = true ∧ msd (bd s) c = true ∧ nearB (bd s) s t = true := by
    have one : ∀ s, s < 64 → (bt ((((pws ((1 - c) * 64 + t) &&& kinds 1) ||| (kns t &&& kinds 2)) ||| (kgs t &&& kinds 6)) &&& (sides c &&& set)) s = true ↔ bt set s = true ∧ msd (bd s) c = true ∧ nearB (bd s) s t = true) := by
      intro s hs
      rw [bt_and, bt_or, bt_or, bt_and, bt_and, bt_and, bt_and, hp s hs, hk 1 s (by omega) (by omega) hs, hk 2 s (by omega) (by omega) hs, hk 6 s (by omega) (by omega) hs, hsd c s hc hs, (hT.2 t s ht hs).1, (hT.2 t s ht hs).2.1, kniB_rev, kinB_rev]
      unfold nearB
      by_cases g : msd (bd s) c = true
      · have e : (if 0 < bd s then 0 else 1) = c := by
          unfold msd at g
          have : c = 0 ∨ c = 1 := by omega
          rcases this with q | q
          · subst q
            simp at g
            rw [if_pos g]
          · subst q
            simp at g
            rw [if_neg (Int32.not_lt.mpr (Int32.le_of_lt g))]
        rw [e, g]
        simp only [Bool.and_eq_true, Bool.or_eq_true, Bool.and_comm, true_and]
      · simp [g]
    constructor
    · rintro h ⟨s, hs, h2⟩
      have := (one s hs).mpr h2
      rw [h, bt_zero] at this
      cases this
    · intro h
      apply Classical.byContradiction
      intro q
      obtain ⟨s, hs, h2⟩ := bt_ne0.mp q
      exact h ⟨s, hs, (one s hs).mp h2⟩
  unfold m_X0_isStruck
  rw [oin_n (by omega) (by omega), nI_clamp (by omega), ol_r, eo, ei, oin_n (by omega) (by omega), oin_n (by omega) (by omega), oin_n (by omega) (by omega), nI_clamp (by omega), nI_clamp (by omega), ol_r]
  simp only [lg0, ol_r]
  show ∃ b : Bool, (if (((pws ((1 - c) * 64 + t) &&& kinds 1) ||| (kns t &&& kinds 2)) ||| (kgs t &&& kinds 6)) &&& (sides c &&& set) = 0 then m_X0_isStruck_l121 kinds sides rays kns kgs pws kF (nI t) set ((sides c &&& set) &&& (kinds 4 ||| kinds 5)) ((sides c &&& set) &&& (kinds 3 ||| kinds 5)) 0 else obl 1 (some 1)) = _ ∧ _
  by_cases q : (((pws ((1 - c) * 64 + t) &&& kinds 1) ||| (kns t &&& kinds 2)) ||| (kgs t &&& kinds 6)) &&& (sides c &&& set) = 0
  · rw [if_pos q]
    obtain ⟨b, h1, h2⟩ := isStruck_l hT hB ht hc set 8 0 (kF - 9) (by omega)
    have e : kF - 9 + 8 + 1 = kF := by unfold kF; omega
    rw [e] at h1
    refine ⟨b, h1, h2.trans ?_⟩
    unfold attG
    constructor
    · rintro ⟨v, _, h3, h4⟩
      exact Or.inr ⟨v, h3, h4⟩
    · rintro (h3 | ⟨v, h3, h4⟩)
      · exact absurd h3 (near.mp q)
      · exact ⟨v, by omega, h3, h4⟩
  · rw [if_neg q]
    refine ⟨true, rfl, ?_⟩
    constructor
    · intro _
      exact Or.inl (Classical.byContradiction (fun h => q (near.mpr h)))
    · intro _; rfl
