/-! The class: the king's square, looking around from it. -/
theorem tc0 : Int32.toNatClampNeg 0 = 0 := by decide
theorem tc1 : Int32.toNatClampNeg 1 = 1 := by decide
theorem tc2 : Int32.toNatClampNeg 2 = 2 := by decide
theorem tc3 : Int32.toNatClampNeg 3 = 3 := by decide
theorem tc4 : Int32.toNatClampNeg 4 = 4 := by decide
theorem tc5 : Int32.toNatClampNeg 5 = 5 := by decide
theorem tc6 : Int32.toNatClampNeg 6 = 6 := by decide
theorem clr_cong {p q : Nat → Bool} (h : ∀ s, s < 64 → p s = q s) {w k j : Nat} (hw : w < 8) (hk : k < 64) (hj : j ≤ wln w k + 1) : clr p w k j = clr q w k j := by
  apply bool_iff
  rw [clr_iff, clr_iff]
  constructor
  · intro g i a b
    rw [← h _ (wsq_lt hw hk a (by omega))]
    exact g i a b
  · intro g i a b
    rw [h _ (wsq_lt hw hk a (by omega))]
    exact g i a b
theorem farG_cong {bd : Nat → Int32} {oc oc' : Nat → Bool} (h : ∀ s, s < 64 → oc s = oc' s) {t c w : Nat} (hw : w < 8) (ht : t < 64) : farG bd oc t c w ↔ farG bd oc' t c w := by
  unfold farG
  constructor
  · rintro ⟨j, a1, a2, a3, a4, a5, a6⟩
    rw [h _ (wsq_lt hw ht a1 a2)] at a3
    rw [clr_cong h hw ht (by omega)] at a6
    exact ⟨j, a1, a2, a3, a4, a5, a6⟩
  · rintro ⟨j, a1, a2, a3, a4, a5, a6⟩
    rw [← h _ (wsq_lt hw ht a1 a2)] at a3
    rw [← clr_cong h hw ht (by omega)] at a6
    exact ⟨j, a1, a2, a3, a4, a5, a6⟩
theorem attG_occ {bd : Nat → Int32} {oc oc' : Nat → Bool} (h : ∀ s, s < 64 → oc s = oc' s) {t c : Nat} (ht : t < 64) : attG bd oc t c ↔ attG bd oc' t c := attG_cong ht (fun s hs _ => ⟨h s hs, fun _ _ => rfl⟩)
theorem occ_sides {bd : Nat → Int32} (s : Nat) : (msd (bd s) 0 || msd (bd s) 1) = occ bd s := by
  unfold msd occ
  simp only [if_true, show ¬ ((1 : Nat) = 0) by omega, if_false]
  by_cases h1 : 0 < bd s
  · have : ¬ bd s = 0 := by
      intro e
      rw [e] at h1
      exact absurd h1 (by decide)
    simp [h1, this]
  · by_cases h2 : bd s < 0
    · have : ¬ bd s = 0 := by
        intro e
        rw [e] at h2
        exact absurd h2 (by decide)
      simp [h1, h2, this]
    · have : bd s = 0 := Int32.le_antisymm (Int32.not_lt.mp h1) (Int32.not_lt.mp h2)
      simp [h1, h2, this]
theorem x0_everyone {bd : Nat → Int32} {kinds sides : Nat → Int64} (hB : brP bd kinds sides) : ∃ E, m_X0_everyone sides = some E ∧ ∀ s, s < 64 → bt E s = occ bd s := by
  refine ⟨_, rfl, fun s hs => ?_⟩
  show bt (sides 0 ||| sides 1) s = _
  rw [bt_or, hB.2 0 s (by omega) hs, hB.2 1 s (by omega) hs, occ_sides]
theorem x0_kingOf {bd : Nat → Int32} (hb : gbd bd) {kinds sides : Nat → Int64} (hB : brP bd kinds sides) {c k : Nat} (hc : c < 2) (hK : isK bd c k) : m_X0_kingOf kinds sides (nI c) = some (nI k) := by
  have bits : ∀ s, s < 64 → (bt (kinds 6 &&& sides c) s = decide (s = k)) := by
    intro s hs
    rw [bt_and, hB.1 6 s (by omega) (by omega) hs, hB.2 c s hc hs]
    apply bool_iff
    simp only [Bool.and_eq_true, decide_eq_true_eq]
    constructor
    · rintro ⟨h1, h2⟩
      exact hK.2.2 s hs (king_man (hb.1 s hs) hc h1 h2)
    · intro e
      subst e
      rw [hK.2.1]
      exact ⟨kmn_kd, (kmn_own hc).1⟩
  have hl : leastB (kinds 6 &&& sides c) k := by
    refine ⟨hK.1, ?_, fun j hj => ?_⟩
    · rw [bits k hK.1]; simp
    · rw [bits j (by have := hK.1; omega)]
      simp
      omega
  unfold m_X0_kingOf
  rw [oin_n (by omega) (by omega), nI_clamp (by omega)]
  show ob (m_X9_leastOf (kinds 6 &&& sides c)) _ = _
  rw [ob_s (leastOf_eq hl)]
theorem bt_test (x : Int64) {s : Nat} (hs : s < 64) : lg_cmp (((x.toUInt64 >>> ((nI s).toInt64.toUInt64 &&& Int64.toUInt64 63)).toInt64) &&& 1) 0 = 0 ↔ bt x s = false := by
  rw [lg0]
  constructor
  · intro h
    have : bt (((x.toUInt64 >>> ((nI s).toInt64.toUInt64 &&& Int64.toUInt64 63)).toInt64) &&& 1) 0 = false := by rw [h, bt_zero]
    rw [bt_and, bt_ushr x 0 hs, bt_one] at this
    simpa using this
  · intro h
    apply bt_ext
    intro i hi
    rw [bt_and, bt_ushr x i hs, bt_one, bt_zero]
    by_cases q : i = 0
    · subst q
      simp [h]
    · simp [q]
/-- knights and pawns of side c that look at k -/
def knpB (m : Int32) (s k : Nat) : Bool := (decide (kd m = 2) && kniB s k) || (decide (kd m = 1) && pawB (if 0 < m then 0 else 1) s k)
theorem msd_sd {m : Int32} {c : Nat} (hc : c < 2) (h : msd m c = true) : (if 0 < m then 0 else 1) = c := by
  unfold msd at h
  have : c = 0 ∨ c = 1 := by omega
  rcases this with q | q
  · subst q
    simp at h
    rw [if_pos h]
  · subst q
    simp at h
    rw [if_neg (Int32.not_lt.mpr (Int32.le_of_lt h))]
/-- what lookAlong does on way w -/
theorem x2_lookAlong {bd : Nat → Int32} {rays kns kgs pws : Nat → Int64} (hT : lnT rays kns kgs pws) {c k w : Nat} (hc : c < 2) (hk : k < 64) (hw : w < 8) {own all R S P : Int64} (hown : ∀ s, s < 64 → bt own s = msd (bd s) c) (hall : ∀ s, s < 64 → bt all s = occ bd s) (hR : ∀ s, s < 64 → (bt R s = true ↔ rayB w k s = true ∧ msd (bd s) (1 - c) = true ∧ ridB w (bd s) = true)) : ∃ S' P', m_X2_lookAlong own all (nI k) S P rays (nI w) R = some (S', P') ∧ (∀ t, t < 64 → (bt S' t = true ↔ bt S t = true ∧ (farG bd (occ bd) k (1 - c) w → seenP bd k w t))) ∧ ∀ f, f < 64 → (bt P' f = true ↔ bt P f = true ∨ (msd (bd f) c = true ∧ pinP bd k (1 - c) w f)) := by
  obtain ⟨L, hL1, hL2⟩ := x3_along hT hw hk all
  have seen : ∀ t, t < 64 → (bt L t = true ↔ seenP bd k w t) := by
    intro t ht
    rw [hL2 t ht]
    unfold seenP
    constructor
    · rintro ⟨j, a1, a2, a3, a4⟩
      exact ⟨j, a1, a2, a3, by rw [← clr_cong hall hw hk (by omega)]; exact a4⟩
    · rintro ⟨j, a1, a2, a3, a4⟩
      exact ⟨j, a1, a2, a3, by rw [clr_cong hall hw hk (by omega)]; exact a4⟩
  -- what a set of men hides
  have hit : ∀ (X M : Int64), (∀ t, t < 64 → (bt X t = true ↔ ∃ j, 1 ≤ j ∧ j ≤ wln w k ∧ t = wsq w k j ∧ clr (bt M) w k j = true)) → (∀ s, s < 64 → msd (bd s) (1 - c) = true → bt M s = true) → (X &&& R = 0 ↔ ¬ farG bd (bt M) k (1 - c) w) := by
    intro X M hX hM
    constructor
    · rintro h ⟨j, a1, a2, a3, a4, a5, a6⟩
      have hl := wsq_lt hw hk a1 a2
      have : bt (X &&& R) (wsq w k j) = true := by
        rw [bt_and, Bool.and_eq_true]
        exact ⟨(hX _ hl).mpr ⟨j, a1, a2, rfl, a6⟩, (hR _ hl).mpr ⟨(ray_iff hw hk hl).mpr ⟨j, a1, a2, rfl⟩, a4, a5⟩⟩
      rw [h, bt_zero] at this
      cases this
    · intro h
      apply Classical.byContradiction
      intro q
      obtain ⟨s, hs, g⟩ := bt_ne0.mp q
      rw [bt_and, Bool.and_eq_true] at g
      obtain ⟨j, a1, a2, a3, a4⟩ := (hX s hs).mp g.1
      have r := (hR s hs).mp g.2
      have hm := hM s hs r.2.1
      subst a3
      exact h ⟨j, a1, a2, hm, r.2.1, r.2.2, a4⟩
  have far0 : L &&& R = 0 ↔ ¬ farG bd (occ bd) k (1 - c) w := by
    rw [hit L all hL2 (fun s hs h => by rw [hall s hs]; exact msd_occ h)]
    rw [farG_cong hall hw hk]
  -- a man of one's own that is seen hides all behind him
  have own1 : ∀ f, seenP bd k w f → msd (bd f) c = true → ¬ farG bd (occ bd) k (1 - c) w := by
    rintro f ⟨a, a1, a2, a3, a4⟩ ho ⟨j, b1, b2, b3, b4, b5, b6⟩
    subst a3
    rcases Nat.lt_trichotomy a j with q | q | q
    · have := clr_iff.mp b6 a a1 q
      rw [msd_occ ho] at this
      cases this
    · subst q
      rw [msd_two hc ho] at b4
      cases b4
    · have := clr_iff.mp a4 j b1 q
      rw [b3] at this
      cases this
  unfold m_X2_lookAlong m_X2_lookAlong_b89
  rw [ob_s hL1]
  simp only [lg0, ol_r]
  by_cases q : L &&& R = 0
  · rw [if_pos q]
    have hnf := far0.mp q
    obtain ⟨L2, hM1, hM2⟩ := x3_along hT hw hk (all &&& ((L &&& own) ^^^ (-1)))
    rw [ob_s hM1]
    have bits : ∀ s, s < 64 → bt (all &&& ((L &&& own) ^^^ (-1))) s = (occ bd s && !(bt L s && msd (bd s) c)) := by
      intro s hs
      rw [bt_and, bt_not _ hs, bt_and, hall s hs, hown s hs]
    have hit2 := hit L2 _ hM2 (fun s hs h => by
      rw [bits s hs, msd_occ h]
      have : msd (bd s) c = false := by
        have := msd_two (c := 1 - c) (by omega) h
        rwa [show 1 - (1 - c) = c by omega] at this
      rw [this]
      simp)
    have pin : ∀ f, f < 64 → seenP bd k w f → msd (bd f) c = true → (pinP bd k (1 - c) w f ↔ farG bd (bt (all &&& ((L &&& own) ^^^ (-1)))) k (1 - c) w) := by
      intro f hf h1 h2
      have e : ∀ s, s < 64 → bt (all &&& ((L &&& own) ^^^ (-1))) s = (occ bd s && !(s == f)) := by
        intro s hs
        rw [bits s hs]
        by_cases g : s = f
        · subst g
          rw [(seen s hs).mpr h1, h2]
          simp
        · have : (bt L s && msd (bd s) c) = false := by
            cases hh : (bt L s && msd (bd s) c) with
            | false => rfl
            | true =>
              rw [Bool.and_eq_true] at hh
              obtain ⟨a, a1, a2, a3, a4⟩ := (seen s hs).mp hh.1
              obtain ⟨b, b1, b2, b3, b4⟩ := h1
              rcases Nat.lt_trichotomy a b with r | r | r
              · have := clr_iff.mp b4 a a1 r
                rw [← a3, msd_occ hh.2] at this
                cases this
              · subst r
                exact absurd (a3.trans b3.symm) g
              · have := clr_iff.mp a4 b b1 r
                rw [← b3, msd_occ h2] at this
                cases this
          rw [this]
          have : (s == f) = false := by simpa using g
          rw [this]
      unfold pinP
      rw [farG_cong e hw hk]
      exact ⟨fun h => h.2, fun h => ⟨h1, h⟩⟩
    by_cases q2 : L2 &&& R = 0
    · rw [if_pos q2]
      refine ⟨S, P, rfl, fun t ht => ⟨fun h => ⟨h, fun g => absurd g hnf⟩, fun h => h.1⟩, fun f hf => ⟨Or.inl, ?_⟩⟩
      rintro (h | ⟨h1, h2⟩)
      · exact h
      · exact absurd ((pin f hf h2.1 h1).mp h2) (hit2.mp q2)
    · rw [if_neg q2]
      have hf2 : farG bd (bt (all &&& ((L &&& own) ^^^ (-1)))) k (1 - c) w := Classical.byContradiction (fun h => q2 (hit2.mpr h))
      refine ⟨S, P ||| (L &&& own), rfl, fun t ht => ⟨fun h => ⟨h, fun g => absurd g hnf⟩, fun h => h.1⟩, fun f hf => ?_⟩
      rw [bt_or, bt_and, Bool.or_eq_true, Bool.and_eq_true, hown f hf, seen f hf]
      constructor
      · rintro (h | ⟨h1, h2⟩)
        · exact Or.inl h
        · exact Or.inr ⟨h2, (pin f hf h1 h2).mpr hf2⟩
      · rintro (h | ⟨h1, h2⟩)
        · exact Or.inl h
        · exact Or.inr ⟨h2.1, h1⟩
  · rw [if_neg q]
    have hf : farG bd (occ bd) k (1 - c) w := Classical.byContradiction (fun h => q (far0.mpr h))
    refine ⟨S &&& L, P, rfl, fun t ht => ?_, fun f hf2 => ⟨Or.inl, ?_⟩⟩
    · rw [bt_and, Bool.and_eq_true, seen t ht]
      exact ⟨fun h => ⟨h.1, fun _ => h.2⟩, fun h => ⟨h.1, h.2 hf⟩⟩
    · rintro (h | ⟨h1, h2⟩)
      · exact h
      · exact absurd hf (own1 f h2.1 h1)
theorem lookAround_l {bd : Nat → Int32} {kinds sides rays kns kgs pws : Nat → Int64} (hT : lnT rays kns kgs pws) (hB : brP bd kinds sides) {c k : Nat} (hc : c < 2) (hk : k < 64) {own all : Int64} (hown : ∀ s, s < 64 → bt own s = msd (bd s) c) (hall : ∀ s, s < 64 → bt all s = occ bd s) : ∀ (d w n : Nat) (S P : Int64), w + d = 8 → ∃ S' P', m_X2_lookAround_l176 (nI c) kinds sides rays kns pws (n + d + 1) own all (nI k) S P (sides (1 - c) &&& (kinds 4 ||| kinds 5)) (sides (1 - c) &&& (kinds 3 ||| kinds 5)) (nI w) = some (own, all, nI k, S', P') ∧ (∀ t, t < 64 → (bt S' t = true ↔ bt S t = true ∧ ∀ v, w ≤ v → v < 8 → farG bd (occ bd) k (1 - c) v → seenP bd k v t)) ∧ ∀ f, f < 64 → (bt P' f = true ↔ bt P f = true ∨ (msd (bd f) c = true ∧ ∃ v, w ≤ v ∧ v < 8 ∧ pinP bd k (1 - c) v f)) := by
  intro d
  induction d with
  | zero =>
    intro w n S P e
    have e : w = 8 := by omega
    subst e
    refine ⟨S, P, ?_, fun t _ => ⟨fun h => ⟨h, fun v h1 h2 => by omega⟩, fun h => h.1⟩, fun f _ => ⟨Or.inl, ?_⟩⟩
    · rw [m_X2_lookAround_l176_s]
      unfold m_X2_lookAround_b176
      rw [if_pos (by decide)]
    · rintro (h | ⟨_, v, h1, h2, _⟩)
      · exact h
      · omega
  | succ d ih =>
    intro w n S P e
    have hw : w < 8 := by omega
    have hn : ¬ (8 : Int32) ≤ nI w := nI_ge (b := 8) (by omega) (by omega)
    have ei : nI w * 64 + nI k = nI (w * 64 + k) := by
      have : nI w * 64 = nI (w * 64) := pk_mul w 64
      rw [this, nI_add]
    have hr := fun s hs => hT.1 w k s hw hk hs
    rw [show n + (d + 1) + 1 = n + d + 1 + 1 from rfl, m_X2_lookAround_l176_s]
    unfold m_X2_lookAround_b176
    rw [if_neg hn, ei, oin_n (by omega) (by omega), nI_clamp (by omega)]
    have key : ∀ Q : Int64, (∀ s, s < 64 → (bt Q s = true ↔ msd (bd s) (1 - c) = true ∧ ridB w (bd s) = true)) → ∃ S' P', m_X2_lookAround_b215 (m_X2_lookAround_l176 (nI c) kinds sides rays kns pws (n + d + 1)) own all (nI k) S P (nI c) kinds sides rays kns pws (sides (1 - c) &&& (kinds 4 ||| kinds 5)) (sides (1 - c) &&& (kinds 3 ||| kinds 5)) (nI w) (rays (w * 64 + k)) Q = some (own, all, nI k, S', P') ∧ (∀ t, t < 64 → (bt S' t = true ↔ bt S t = true ∧ ∀ v, w ≤ v → v < 8 → farG bd (occ bd) k (1 - c) v → seenP bd k v t)) ∧ ∀ f, f < 64 → (bt P' f = true ↔ bt P f = true ∨ (msd (bd f) c = true ∧ ∃ v, w ≤ v ∧ v < 8 ∧ pinP bd k (1 - c) v f)) := by
      intro Q hQ
      have hR : ∀ s, s < 64 → (bt (rays (w * 64 + k) &&& Q) s = true ↔ rayB w k s = true ∧ msd (bd s) (1 - c) = true ∧ ridB w (bd s) = true) := by
        intro s hs
        rw [bt_and, Bool.and_eq_true, hQ s hs, hr s hs]
      -- after this way
      have go : ∀ S1 P1, (∀ t, t < 64 → (bt S1 t = true ↔ bt S t = true ∧ (farG bd (occ bd) k (1 - c) w → seenP bd k w t))) → (∀ f, f < 64 → (bt P1 f = true ↔ bt P f = true ∨ (msd (bd f) c = true ∧ pinP bd k (1 - c) w f))) → ∃ S' P', m_X2_lookAround_l176 (nI c) kinds sides rays kns pws (n + d + 1) own all (nI k) S1 P1 (sides (1 - c) &&& (kinds 4 ||| kinds 5)) (sides (1 - c) &&& (kinds 3 ||| kinds 5)) (nI (w + 1)) = some (own, all, nI k, S', P') ∧ (∀ t, t < 64 → (bt S' t = true ↔ bt S t = true ∧ ∀ v, w ≤ v → v < 8 → farG bd (occ bd) k (1 - c) v → seenP bd k v t)) ∧ ∀ f, f < 64 → (bt P' f = true ↔ bt P f = true ∨ (msd (bd f) c = true ∧ ∃ v, w ≤ v ∧ v < 8 ∧ pinP bd k (1 - c) v f)) := by
        intro S1 P1 h1 h2
        obtain ⟨S2, P2, e1, e2, e3⟩ := ih (w + 1) n S1 P1 (by omega)
        refine ⟨S2, P2, e1, fun t ht => ?_, fun f hf => ?_⟩
        · rw [e2 t ht, h1 t ht]
          constructor
          · rintro ⟨⟨a, b⟩, g⟩
            refine ⟨a, fun v x1 x2 => ?_⟩
            by_cases q : v = w
            · subst q; exact b
            · exact g v (by omega) x2
          · rintro ⟨a, b⟩
            exact ⟨⟨a, b w (Nat.le_refl _) hw⟩, fun v x1 x2 => b v (by omega) x2⟩
        · rw [e3 f hf, h2 f hf]
          constructor
          · rintro ((a | ⟨a, b⟩) | ⟨a, v, x1, x2, x3⟩)
            · exact Or.inl a
            · exact Or.inr ⟨a, w, Nat.le_refl _, hw, b⟩
            · exact Or.inr ⟨a, v, by omega, x2, x3⟩
          · rintro (a | ⟨a, v, x1, x2, x3⟩)
            · exact Or.inl (Or.inl a)
            · by_cases q : v = w
              · subst q; exact Or.inl (Or.inr ⟨a, x3⟩)
              · exact Or.inr ⟨a, v, by omega, x2, x3⟩
      unfold m_X2_lookAround_b215 m_X2_lookAround_b233
      simp only [ol_r, lg0, nI_1]
      by_cases q : rays (w * 64 + k) &&& Q = 0
      · rw [if_pos q]
        have none1 : ∀ oc, ¬ farG bd oc k (1 - c) w := by
          rintro oc ⟨j, a1, a2, a3, a4, a5, a6⟩
          have hl := wsq_lt hw hk a1 a2
          have := (hR _ hl).mpr ⟨(ray_iff hw hk hl).mpr ⟨j, a1, a2, rfl⟩, a4, a5⟩
          rw [q, bt_zero] at this
          cases this
        exact go S P (fun t _ => ⟨fun h => ⟨h, fun g => absurd g (none1 _)⟩, fun h => h.1⟩) (fun f _ => ⟨Or.inl, fun h => h.elim id (fun g => absurd g.2.2 (none1 _))⟩)
      · rw [if_neg q]
        obtain ⟨S1, P1, e1, e2, e3⟩ := x2_lookAlong hT hc hk hw hown hall hR (S := S) (P := P)
        rw [ob_s e1]
        exact go S1 P1 e2 e3
    have hkk := hB.1
    have hsd := hB.2
    have sl := w_slant w hw
    by_cases q : nI w &&& 2 = 0
    · rw [if_pos q]
      apply key
      intro s hs
      rw [bt_and, bt_or, hsd (1 - c) s (by omega) hs, hkk 4 s (by omega) (by omega) hs, hkk 5 s (by omega) (by omega) hs]
      unfold ridB
      rw [sl.mp q]
      simp only [Bool.and_eq_true, Bool.or_eq_true, decide_eq_true_eq, Bool.false_eq_true, if_false]
      exact ⟨fun h => ⟨h.1, h.2.symm⟩, fun h => ⟨h.1, h.2.symm⟩⟩
    · rw [if_neg q]
      have e1 : wsl w = true := by
        cases h : wsl w with
        | true => rfl
        | false => exact absurd (sl.mpr h) q
      apply key
      intro s hs
      rw [bt_and, bt_or, hsd (1 - c) s (by omega) hs, hkk 3 s (by omega) (by omega) hs, hkk 5 s (by omega) (by omega) hs]
      unfold ridB
      rw [e1]
      simp only [Bool.and_eq_true, Bool.or_eq_true, decide_eq_true_eq, if_true]
      exact ⟨fun h => ⟨h.1, h.2.symm⟩, fun h => ⟨h.1, h.2.symm⟩⟩
/-- what the king's man sees: the men's goals that save him, the men that are pinned -/
theorem x2_lookAround {bd : Nat → Int32} (hb : gbd bd) {kinds sides rays kns kgs pws : Nat → Int64} (hT : lnT rays kns kgs pws) (hB : brP bd kinds sides) {c k : Nat} (hc : c < 2) (hK : isK bd c k) (v1 v2 v4 v5 : Int64) (v3 : Int32) : ∃ own all S P, m_X2_lookAround v1 v2 v3 v4 v5 (nI c) kinds sides rays kns pws = some (own, all, nI k, S, P) ∧ (∀ s, s < 64 → bt own s = msd (bd s) c) ∧ (∀ s, s < 64 → bt all s = occ bd s) ∧ (∀ t, t < 64 → (bt S t = true ↔ (∀ s, s < 64 → msd (bd s) (1 - c) = true → knpB (bd s) s k = true → s = t) ∧ ∀ w, w < 8 → farG bd (occ bd) k (1 - c) w → seenP bd k w t)) ∧ ∀ f, f < 64 → (bt P f = true ↔ msd (bd f) c = true ∧ ∃ w, w < 8 ∧ pinP bd k (1 - c) w f) := by
  have hk := hK.1
  obtain ⟨E, hE1, hE2⟩ := x0_everyone hB
  have eo : (1 : Int32) - nI c = nI (1 - c) := pk_sub (a := 1) (by omega)
  have ei : nI c * 64 + nI k = nI (c * 64 + k) := by
    have : nI c * 64 = nI (c * 64) := pk_mul c 64
    rw [this, nI_add]
  have hown : ∀ s, s < 64 → bt (sides c) s = msd (bd s) c := fun s hs => hB.2 c s hc hs
  -- near
  have hp : ∀ s, s < 64 → bt (pws (c * 64 + k)) s = pawB (1 - c) s k := by
    intro s hs
    rw [← pawB_rev (c := 1 - c) (by omega), show 1 - (1 - c) = c by omega]
    have : c = 0 ∨ c = 1 := by omega
    rcases this with q | q
    · subst q
      rw [show 0 * 64 + k = k by omega]
      exact (hT.2 k s hk hs).2.2.1
    · subst q
      rw [show 1 * 64 + k = 64 + k by omega]
      exact (hT.2 k s hk hs).2.2.2
  have near : ∀ s, s < 64 → (bt (((kns k &&& kinds 2) ||| (pws (c * 64 + k) &&& kinds 1)) &&& sides (1 - c)) s = true ↔ msd (bd s) (1 - c) = true ∧ knpB (bd s) s k = true) := by
    intro s hs
    rw [bt_and, bt_or, bt_and, bt_and, hp s hs, hB.1 1 s (by omega) (by omega) hs, hB.1 2 s (by omega) (by omega) hs, hB.2 (1 - c) s (by omega) hs, (hT.2 k s hk hs).1, kniB_rev]
    unfold knpB
    by_cases g : msd (bd s) (1 - c) = true
    · rw [msd_sd (by omega) g, g]
      simp only [Bool.and_eq_true, Bool.or_eq_true, Bool.and_comm, true_and]
    · simp [g]
  have fin : ∀ S0 : Int64, (∀ t, t < 64 → (bt S0 t = true ↔ ∀ s, s < 64 → msd (bd s) (1 - c) = true → knpB (bd s) s k = true → s = t)) → ∃ own all S P, m_X2_lookAround_b151 (sides c) E (nI k) S0 0 (nI c) kinds sides rays kns pws (sides (1 - c)) = some (own, all, nI k, S, P) ∧ (∀ s, s < 64 → bt own s = msd (bd s) c) ∧ (∀ s, s < 64 → bt all s = occ bd s) ∧ (∀ t, t < 64 → (bt S t = true ↔ (∀ s, s < 64 → msd (bd s) (1 - c) = true → knpB (bd s) s k = true → s = t) ∧ ∀ w, w < 8 → farG bd (occ bd) k (1 - c) w → seenP bd k w t)) ∧ ∀ f, f < 64 → (bt P f = true ↔ msd (bd f) c = true ∧ ∃ w, w < 8 ∧ pinP bd k (1 - c) w f) := by
    intro S0 h0
    obtain ⟨S, P, e1, e2, e3⟩ := lookAround_l hT hB hc hk hown hE2 8 0 (kF - 9) S0 0 (by omega)
    have e : kF - 9 + 8 + 1 = kF := by unfold kF; omega
    rw [e] at e1
    refine ⟨sides c, E, S, P, ?_, hown, hE2, fun t ht => ?_, fun f hf => ?_⟩
    · unfold m_X2_lookAround_b151
      rw [ol_r, ol_r]
      exact e1
    · rw [e2 t ht, h0 t ht]
      exact ⟨fun h => ⟨h.1, fun w hw => h.2 w (by omega) hw⟩, fun h => ⟨h.1, fun w _ hw => h.2 w hw⟩⟩
    · rw [e3 f hf, bt_zero]
      constructor
      · rintro (h | ⟨h1, v, h2, h3, h4⟩)
        · cases h
        · exact ⟨h1, v, h3, h4⟩
      · rintro ⟨h1, v, h3, h4⟩
        exact Or.inr ⟨h1, v, by omega, h3, h4⟩
  unfold m_X2_lookAround m_X2_lookAround_b148
  rw [oin_n (by omega) (by omega), nI_clamp (by omega), ol_r, ob_s hE1, ob_s (x0_kingOf hb hB hc hK), eo, oin_n (by omega) (by omega), nI_clamp (by omega), ol_r, oin_n (by omega) (by omega), ei, oin_n (by omega) (by omega), nI_clamp (by omega), nI_clamp (by omega), ol_r, ol_r]
  simp only [lg0, tc1, tc2]
  generalize hN : ((kns k &&& kinds 2) ||| (pws (c * 64 + k) &&& kinds 1)) &&& sides (1 - c) = N at near
  by_cases q : N = 0
  · rw [if_pos q]
    apply fin
    intro t ht
    rw [bt_m1 ht]
    refine ⟨fun _ s hs h1 h2 => ?_, fun _ => rfl⟩
    have := (near s hs).mpr ⟨h1, h2⟩
    rw [q, bt_zero] at this
    cases this
  · rw [if_neg q]
    obtain ⟨a, ha⟩ := leastB_ex q
    have haN := (near a ha.1).mp ha.2.1
    by_cases q2 : N &&& (N - 1) = 0
    · rw [if_pos q2]
      apply fin
      intro t ht
      have one : ∀ s, s < 64 → bt N s = true → s = a := by
        intro s hs h
        apply Classical.byContradiction
        intro g
        have := bt_drop ha hs
        rw [q2, bt_zero, h] at this
        simp [g] at this
      constructor
      · intro h s hs h1 h2
        rw [one t ht h]
        exact one s hs ((near s hs).mpr ⟨h1, h2⟩)
      · intro h
        rw [← h a ha.1 haN.1 haN.2]
        exact ha.2.1
    · rw [if_neg q2]
      apply fin
      intro t ht
      rw [bt_zero]
      refine ⟨fun h => (by cases h), fun h => ?_⟩
      obtain ⟨b, hb1, hb2⟩ := bt_ne0.mp q2
      rw [bt_drop ha hb1, Bool.and_eq_true] at hb2
      have hbN := (near b hb1).mp hb2.1
      have e1 := h a ha.1 haN.1 haN.2
      have e2 := h b hb1 hbN.1 hbN.2
      have : b ≠ a := by simpa using hb2.2
      exact absurd (e2.trans e1.symm) this
