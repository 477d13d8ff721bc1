/-! The king's legal moves; the list of legal moves. -/
theorem attG_mono {bd : Nat → Int32} {k m c : Nat} (hk : msd (bd k) c = false) (h : attG bd (occ bd) m c) : attG bd (fun s => occ bd s && !(s == k)) m c := by
  have ne : ∀ s, msd (bd s) c = true → (s == k) = false := by
    intro s hs
    have : s ≠ k := by
      intro e
      rw [e, hk] at hs
      cases hs
    simpa using this
  rcases h with ⟨s, h1, h2, h3, h4⟩ | ⟨w, hw, j, a1, a2, a3, a4, a5, a6⟩
  · exact Or.inl ⟨s, h1, by show (occ bd s && !(s == k)) = true; rw [h2, ne s h3]; rfl, h3, h4⟩
  · refine Or.inr ⟨w, hw, j, a1, a2, by show (occ bd (wsq w m j) && !(wsq w m j == k)) = true; rw [a3, ne _ a4]; rfl, a4, a5, clr_iff.mpr fun i x1 x2 => ?_⟩
    show (occ bd _ && !(_ == k)) = false
    rw [clr_iff.mp a6 i x1 x2]
    rfl
theorem attG_minus {bd : Nat → Int32} {k m c : Nat} (hm : m < 64) (h : attG bd (fun s => occ bd s && !(s == k)) m c) : attG bd (occ bd) m c ∨ attG bd (occ bd) k c := by
  rcases h with ⟨s, h1, h2, h3, h4⟩ | ⟨w, hw, j, a1, a2, a3, a4, a5, a6⟩
  · exact Or.inl (Or.inl ⟨s, h1, msd_occ h3, h3, h4⟩)
  · by_cases g : ∃ i, 1 ≤ i ∧ i < j ∧ wsq w m i = k
    · obtain ⟨i, g1, g2, g3⟩ := g
      right
      right
      have e1 : wsq w k (j - i) = wsq w m j := by
        rw [← g3, wsq_add, show i + (j - i) = j by omega]
      have e2 : wln w k = wln w m - i := by
        rw [← g3]
        exact wln_sub hw hm (by omega)
      refine ⟨w, hw, j - i, by omega, by omega, ?_, ?_, ?_, clr_iff.mpr fun i' x1 x2 => ?_⟩
      · rw [e1]; exact msd_occ a4
      · rw [e1]; exact a4
      · rw [e1]; exact a5
      · rw [← g3, wsq_add]
        have := clr_iff.mp a6 (i + i') (by omega) (by omega)
        have this : (occ bd (wsq w m (i + i')) && !(wsq w m (i + i') == k)) = false := this
        rw [Bool.and_eq_false_iff] at this
        rcases this with q | q
        · exact q
        · have : wsq w m (i + i') = wsq w m i := by
            rw [g3]
            simpa using q
          have := (wsq_inj hw hw hm (by omega) (by omega) g1 (by omega) this).2
          omega
    · left
      right
      refine ⟨w, hw, j, a1, a2, msd_occ a4, a4, a5, clr_iff.mpr fun i x1 x2 => ?_⟩
      have := clr_iff.mp a6 i x1 x2
      have this : (occ bd (wsq w m i) && !(wsq w m i == k)) = false := this
      rw [Bool.and_eq_false_iff] at this
      rcases this with q | q
      · exact q
      · exact absurd ⟨i, x1, x2, by simpa using q⟩ g
theorem saf_king {bd : Nat → Int32} (hb : gbd bd) {c k t : Nat} (hc : c < 2) (hK : isK bd c k) (ht : t < 64) (hkt : kinB k t = true) (hto : msd (bd t) c = false) : safS bd k t 0 c = true ↔ ¬ attG bd (fun s => occ bd s && !(s == k)) t (1 - c) := by
  have k6 : kd (bd k) = 6 := by rw [hK.2.1]; exact kmn_kd
  have hep : epB bd k t = false := by
    unfold epB
    simp [k6]
  have hne : k ≠ t := by
    unfold kinB at hkt
    simp at hkt
    exact hkt.2
  have hlp : lpB bd k t = false := by
    unfold lpB
    unfold kinB at hkt
    simp at hkt
    have : absD (k % 8) (t % 8) ≠ 2 := by omega
    simp [this]
  have own := kmn_own hc
  have e0 : cmS (bd k) 0 = kmn c := hK.2.1
  have hbd : gbd (upd (upd bd k 0) t (kmn c)) := gbd_upd (gbd_upd hb hK.1 mOK_0) ht own.2
  have hK' : isK (upd (upd bd k 0) t (kmn c)) c t := by
    refine ⟨ht, pk_us, fun s hs e => ?_⟩
    apply Classical.byContradiction
    intro q
    rw [pk_un q] at e
    by_cases q2 : s = k
    · subst q2
      rw [pk_us] at e
      have := congrArg kd e
      rw [kmn_kd] at this
      exact absurd this (by decide)
    · rw [pk_un q2] at e
      exact q2 (hK.2.2 s hs e)
  unfold safS chkS
  rw [mvS_plain hep hlp, e0, kgS_eq hK', Bool.not_eq_true', ← Bool.not_eq_true, att_iff hbd ht]
  apply not_congr
  apply attG_cong ht
  intro s hs hst
  by_cases q2 : s = k
  · subst q2
    refine ⟨?_, fun _ h => ?_⟩
    · unfold occ
      rw [pk_un hst, pk_us]
      simp
    · rw [pk_un hst, pk_us, msd_0, hK.2.1, msd_two hc own.1] at h
      rcases h with h | h <;> cases h
  · refine ⟨?_, fun _ _ => ?_⟩
    · unfold occ
      rw [pk_un hst, pk_un q2]
      have : (s == k) = false := by simpa using q2
      rw [this]
      simp
    · rw [pk_un hst, pk_un q2]
theorem S_all {z : Pz} (hi : inv z) {k : Nat} (hK : isK z.1 z.2.1 k) {S : Int64} (hS : ∀ t, t < 64 → (bt S t = true ↔ (∀ s, s < 64 → msd (z.1 s) (1 - z.2.1) = true → knpB (z.1 s) s k = true → s = t) ∧ ∀ w, w < 8 → farG z.1 (occ z.1) k (1 - z.2.1) w → seenP z.1 k w t)) : S = -1 ↔ ¬ attG z.1 (occ z.1) k (1 - z.2.1) := by
  obtain ⟨hb, hc, hr, hpp, hKK, h16, hR, hPw, hN, hE⟩ := hi
  obtain ⟨k', hK'⟩ := hKK (1 - z.2.1) (by omega)
  constructor
  · intro e h
    have := hS k hK.1
    rw [e, bt_m1 hK.1] at this
    obtain ⟨g1, g2⟩ := this.mp rfl
    rcases h with ⟨s, h1, h2, h3, h4⟩ | ⟨w, hw, hf⟩
    · rw [near_kn hb hc hK hK' hN h1 h3] at h4
      have := g1 s h1 h3 h4
      rw [this, hK.2.1, msd_two hc (kmn_own hc).1] at h3
      cases h3
    · obtain ⟨j, a1, a2, a3, _⟩ := g2 w hw hf
      exact (wsq_all w hw k hK.1 j a1 a2).2.2.2.2.2 a3.symm
  · intro h
    apply bt_ext
    intro i hi
    rw [bt_m1 hi]
    apply (hS i hi).mpr
    refine ⟨fun s hs h1 h2 => ?_, fun w hw hf => absurd (Or.inr ⟨w, hw, hf⟩) h⟩
    exact absurd (Or.inl ⟨s, hs, msd_occ h1, h1, by rw [near_kn hb hc hK hK' hN hs h1]; exact h2⟩) h
/-- behind a leap the king is safe -/
theorem saf_leap {bd : Nat → Int32} (hb : gbd bd) {c k t mid cor wa wb : Nat} (hc : c < 2) (hK : isK bd c k) (ht : t < 64) (hmid : mid < 64) (hcor : cor < 64) (hd : t ≠ k ∧ t ≠ mid ∧ t ≠ cor ∧ k ≠ mid ∧ k ≠ cor ∧ mid ≠ cor) (hl : absD (k % 8) (t % 8) = 2) (em : (k + t) / 2 = mid) (ec : lpq k t = cor) (hro : bd cor = rkm c) (h0 : bd mid = 0) (ht0 : bd t = 0) (hab : (wa = 0 ∧ wb = 4) ∨ (wa = 4 ∧ wb = 0)) (h1 : ∀ w, w < 8 → w ≠ 0 → w ≠ 4 → ∀ j, 1 ≤ j → j ≤ wln w t → wsq w t j ≠ t ∧ wsq w t j ≠ k ∧ wsq w t j ≠ mid ∧ wsq w t j ≠ cor) (h2 : 1 ≤ wln wa t ∧ wsq wa t 1 = mid) (h3 : ∀ j, 1 ≤ j → j ≤ wln wb t → wsq wb t j = cor ∨ bd (wsq wb t j) = 0 ∧ wsq wb t j ≠ mid ∧ wsq wb t j ≠ k) (hn : ¬ attG bd (occ bd) t (1 - c)) : safS bd k t 0 c = true := by
  obtain ⟨d1, d2, d3, d4, d5, d6⟩ := hd
  have k6 : kd (bd k) = 6 := by rw [hK.2.1]; exact kmn_kd
  have hep : epB bd k t = false := by
    unfold epB
    simp [k6]
  have hlp : lpB bd k t = true := by
    unfold lpB
    simp [k6, hl]
  have own := kmn_own hc
  have rown : msd (rkm c) c = true ∧ mOK (rkm c) ∧ kd (rkm c) = 4 := by
    have : c = 0 ∨ c = 1 := by omega
    rcases this with q | q <;> subst q <;> unfold mOK <;> decide
  have hmv : mvS bd k t 0 = upd (upd (upd (upd bd mid (rkm c)) cor 0) k 0) t (kmn c) := by
    unfold mvS mvL mvE
    rw [hep, hlp]
    simp only [if_true, Bool.false_eq_true, if_false]
    rw [em, ec, hro]
    have : cmS (bd k) 0 = kmn c := hK.2.1
    rw [this]
  have hbd : gbd (upd (upd (upd (upd bd mid (rkm c)) cor 0) k 0) t (kmn c)) := gbd_upd (gbd_upd (gbd_upd (gbd_upd hb hmid rown.2.1) hcor mOK_0) hK.1 mOK_0) ht own.2
  -- the new board
  have vt : upd (upd (upd (upd bd mid (rkm c)) cor 0) k 0) t (kmn c) t = kmn c := pk_us
  have vk : upd (upd (upd (upd bd mid (rkm c)) cor 0) k 0) t (kmn c) k = 0 := by rw [pk_un d1.symm, pk_us]
  have vc : upd (upd (upd (upd bd mid (rkm c)) cor 0) k 0) t (kmn c) cor = 0 := by rw [pk_un d3.symm, pk_un d5.symm, pk_us]
  have vm : upd (upd (upd (upd bd mid (rkm c)) cor 0) k 0) t (kmn c) mid = rkm c := by rw [pk_un d2.symm, pk_un d4.symm, pk_un d6, pk_us]
  have vo : ∀ s, s ≠ t → s ≠ k → s ≠ cor → s ≠ mid → upd (upd (upd (upd bd mid (rkm c)) cor 0) k 0) t (kmn c) s = bd s := by
    intro s x1 x2 x3 x4
    rw [pk_un x1, pk_un x2, pk_un x3, pk_un x4]
  rw [show safS bd k t 0 c = !(chkS (mvS bd k t 0) c) from rfl, hmv]
  generalize upd (upd (upd (upd bd mid (rkm c)) cor 0) k 0) t (kmn c) = b' at *
  have hK' : isK b' c t := by
    refine ⟨ht, vt, fun s hs e => ?_⟩
    apply Classical.byContradiction
    intro q
    by_cases q2 : s = k
    · rw [q2, vk] at e
      have := congrArg kd e
      rw [kmn_kd] at this
      exact absurd this (by decide)
    · by_cases q3 : s = cor
      · rw [q3, vc] at e
        have := congrArg kd e
        rw [kmn_kd] at this
        exact absurd this (by decide)
      · by_cases q4 : s = mid
        · rw [q4, vm] at e
          have := congrArg kd e
          rw [kmn_kd, rown.2.2] at this
          omega
        · rw [vo s q q2 q3 q4] at e
          exact q2 (hK.2.2 s hs e)
  unfold chkS
  rw [kgS_eq hK', Bool.not_eq_true', ← Bool.not_eq_true, att_iff hbd ht]
  have en : ∀ s, msd (b' s) (1 - c) = true → s ≠ t ∧ s ≠ k ∧ s ≠ cor ∧ s ≠ mid := by
    intro s h
    refine ⟨?_, ?_, ?_, ?_⟩
    · intro e
      rw [e, vt, msd_two hc own.1] at h
      cases h
    · intro e
      rw [e, vk, msd_0] at h
      cases h
    · intro e
      rw [e, vc, msd_0] at h
      cases h
    · intro e
      rw [e, vm, msd_two hc rown.1] at h
      cases h
  rintro (⟨s, x1, x2, x3, x4⟩ | ⟨w, hw, j, a1, a2, a3, a4, a5, a6⟩)
  · obtain ⟨e1, e2, e3, e4⟩ := en s x3
    rw [vo s e1 e2 e3 e4] at x3 x4
    exact hn (Or.inl ⟨s, x1, msd_occ x3, x3, x4⟩)
  · obtain ⟨e1, e2, e3, e4⟩ := en _ a4
    by_cases q : w = wa
    · rw [q] at a2 a6 e4
      rcases Nat.lt_or_ge 1 j with g | g
      · have := clr_iff.mp a6 1 (Nat.le_refl _) g
        rw [h2.2] at this
        have r := msd_occ (bd := b') (s := mid) (c := c) (by rw [vm]; exact rown.1)
        rw [r] at this
        cases this
      · have : j = 1 := by omega
        subst this
        exact e4 h2.2
    · by_cases q2 : w = wb
      · subst q2
        rcases h3 j a1 a2 with g | ⟨g, g2, g3⟩
        · exact e3 g
        · rw [vo _ e1 e2 e3 e4, g, msd_0] at a4
          cases a4
      · have w0 : w ≠ 0 ∧ w ≠ 4 := by
          rcases hab with ⟨y1, y2⟩ | ⟨y1, y2⟩
          · rw [y1] at q
            rw [y2] at q2
            exact ⟨q, q2⟩
          · rw [y1] at q
            rw [y2] at q2
            exact ⟨q2, q⟩
        rw [vo _ e1 e2 e3 e4] at a4 a5
        refine hn (Or.inr ⟨w, hw, j, a1, a2, msd_occ a4, a4, a5, clr_iff.mpr fun i y1 y2 => ?_⟩)
        have := clr_iff.mp a6 i y1 y2
        obtain ⟨z1, z2, z3, z4⟩ := h1 w hw w0.1 w0.2 i y1 (by omega)
        unfold occ at this ⊢
        rw [vo _ z1 z2 z4 z3] at this
        exact this
/-- from the squares of the first rank the other ways leave the rank -/
def offR (t a b d : Nat) : Bool := (List.range 8).all (fun w => (w == 0) || (w == 4) || (List.range (wln w t)).all (fun j => !(wsq w t (j + 1) == t) && !(wsq w t (j + 1) == a) && !(wsq w t (j + 1) == b) && !(wsq w t (j + 1) == d)))
theorem offR_e {t a b d : Nat} (h : offR t a b d = true) : ∀ w, w < 8 → w ≠ 0 → w ≠ 4 → ∀ j, 1 ≤ j → j ≤ wln w t → wsq w t j ≠ t ∧ wsq w t j ≠ a ∧ wsq w t j ≠ b ∧ wsq w t j ≠ d := by
  intro w hw h0 h4 j h1 h2
  have := all_lt h hw
  have e0 : (w == 0) = false := by simpa using h0
  have e4 : (w == 4) = false := by simpa using h4
  rw [e0, e4, Bool.false_or, Bool.false_or] at this
  have := all_lt this (i := j - 1) (by omega)
  rw [show j - 1 + 1 = j by omega] at this
  simp only [Bool.and_eq_true, Bool.not_eq_true', beq_eq_false_iff_ne] at this
  exact ⟨this.1.1.1, this.1.1.2, this.1.2, this.2⟩
theorem saf_short {bd : Nat → Int32} (hb : gbd bd) {c : Nat} (hc : c < 2) (hK : isK bd c (56 * c + 4)) (hro : bd (56 * c + 7) = rkm c) (h5 : bd (56 * c + 5) = 0) (h6 : bd (56 * c + 6) = 0) (hn : ¬ attG bd (occ bd) (56 * c + 6) (1 - c)) : safS bd (56 * c + 4) (56 * c + 6) 0 c = true := by
  have : c = 0 ∨ c = 1 := by omega
  rcases this with q | q
  · subst q
    refine saf_leap hb hc hK (mid := 5) (cor := 7) (wa := 4) (wb := 0) (by omega) (by omega) (by omega) (by omega) (by decide) (by decide) (by decide) hro h5 h6 (Or.inr ⟨rfl, rfl⟩) (offR_e (by decide)) ⟨by decide, by decide⟩ (fun j h1 h2 => ?_) hn
    have h2 : j ≤ 1 := h2
    have : j = 1 := by omega
    subst this
    exact Or.inl rfl
  · subst q
    refine saf_leap hb hc hK (mid := 61) (cor := 63) (wa := 4) (wb := 0) (by omega) (by omega) (by omega) (by omega) (by decide) (by decide) (by decide) hro h5 h6 (Or.inr ⟨rfl, rfl⟩) (offR_e (by decide)) ⟨by decide, by decide⟩ (fun j h1 h2 => ?_) hn
    have h2 : j ≤ 1 := h2
    have : j = 1 := by omega
    subst this
    exact Or.inl rfl
theorem saf_long {bd : Nat → Int32} (hb : gbd bd) {c : Nat} (hc : c < 2) (hK : isK bd c (56 * c + 4)) (hro : bd (56 * c) = rkm c) (h1 : bd (56 * c + 1) = 0) (h2 : bd (56 * c + 2) = 0) (h3 : bd (56 * c + 3) = 0) (hn : ¬ attG bd (occ bd) (56 * c + 2) (1 - c)) : safS bd (56 * c + 4) (56 * c + 2) 0 c = true := by
  have : c = 0 ∨ c = 1 := by omega
  rcases this with q | q
  · subst q
    refine saf_leap hb hc hK (mid := 3) (cor := 0) (wa := 0) (wb := 4) (by omega) (by omega) (by omega) (by omega) (by decide) (by decide) (by decide) hro h3 h2 (Or.inl ⟨rfl, rfl⟩) (offR_e (by decide)) ⟨by decide, by decide⟩ (fun j g1 g2 => ?_) hn
    have g2 : j ≤ 2 := g2
    have : j = 1 ∨ j = 2 := by omega
    rcases this with q | q
    · subst q
      exact Or.inr ⟨h1, by decide, by decide⟩
    · subst q
      exact Or.inl rfl
  · subst q
    refine saf_leap hb hc hK (mid := 59) (cor := 56) (wa := 0) (wb := 4) (by omega) (by omega) (by omega) (by omega) (by decide) (by decide) (by decide) hro h3 h2 (Or.inl ⟨rfl, rfl⟩) (offR_e (by decide)) ⟨by decide, by decide⟩ (fun j g1 g2 => ?_) hn
    have g2 : j ≤ 2 := g2
    have : j = 1 ∨ j = 2 := by omega
    rcases this with q | q
    · subst q
      exact Or.inr ⟨h1, by decide, by decide⟩
    · subst q
      exact Or.inl rfl
theorem clr_e3 {bd : Nat → Int32} {k : Nat} : clr (occ bd) 0 k 3 = true ↔ bd (k + 1) = 0 ∧ bd (k + 2) = 0 := by
  rw [clr_iff]
  constructor
  · intro h
    exact ⟨occ_f.mp (h 1 (by omega) (by omega)), occ_f.mp (h 2 (by omega) (by omega))⟩
  · rintro ⟨h1, h2⟩ j x1 x2
    have : j = 1 ∨ j = 2 := by omega
    rcases this with q | q
    · subst q; exact occ_f.mpr h1
    · subst q; exact occ_f.mpr h2
theorem clr_w4 {bd : Nat → Int32} {k : Nat} : clr (occ bd) 4 k 4 = true ↔ bd (k - 1) = 0 ∧ bd (k - 2) = 0 ∧ bd (k - 3) = 0 := by
  rw [clr_iff]
  constructor
  · intro h
    exact ⟨occ_f.mp (h 1 (by omega) (by omega)), occ_f.mp (h 2 (by omega) (by omega)), occ_f.mp (h 3 (by omega) (by omega))⟩
  · rintro ⟨h1, h2, h3⟩ j x1 x2
    have : j = 1 ∨ j = 2 ∨ j = 3 := by omega
    rcases this with q | q | q
    · subst q; exact occ_f.mpr h1
    · subst q; exact occ_f.mpr h2
    · subst q; exact occ_f.mpr h3
theorem kin_mid : ∀ c, c < 2 → kinB (56 * c + 4) (56 * c + 5) = true ∧ kinB (56 * c + 4) (56 * c + 3) = true := by decide
theorem kin_no2 {k t : Nat} (h1 : k / 8 = t / 8) (h2 : absD k t = 2) : kinB k t = false := by
  unfold kinB
  have : absD (k % 8) (t % 8) = 2 := by
    unfold absD at *
    split at h2 <;> split <;> omega
  simp [this]
theorem leg_king {z : Pz} (hi : inv z) {k t : Nat} (hK : isK z.1 z.2.1 k) (ht : t < 64) {S : Int64} {st : Nat → Bool} (hS : ∀ t, t < 64 → (bt S t = true ↔ (∀ s, s < 64 → msd (z.1 s) (1 - z.2.1) = true → knpB (z.1 s) s k = true → s = t) ∧ ∀ w, w < 8 → farG z.1 (occ z.1) k (1 - z.2.1) w → seenP z.1 k w t)) (hst : ∀ t, t < 64 → (st t = true ↔ kstP z.1 z.2.1 k t)) : leS z k t = true ↔ kstP z.1 z.2.1 k t ∨ (S = -1 ∧ byR z.1 st z.2.1 z.2.2.1 t) := by
  have hgk := inv_rgK hi
  have hSA := S_all hi hK hS
  have hi2 := hi
  obtain ⟨hb, hc, hr, hpp, hKK, h16, hR, hPw, hN, hE⟩ := hi
  have k6 : kd (z.1 k) = 6 := by rw [hK.2.1]; exact kmn_kd
  have kno : msd (z.1 k) (1 - z.2.1) = false := by rw [hK.2.1]; exact msd_two hc (kmn_own hc).1
  have hre : reachS z.1 k t = kinB k t := by
    unfold reachS
    simp only [k6]
    rfl
  -- the leaps
  have lp : klS z.1 z.2.1 z.2.2.1 k t = true ∧ msd (z.1 t) z.2.1 = false ∧ safS z.1 k t 0 z.2.1 = true ↔ S = -1 ∧ byR z.1 st z.2.1 z.2.2.1 t := by
    constructor
    · rintro ⟨h, h2, h3⟩
      unfold klS at h
      simp only [Bool.and_eq_true, decide_eq_true_eq, Bool.not_eq_true'] at h
      obtain ⟨⟨⟨⟨⟨⟨b1, b2⟩, b3⟩, b4⟩, b5⟩, b6⟩, b7⟩ := h
      have ek := hgk k hK.1 hK.2.1 _ b3
      have a5 : ¬ attG z.1 (occ z.1) k (1 - z.2.1) := by rw [← att_iff hb hK.1, b5]; decide
      have a6 : ¬ attG z.1 (occ z.1) ((k + t) / 2) (1 - z.2.1) := by rw [← att_iff hb (by have := hK.1; omega), b6]; decide
      have a7 : ¬ attG z.1 (occ z.1) t (1 - z.2.1) := by rw [← att_iff hb ht, b7]; decide
      refine ⟨hSA.mpr a5, ?_⟩
      by_cases g : k < t
      · rw [if_pos g, clr_e3] at b4
        have et : t = 56 * z.2.1 + 6 := by
          unfold absD at b2
          rw [if_pos g] at b2
          omega
        have em : (k + t) / 2 = 56 * z.2.1 + 5 := by omega
        rw [em] at a6
        have e5 : z.1 (56 * z.2.1 + 5) = 0 := by have h := b4.1; rw [show k + 1 = 56 * z.2.1 + 5 by omega] at h; exact h
        have e6 : z.1 (56 * z.2.1 + 6) = 0 := by have h := b4.2; rw [show k + 2 = 56 * z.2.1 + 6 by omega] at h; exact h
        refine Or.inl ⟨et, by simpa [g] using b3, e5, e6, (hst _ (by omega)).mpr ⟨?_, by rw [e5]; exact msd_0, fun hh => ?_⟩, by rw [← et]; exact a7⟩
        · have := (kin_mid z.2.1 hc).1
          rw [show 56 * z.2.1 + 4 = k by omega] at this
          exact this
        · exact (attG_minus (by omega) hh).elim a6 a5
      · rw [if_neg g, clr_w4] at b4
        have et : t = 56 * z.2.1 + 2 := by
          unfold absD at b2
          rw [if_neg g] at b2
          omega
        have em : (k + t) / 2 = 56 * z.2.1 + 3 := by omega
        rw [em] at a6
        have e3 : z.1 (56 * z.2.1 + 3) = 0 := by have h := b4.1; rw [show k - 1 = 56 * z.2.1 + 3 by omega] at h; exact h
        have e2 : z.1 (56 * z.2.1 + 2) = 0 := by have h := b4.2.1; rw [show k - 2 = 56 * z.2.1 + 2 by omega] at h; exact h
        have e1 : z.1 (56 * z.2.1 + 1) = 0 := by have h := b4.2.2; rw [show k - 3 = 56 * z.2.1 + 1 by omega] at h; exact h
        refine Or.inr ⟨et, by simpa [g] using b3, e1, e2, e3, (hst _ (by omega)).mpr ⟨?_, by rw [e3]; exact msd_0, fun hh => ?_⟩, by rw [← et]; exact a7⟩
        · have := (kin_mid z.2.1 hc).2
          rw [show 56 * z.2.1 + 4 = k by omega] at this
          exact this
        · exact (attG_minus (by omega) hh).elim a6 a5
    · rintro ⟨hs, h⟩
      have a5 := hSA.mp hs
      rcases h with ⟨et, b3, e5, e6, e7, e8⟩ | ⟨et, b3, e1, e2, e3, e7, e8⟩
      · have ek := hgk k hK.1 hK.2.1 _ b3
        have ek : k = 56 * z.2.1 + 4 := by omega
        have e7 := ((hst _ (by omega)).mp e7).2.2
        have a6 : ¬ attG z.1 (occ z.1) (56 * z.2.1 + 5) (1 - z.2.1) := fun hh => e7 (attG_mono kno hh)
        rw [← att_iff hb (by omega), Bool.not_eq_true] at a6 e8
        rw [← att_iff hb hK.1, Bool.not_eq_true] at a5
        have hro := (hR z.2.1 hc true b3).2
        refine ⟨?_, by rw [et, e6]; exact msd_0, ?_⟩
        · unfold klS
          have g : k < t := by omega
          have c1 : clr (occ z.1) 0 k 3 = true := clr_e3.mpr ⟨by rw [show k + 1 = 56 * z.2.1 + 5 by omega]; exact e5, by rw [show k + 2 = 56 * z.2.1 + 6 by omega]; exact e6⟩
          have d1 : absD k t = 2 := by
            unfold absD
            rw [if_pos g]
            omega
          have d2 : k / 8 = t / 8 := by omega
          rw [show (k + t) / 2 = 56 * z.2.1 + 5 by omega, a6, a5, if_pos g, c1, d1]
          rw [← et] at e8
          rw [e8]
          simp [d2, g, b3]
        · rw [et]
          subst ek
          exact saf_short hb hc hK (by simpa using hro) e5 e6 (by rw [← att_iff hb (by omega), e8]; decide)
      · have ek := hgk k hK.1 hK.2.1 _ b3
        have ek : k = 56 * z.2.1 + 4 := by omega
        have e7 := ((hst _ (by omega)).mp e7).2.2
        have a6 : ¬ attG z.1 (occ z.1) (56 * z.2.1 + 3) (1 - z.2.1) := fun hh => e7 (attG_mono kno hh)
        rw [← att_iff hb (by omega), Bool.not_eq_true] at a6 e8
        rw [← att_iff hb hK.1, Bool.not_eq_true] at a5
        have hro := (hR z.2.1 hc false b3).2
        refine ⟨?_, by rw [et, e2]; exact msd_0, ?_⟩
        · unfold klS
          have g : ¬ k < t := by omega
          have c1 : clr (occ z.1) 4 k 4 = true := clr_w4.mpr ⟨by rw [show k - 1 = 56 * z.2.1 + 3 by omega]; exact e3, by rw [show k - 2 = 56 * z.2.1 + 2 by omega]; exact e2, by rw [show k - 3 = 56 * z.2.1 + 1 by omega]; exact e1⟩
          have d1 : absD k t = 2 := by
            unfold absD
            rw [if_neg g]
            omega
          have d2 : k / 8 = t / 8 := by omega
          rw [show (k + t) / 2 = 56 * z.2.1 + 3 by omega, a6, a5, if_neg g, c1, d1]
          rw [← et] at e8
          rw [e8]
          simp [d2, g, b3]
        · rw [et]
          subst ek
          exact saf_long hb hc hK (by simpa using hro) e1 e2 e3 (by rw [← att_iff hb (by omega), e8]; decide)
  unfold leS goS
  rw [if_neg (by omega), if_pos k6, hre, Bool.and_eq_true, Bool.and_eq_true, Bool.not_eq_true', Bool.or_eq_true, ← lp]
  constructor
  · rintro ⟨⟨h1, h2 | h2⟩, h3⟩
    · exact Or.inl ⟨h2, h1, (saf_king hb hc hK ht h2 h1).mp h3⟩
    · exact Or.inr ⟨h2, h1, h3⟩
  · rintro (⟨h1, h2, h3⟩ | ⟨h1, h2, h3⟩)
    · exact ⟨⟨h2, Or.inl h1⟩, (saf_king hb hc hK ht h1 h2).mpr h3⟩
    · exact ⟨⟨h2, Or.inr h1⟩, h3⟩
