/-! When a move leaves the own king safe. -/
/-- k is the only square with the king of side c -/
def isK (bd : Nat → Int32) (c k : Nat) : Prop := k < 64 ∧ bd k = kmn c ∧ ∀ s, s < 64 → bd s = kmn c → s = k
theorem kgS_eq {bd : Nat → Int32} {c k : Nat} (h : isK bd c k) : kgS bd c 64 = k := by
  have : ∀ n, n ≤ 64 → k < n → kgS bd c n = k := by
    intro n
    induction n with
    | zero => intro _ h; omega
    | succ n ih =>
      intro h1 h2
      unfold kgS
      by_cases q : bd n = kmn c
      · rw [if_pos q]
        exact h.2.2 n (by omega) q
      · rw [if_neg q]
        apply ih (by omega)
        rcases Nat.lt_succ_iff_lt_or_eq.mp h2 with g | g
        · exact g
        · subst g; exact absurd h.2.1 q
  exact this 64 (Nat.le_refl _) h.1
theorem attG_cong {bd bd' : Nat → Int32} {oc oc' : Nat → Bool} {t c : Nat} (ht : t < 64) (h : ∀ s, s < 64 → s ≠ t → oc s = oc' s ∧ (oc s = true → msd (bd s) c = true ∨ msd (bd' s) c = true → bd s = bd' s)) : attG bd oc t c ↔ attG bd' oc' t c := by
  have nself : ∀ m : Int32, nearB m t t = false := by
    intro m
    unfold nearB pawB kniB kinB absD
    simp
  have cl : ∀ w j, w < 8 → 1 ≤ j → j ≤ wln w t → clr oc w t j = clr oc' w t j := by
    intro w j hw h1 h2
    apply bool_iff
    rw [clr_iff, clr_iff]
    constructor
    · intro g i a b
      rw [← (h _ (wsq_lt hw ht a (by omega)) (wsq_all w hw t ht i a (by omega)).2.2.2.2.2).1]
      exact g i a b
    · intro g i a b
      rw [(h _ (wsq_lt hw ht a (by omega)) (wsq_all w hw t ht i a (by omega)).2.2.2.2.2).1]
      exact g i a b
  constructor
  · rintro (⟨s, hs, h1, h2, h3⟩ | ⟨w, hw, j, a1, a2, a3, a4, a5, a6⟩)
    · have hst : s ≠ t := by
        intro e
        subst e
        rw [nself] at h3
        cases h3
      obtain ⟨e1, e2⟩ := h s hs hst
      have e3 := e2 h1 (Or.inl h2)
      rw [e3] at h2 h3
      exact Or.inl ⟨s, hs, e1 ▸ h1, h2, h3⟩
    · have hs := wsq_all w hw t ht j a1 a2
      obtain ⟨e1, e2⟩ := h _ hs.1 hs.2.2.2.2.2
      have e3 := e2 a3 (Or.inl a4)
      rw [e3] at a4 a5
      rw [e1] at a3
      rw [cl w j hw a1 a2] at a6
      exact Or.inr ⟨w, hw, j, a1, a2, a3, a4, a5, a6⟩
  · rintro (⟨s, hs, h1, h2, h3⟩ | ⟨w, hw, j, a1, a2, a3, a4, a5, a6⟩)
    · have hst : s ≠ t := by
        intro e
        subst e
        rw [nself] at h3
        cases h3
      obtain ⟨e1, e2⟩ := h s hs hst
      rw [← e1] at h1
      have e3 := e2 h1 (Or.inr h2)
      rw [← e3] at h2 h3
      exact Or.inl ⟨s, hs, h1, h2, h3⟩
    · have hs := wsq_all w hw t ht j a1 a2
      obtain ⟨e1, e2⟩ := h _ hs.1 hs.2.2.2.2.2
      rw [← e1] at a3
      have e3 := e2 a3 (Or.inr a4)
      rw [← e3] at a4 a5
      rw [← cl w j hw a1 a2] at a6
      exact Or.inr ⟨w, hw, j, a1, a2, a3, a4, a5, a6⟩
/-- from k on way w one sees as far as t -/
def seenP (bd : Nat → Int32) (k w t : Nat) : Prop := ∃ j, 1 ≤ j ∧ j ≤ wln w k ∧ t = wsq w k j ∧ clr (occ bd) w k j = true
def rayP (k w t : Nat) : Prop := ∃ j, 1 ≤ j ∧ j ≤ wln w k ∧ t = wsq w k j
/-- the man on f is all that stands between k and a rider of side c on way w -/
def pinP (bd : Nat → Int32) (k c w f : Nat) : Prop := seenP bd k w f ∧ farG bd (fun s => occ bd s && !(s == f)) k c w
/-- no man is jumped over -/
def pthP (bd : Nat → Int32) (k w f t : Nat) : Prop := ∀ a b, 1 ≤ a → a ≤ wln w k → 1 ≤ b → b ≤ wln w k → f = wsq w k a → t = wsq w k b → ∀ i, a < i → i < b → bd (wsq w k i) = 0
theorem msd_0 {c : Nat} : msd 0 c = false := by
  unfold msd
  split <;> decide
theorem msd_two {m : Int32} {c : Nat} (hc : c < 2) (h : msd m c = true) : msd m (1 - c) = false := by
  unfold msd at *
  have : c = 0 ∨ c = 1 := by omega
  rcases this with q | q
  · subst q
    simp at h ⊢
    exact Int32.le_of_lt h
  · subst q
    simp at h ⊢
    exact Int32.le_of_lt h
theorem far_move {bd bd' : Nat → Int32} {k c f t : Nat} (hc : c < 2) (hk : k < 64) {w : Nat} (hw : w < 8) (hf : msd (bd f) c = true) (ho : ∀ s, s < 64 → occ bd' s = (decide (s = t) || (!decide (s = f) && occ bd s))) (hm : ∀ s, s < 64 → msd (bd' s) (1 - c) = (!decide (s = t) && msd (bd s) (1 - c))) (he : ∀ s, s < 64 → msd (bd' s) (1 - c) = true → bd' s = bd s) (hp : pthP bd k w f t) : farG bd' (occ bd') k (1 - c) w ↔ (farG bd (occ bd) k (1 - c) w ∧ ¬ seenP bd k w t) ∨ (pinP bd k (1 - c) w f ∧ ¬ rayP k w t) := by
  have hfo : ¬ bd f = 0 := occ_t.mp (msd_occ hf)
  have hf2 := msd_two hc hf
  constructor
  · rintro ⟨j, a1, a2, a3, a4, a5, a6⟩
    have hl := wsq_lt hw hk a1 a2
    have e := he _ hl a4
    rw [e] at a5
    rw [hm _ hl, Bool.and_eq_true] at a4
    obtain ⟨b1, b2⟩ := a4
    have b1 : wsq w k j ≠ t := by simpa using b1
    have b3 : ∀ i, 1 ≤ i → i < j → wsq w k i ≠ t ∧ (wsq w k i = f ∨ bd (wsq w k i) = 0) := by
      intro i h1 h2
      have := clr_iff.mp a6 i h1 h2
      rw [ho _ (wsq_lt hw hk h1 (by omega)), Bool.or_eq_false_iff, Bool.and_eq_false_iff] at this
      refine ⟨by simpa using this.1, ?_⟩
      rcases this.2 with q | q
      · exact Or.inl (by simpa using q)
      · exact Or.inr (occ_f.mp q)
    by_cases g : ∃ a, 1 ≤ a ∧ a < j ∧ wsq w k a = f
    · obtain ⟨a, g1, g2, g3⟩ := g
      refine Or.inr ⟨⟨⟨a, g1, by omega, g3.symm, clr_iff.mpr fun i h1 h2 => ?_⟩, ⟨j, a1, a2, ?_, b2, a5, clr_iff.mpr fun i h1 h2 => ?_⟩⟩, ?_⟩
      · rw [occ_f]
        rcases (b3 i h1 (by omega)).2 with q | q
        · rw [← g3] at q
          have := (wsq_inj hw hw hk h1 (by omega) g1 (by omega) q).2
          omega
        · exact q
      · show (occ bd (wsq w k j) && !(wsq w k j == f)) = true
        rw [msd_occ b2]
        have : wsq w k j ≠ f := by
          intro q
          rw [q, hf2] at b2
          cases b2
        simp [this]
      · show (occ bd (wsq w k i) && !(wsq w k i == f)) = false
        rcases (b3 i h1 h2).2 with q | q
        · simp [q]
        · rw [occ_f.mpr q]; rfl
      · rintro ⟨b, c1, c2, c3⟩
        have : j < b := by
          apply Classical.byContradiction
          intro q
          rcases Nat.lt_or_ge b j with q2 | q2
          · exact (b3 b c1 q2).1 c3.symm
          · have : b = j := by omega
            subst this
            exact b1 c3.symm
        have := hp a b g1 (by omega) c1 c2 g3.symm c3 j g2 this
        rw [this] at b2
        revert b2
        unfold msd
        split <;> decide
    · have b4 : clr (occ bd) w k j = true := clr_iff.mpr fun i h1 h2 => by
        rw [occ_f]
        rcases (b3 i h1 h2).2 with q | q
        · exact absurd ⟨i, h1, h2, q⟩ g
        · exact q
      refine Or.inl ⟨⟨j, a1, a2, msd_occ b2, b2, a5, b4⟩, ?_⟩
      rintro ⟨b, c1, c2, c3, c4⟩
      rcases Nat.lt_trichotomy b j with q | q | q
      · exact (b3 b c1 q).1 c3.symm
      · subst q
        exact b1 c3.symm
      · have := clr_iff.mp c4 j a1 q
        rw [msd_occ b2] at this
        cases this
  · rintro (⟨⟨j, a1, a2, a3, a4, a5, a6⟩, h⟩ | ⟨⟨_, ⟨j, a1, a2, a3, a4, a5, a6⟩⟩, h⟩)
    · have hl := wsq_lt hw hk a1 a2
      have n : ∀ i, 1 ≤ i → i ≤ j → wsq w k i ≠ t := by
        intro i h1 h2 q
        exact h ⟨i, h1, by omega, q.symm, clr_iff.mpr fun i' b1 b2 => clr_iff.mp a6 i' b1 (by omega)⟩
      have m1 : msd (bd' (wsq w k j)) (1 - c) = true := by
        rw [hm _ hl, a4]
        simp [n j a1 (Nat.le_refl _)]
      refine ⟨j, a1, a2, msd_occ m1, m1, ?_, clr_iff.mpr fun i h1 h2 => ?_⟩
      · rw [he _ hl m1]; exact a5
      · rw [ho _ (wsq_lt hw hk h1 (by omega)), clr_iff.mp a6 i h1 h2]
        simp [n i h1 (by omega)]
    · have hl := wsq_lt hw hk a1 a2
      have n : ∀ i, 1 ≤ i → i ≤ j → wsq w k i ≠ t := by
        intro i h1 h2 q
        exact h ⟨i, h1, by omega, q.symm⟩
      have m1 : msd (bd' (wsq w k j)) (1 - c) = true := by
        rw [hm _ hl, a4]
        simp [n j a1 (Nat.le_refl _)]
      refine ⟨j, a1, a2, msd_occ m1, m1, ?_, clr_iff.mpr fun i h1 h2 => ?_⟩
      · rw [he _ hl m1]; exact a5
      · have := clr_iff.mp a6 i h1 h2
        have this : (occ bd (wsq w k i) && !(wsq w k i == f)) = false := this
        rw [ho _ (wsq_lt hw hk h1 (by omega))]
        simp only [n i h1 (by omega), decide_false, Bool.false_or]
        rw [Bool.and_comm]
        rw [show decide (wsq w k i = f) = (wsq w k i == f) from rfl]
        exact this
theorem cmS_own {m : Int32} (hm : mOK m) {c : Nat} (hc : c < 2) (h : msd m c = true) {u : Nat} (hu : u ≤ 5) : msd (cmS m u) c = true ∧ (kd m ≠ 6 → kd (cmS m u) ≠ 6) := by
  have h5 : u = 0 ∨ u = 1 ∨ u = 2 ∨ u = 3 ∨ u = 4 ∨ u = 5 := by omega
  have hc2 : c = 0 ∨ c = 1 := by omega
  rcases hc2 with e | e <;> subst e <;> rcases mOK_cases hm with q | q | q | q | q | q | q | q | q | q | q | q | q <;> subst q <;> first | (exfalso; revert h; decide) | (rcases h5 with r | r | r | r | r | r <;> subst r <;> decide)
theorem kmn_kd {c : Nat} : kd (kmn c) = 6 := by
  unfold kmn
  split <;> decide
theorem kmn_own {c : Nat} (hc : c < 2) : msd (kmn c) c = true ∧ mOK (kmn c) := by
  have : c = 0 ∨ c = 1 := by omega
  rcases this with q | q <;> subst q <;> unfold mOK <;> decide
/-- the board behind a plain move -/
theorem mvS_plain {bd : Nat → Int32} {f t u : Nat} (he : epB bd f t = false) (hl : lpB bd f t = false) : mvS bd f t u = upd (upd bd f 0) t (cmS (bd f) u) := by
  unfold mvS mvL mvE
  rw [he, hl]
  rfl
theorem isK_plain {bd : Nat → Int32} (hb : gbd bd) {c k f t u : Nat} (hc : c < 2) (hK : isK bd c k) (hf : f < 64) (hu : u ≤ 5) (hs : msd (bd f) c = true) (h6 : kd (bd f) ≠ 6) (ht : msd (bd t) c = false) : isK (upd (upd bd f 0) t (cmS (bd f) u)) c k := by
  obtain ⟨h1, h2, h3⟩ := hK
  obtain ⟨o1, o2⟩ := cmS_own (hb.1 f hf) hc hs hu
  have kf : k ≠ f := by
    intro e
    rw [← e, h2, kmn_kd] at h6
    exact h6 rfl
  have kt : k ≠ t := by
    intro e
    rw [← e, h2, (kmn_own hc).1] at ht
    cases ht
  refine ⟨h1, ?_, fun s hs' e => ?_⟩
  · rw [pk_un kt, pk_un kf]; exact h2
  · by_cases q : s = t
    · subst q
      rw [pk_us] at e
      have := o2 h6
      rw [e, kmn_kd] at this
      exact absurd rfl this
    · rw [pk_un q] at e
      by_cases q2 : s = f
      · subst q2
        rw [pk_us] at e
        have := kmn_kd (c := c)
        rw [← e] at this
        exact absurd this (by decide)
      · rw [pk_un q2] at e
        exact h3 s hs' e
theorem saf_plain {bd : Nat → Int32} (hb : gbd bd) {c k f t u : Nat} (hc : c < 2) (hK : isK bd c k) (hf : f < 64) (ht : t < 64) (hu : u ≤ 5) (hs : msd (bd f) c = true) (h6 : kd (bd f) ≠ 6) (hto : msd (bd t) c = false) (he : epB bd f t = false) (hp : ∀ w, w < 8 → pthP bd k w f t) : safS bd f t u c = true ↔ (∀ s, s < 64 → msd (bd s) (1 - c) = true → nearB (bd s) s k = true → s = t) ∧ ∀ w, w < 8 → (farG bd (occ bd) k (1 - c) w → seenP bd k w t) ∧ (pinP bd k (1 - c) w f → rayP k w t) := by
  have hl : lpB bd f t = false := by
    unfold lpB
    simp [h6]
  have hK' := isK_plain hb hc hK hf hu hs h6 hto
  obtain ⟨o1, o2⟩ := cmS_own (hb.1 f hf) hc hs hu
  have hbd : gbd (upd (upd bd f 0) t (cmS (bd f) u)) := gbd_upd (gbd_upd hb hf mOK_0) ht (mOK_cmS (hb.1 f hf) hu)
  unfold safS chkS
  rw [mvS_plain he hl, kgS_eq hK', Bool.not_eq_true', ← Bool.not_eq_true, att_iff hbd hK.1]
  have o1' := msd_two hc o1
  have hs' := msd_two hc hs
  have hoc : ∀ s, s < 64 → occ (upd (upd bd f 0) t (cmS (bd f) u)) s = (decide (s = t) || (!decide (s = f) && occ bd s)) := by
    intro s _
    by_cases q : s = t
    · subst q
      have : occ (upd (upd bd f 0) s (cmS (bd f) u)) s = true := by
        apply msd_occ (c := c)
        rw [pk_us]; exact o1
      rw [this]
      simp
    · by_cases q2 : s = f
      · subst q2
        unfold occ
        rw [pk_un q, pk_us]
        simp [q]
      · unfold occ
        rw [pk_un q, pk_un q2]
        simp [q, q2]
  have hm : ∀ s, s < 64 → msd (upd (upd bd f 0) t (cmS (bd f) u) s) (1 - c) = (!decide (s = t) && msd (bd s) (1 - c)) := by
    intro s _
    by_cases q : s = t
    · subst q
      rw [pk_us, o1']
      simp
    · by_cases q2 : s = f
      · subst q2
        rw [pk_un q, pk_us, hs']
        unfold msd
        simp
      · rw [pk_un q, pk_un q2]
        simp [q]
  have he' : ∀ s, s < 64 → msd (upd (upd bd f 0) t (cmS (bd f) u) s) (1 - c) = true → upd (upd bd f 0) t (cmS (bd f) u) s = bd s := by
    intro s h1 h2
    by_cases q : s = t
    · subst q
      rw [pk_us, o1'] at h2
      cases h2
    · by_cases q2 : s = f
      · subst q2
        rw [pk_un q, pk_us, msd_0] at h2
        cases h2
      · rw [pk_un q, pk_un q2]
  constructor
  · intro h
    refine ⟨fun s h1 h2 h3 => ?_, fun w hw => ⟨fun h1 => ?_, fun h1 => ?_⟩⟩
    · apply Classical.byContradiction
      intro q
      apply h
      have : msd (upd (upd bd f 0) t (cmS (bd f) u) s) (1 - c) = true := by
        rw [hm s h1, h2]
        simp [q]
      refine Or.inl ⟨s, h1, msd_occ this, this, ?_⟩
      rw [he' s h1 this]
      exact h3
    · apply Classical.byContradiction
      intro q
      exact h (Or.inr ⟨w, hw, (far_move hc hK.1 hw hs hoc hm he' (hp w hw)).mpr (Or.inl ⟨h1, q⟩)⟩)
    · apply Classical.byContradiction
      intro q
      exact h (Or.inr ⟨w, hw, (far_move hc hK.1 hw hs hoc hm he' (hp w hw)).mpr (Or.inr ⟨h1, q⟩)⟩)
  · rintro ⟨h1, h2⟩ (⟨s, hs2, a1, a2, a3⟩ | ⟨w, hw, h3⟩)
    · have e := he' s hs2 a2
      rw [hm s hs2, Bool.and_eq_true] at a2
      rw [e] at a3
      have := h1 s hs2 a2.2 a3
      simp [this] at a2
    · rcases (far_move hc hK.1 hw hs hoc hm he' (hp w hw)).mp h3 with ⟨a, b⟩ | ⟨a, b⟩
      · exact b ((h2 w hw).1 a)
      · exact b ((h2 w hw).2 a)
