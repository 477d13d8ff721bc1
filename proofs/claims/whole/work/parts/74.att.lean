/-! When a square is attacked: by men near it, or along the ways from it. -/
def nearB (m : Int32) (s t : Nat) : Bool := (decide (kd m = 1) && pawB (if 0 < m then 0 else 1) s t) || (decide (kd m = 2) && kniB s t) || (decide (kd m = 6) && kinB s t)
def ridB (w : Nat) (m : Int32) : Bool := decide (kd m = 5) || decide (kd m = if wsl w then 3 else 4)
/-- on way w from t a rider of side c looks at t -/
def farG (bd : Nat → Int32) (oc : Nat → Bool) (t c w : Nat) : Prop := ∃ j, 1 ≤ j ∧ j ≤ wln w t ∧ oc (wsq w t j) = true ∧ msd (bd (wsq w t j)) c = true ∧ ridB w (bd (wsq w t j)) = true ∧ clr oc w t j = true
def attG (bd : Nat → Int32) (oc : Nat → Bool) (t c : Nat) : Prop := (∃ s, s < 64 ∧ oc s = true ∧ msd (bd s) c = true ∧ nearB (bd s) s t = true) ∨ ∃ w, w < 8 ∧ farG bd oc t c w
theorem clr_rev {p : Nat → Bool} {w s j : Nat} (hw : w < 8) (hs : s < 64) (h1 : 1 ≤ j) (hj : j ≤ wln w s) : clr p (wop w) (wsq w s j) j = clr p w s j := by
  obtain ⟨_, h⟩ := wop_all w hw s hs j h1 hj
  apply bool_iff
  rw [clr_iff, clr_iff]
  constructor
  · intro g i h2 h3
    have := g (j - i) (by omega) (by omega)
    rw [h (j - i) (by omega), show j - (j - i) = i by omega] at this
    exact this
  · intro g i h2 h3
    rw [h i (by omega)]
    exact g (j - i) (by omega) (by omega)
theorem msd_occ {bd : Nat → Int32} {s c : Nat} (h : msd (bd s) c = true) : occ bd s = true := by
  rw [occ_t]
  intro e
  rw [e] at h
  unfold msd at h
  split at h <;> revert h <;> decide
theorem reachS_iff {bd : Nat → Int32} (hb : gbd bd) {s t : Nat} (hs : s < 64) (ht : t < 64) : reachS bd s t = true ↔ nearB (bd s) s t = true ∨ ∃ w j, w < 8 ∧ 1 ≤ j ∧ j ≤ wln w t ∧ s = wsq w t j ∧ ridB w (bd s) = true ∧ clr (occ bd) w t j = true := by
  have hk := kd_le (hb.1 s hs)
  -- a rider's way
  have rid : ∀ (g : Bool) (k : Nat), kd (bd s) = k → (k = 3 ∧ g = slaB s t ∨ k = 4 ∧ g = strB s t ∨ k = 5 ∧ g = (strB s t || slaB s t)) → ((g && clr (occ bd) (wwy s t) s (wst s t)) = true ↔ ∃ w j, w < 8 ∧ 1 ≤ j ∧ j ≤ wln w t ∧ s = wsq w t j ∧ ridB w (bd s) = true ∧ clr (occ bd) w t j = true) := by
    intro g k hk2 hg
    constructor
    · intro h
      rw [Bool.and_eq_true] at h
      obtain ⟨h1, h2⟩ := h
      have hx : (strB s t || slaB s t) = true := by
        rcases hg with ⟨_, e⟩ | ⟨_, e⟩ | ⟨_, e⟩
        · rw [← e, h1]; simp
        · rw [← e, h1]; simp
        · rw [← e, h1]
      obtain ⟨a1, a2, a3, a4, a5⟩ := wal_all s hs t ht hx
      obtain ⟨b1, b2⟩ := wop_all _ a1 s hs _ a2 a3
      have b3 := b2 (wst s t) (Nat.le_refl _)
      rw [Nat.sub_self, wsq_0] at b3
      have b4 := clr_rev (p := occ bd) a1 hs a2 a3
      rw [a4] at b1 b3 b4
      refine ⟨wop (wwy s t), wst s t, wop_lt a1, a2, b1, b3.symm, ?_, b4.trans h2⟩
      unfold ridB
      rw [hk2, wop_sl _ a1, a5]
      rcases hg with ⟨e1, e⟩ | ⟨e1, e⟩ | ⟨e1, e⟩
      · rw [← e, h1, e1]; rfl
      · have := wsq_all _ a1 s hs _ a2 a3
        rw [a4] at this
        have h6 := this.2.2.2.2.1
        rw [← e, h1, a5] at h6
        rw [e1]
        cases hsl : slaB s t with
        | true => rw [hsl] at h6; cases h6
        | false => rfl
      · rw [e1]; rfl
    · rintro ⟨w, j, hw, h1, h2, h3, h4, h5⟩
      obtain ⟨b1, b2⟩ := wop_all w hw t ht j h1 h2
      have b3 := b2 j (Nat.le_refl _)
      rw [Nat.sub_self, wsq_0] at b3
      have b4 := clr_rev (p := occ bd) hw ht h1 h2
      rw [← h3] at b1 b3 b4
      have a := wsq_all (wop w) (wop_lt hw) s hs j h1 b1
      rw [b3] at a
      obtain ⟨_, a2, a3, a4, a5, _⟩ := a
      rw [a2, a3, b4, h5, Bool.and_true]
      rw [wop_sl w hw] at a4 a5
      unfold ridB at h4
      rw [hk2] at h4
      rcases hg with ⟨e1, e⟩ | ⟨e1, e⟩ | ⟨e1, e⟩
      · rw [e1] at h4
        rw [e, a4]
        cases hsl : wsl w with
        | true => rfl
        | false => rw [hsl] at h4; revert h4; decide
      · rw [e1] at h4
        rw [e, a5]
        cases hsl : wsl w with
        | true => rw [hsl] at h4; revert h4; decide
        | false => rfl
      · rw [e, a4, a5]
        cases wsl w <;> rfl
  have nor : ∀ w, ¬ (kd (bd s) = 3 ∨ kd (bd s) = 4 ∨ kd (bd s) = 5) → ¬ ridB w (bd s) = true := by
    intro w hn h
    unfold ridB at h
    simp only [Bool.or_eq_true, decide_eq_true_eq] at h
    rcases h with q | q
    · exact hn (by omega)
    · split at q
      · exact hn (by omega)
      · exact hn (by omega)
  unfold reachS
  have : kd (bd s) = 0 ∨ kd (bd s) = 1 ∨ kd (bd s) = 2 ∨ kd (bd s) = 3 ∨ kd (bd s) = 4 ∨ kd (bd s) = 5 ∨ kd (bd s) = 6 := by omega
  have nn : ∀ k, kd (bd s) = k → ¬ (k = 3 ∨ k = 4 ∨ k = 5) → ∀ b : Bool, ((b = true) ↔ (b = true ∨ ∃ w j, w < 8 ∧ 1 ≤ j ∧ j ≤ wln w t ∧ s = wsq w t j ∧ ridB w (bd s) = true ∧ clr (occ bd) w t j = true)) := by
    intro k e h b
    constructor
    · exact Or.inl
    · rintro (q | ⟨w, j, _, _, _, _, q, _⟩)
      · exact q
      · exact absurd q (nor w (by rw [e]; exact h))
  rcases this with q | q | q | q | q | q | q
  · have e : nearB (bd s) s t = false := by unfold nearB; simp [q]
    rw [e]
    simp only [q]
    exact nn 0 q (by omega) false
  · have e : nearB (bd s) s t = pawB (if 0 < bd s then 0 else 1) s t := by unfold nearB; simp [q]
    rw [e]
    simp only [q]
    exact nn 1 q (by omega) _
  · have e : nearB (bd s) s t = kniB s t := by unfold nearB; simp [q]
    rw [e]
    simp only [q]
    exact nn 2 q (by omega) _
  · have e : nearB (bd s) s t = false := by unfold nearB; simp [q]
    rw [e]
    simp only [q]
    rw [show (false = true ∨ _) ↔ _ from or_iff_right (by decide)]
    exact rid _ 3 q (Or.inl ⟨rfl, rfl⟩)
  · have e : nearB (bd s) s t = false := by unfold nearB; simp [q]
    rw [e]
    simp only [q]
    rw [show (false = true ∨ _) ↔ _ from or_iff_right (by decide)]
    exact rid _ 4 q (Or.inr (Or.inl ⟨rfl, rfl⟩))
  · have e : nearB (bd s) s t = false := by unfold nearB; simp [q]
    rw [e]
    simp only [q]
    rw [show (false = true ∨ _) ↔ _ from or_iff_right (by decide)]
    exact rid _ 5 q (Or.inr (Or.inr ⟨rfl, rfl⟩))
  · have e : nearB (bd s) s t = kinB s t := by unfold nearB; simp [q]
    rw [e]
    simp only [q]
    exact nn 6 q (by omega) _
theorem att_iff {bd : Nat → Int32} (hb : gbd bd) {t c : Nat} (ht : t < 64) : attS bd t c = true ↔ attG bd (occ bd) t c := by
  unfold attS attG
  rw [anyB_iff]
  constructor
  · rintro ⟨s, hs, h⟩
    rw [Bool.and_eq_true, reachS_iff hb hs ht] at h
    obtain ⟨h1, h2 | ⟨w, j, hw, a1, a2, a3, a4, a5⟩⟩ := h
    · exact Or.inl ⟨s, hs, msd_occ h1, h1, h2⟩
    · subst a3
      exact Or.inr ⟨w, hw, j, a1, a2, msd_occ h1, h1, a4, a5⟩
  · rintro (⟨s, hs, _, h1, h2⟩ | ⟨w, hw, j, a1, a2, _, a3, a4, a5⟩)
    · exact ⟨s, hs, by rw [Bool.and_eq_true, reachS_iff hb hs ht]; exact ⟨h1, Or.inl h2⟩⟩
    · have hs := wsq_lt hw ht a1 a2
      exact ⟨_, hs, by rw [Bool.and_eq_true, reachS_iff hb hs ht]; exact ⟨a3, Or.inr ⟨w, j, hw, a1, a2, rfl, a4, a5⟩⟩⟩
