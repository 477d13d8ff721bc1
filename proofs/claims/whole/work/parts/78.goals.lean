/-! The class: the goals of a man who is not the king. -/
/-- a rider on f reaches what he sees -/
theorem rider_seen {bd : Nat → Int32} {f t : Nat} (hf : f < 64) (ht : t < 64) (hk : kd (bd f) = 3 ∨ kd (bd f) = 4 ∨ kd (bd f) = 5) : reachS bd f t = true ↔ ∃ w, w < 8 ∧ ridB w (bd f) = true ∧ seenP bd f w t := by
  have key : ∀ g : Bool, ((kd (bd f) = 3 ∧ g = slaB f t) ∨ (kd (bd f) = 4 ∧ g = strB f t) ∨ (kd (bd f) = 5 ∧ g = (strB f t || slaB f t))) → ((g && clr (occ bd) (wwy f t) f (wst f t)) = true ↔ ∃ w, w < 8 ∧ ridB w (bd f) = true ∧ seenP bd f w t) := by
    intro g hg
    constructor
    · intro h
      rw [Bool.and_eq_true] at h
      obtain ⟨h1, h2⟩ := h
      have hx : (strB f t || slaB f t) = true := by
        rcases hg with ⟨_, e⟩ | ⟨_, e⟩ | ⟨_, e⟩
        · rw [← e, h1]; simp
        · rw [← e, h1]; simp
        · rw [← e, h1]
      obtain ⟨a1, a2, a3, a4, a5⟩ := wal_all f hf t ht hx
      refine ⟨wwy f t, a1, ?_, wst f t, a2, a3, a4.symm, h2⟩
      unfold ridB
      rw [a5]
      rcases hg with ⟨e1, e⟩ | ⟨e1, e⟩ | ⟨e1, e⟩
      · rw [← e, h1, e1]; rfl
      · have := wsq_all _ a1 f hf _ a2 a3
        rw [a4] at this
        have h6 := this.2.2.2.2.1
        rw [← e, h1, a5] at h6
        rw [e1]
        cases hsl : slaB f t with
        | true => rw [hsl] at h6; cases h6
        | false => rfl
      · rw [e1]; rfl
    · rintro ⟨w, hw, h4, j, h1, h2, h3, h5⟩
      have a := wsq_all w hw f hf j h1 h2
      rw [← h3] at a
      obtain ⟨_, a2, a3, a4, a5, _⟩ := a
      rw [a2, a3, h5, Bool.and_true]
      unfold ridB at h4
      rcases hg with ⟨e1, e⟩ | ⟨e1, e⟩ | ⟨e1, e⟩
      · rw [e1] at h4
        rw [e, a4]
        cases hsl : wsl w with
        | true => rfl
        | false => rw [hsl] at h4; revert h4; decide
      · rw [e1] at h4
        rw [e, a5]
        cases hsl : wsl w with
        | true => rw [hsl] at h4; revert h4; decide
        | false => rfl
      · rw [e, a4, a5]
        cases wsl w <;> rfl
  unfold reachS
  rcases hk with q | q | q
  · simp only [q]
    exact key _ (Or.inl ⟨q, rfl⟩)
  · simp only [q]
    exact key _ (Or.inr (Or.inl ⟨q, rfl⟩))
  · simp only [q]
    exact key _ (Or.inr (Or.inr ⟨q, rfl⟩))
theorem j9_abs {m : Int32} (h : mOK m) : m_J9_abs_0f7a4 m = some (nI (kd m)) := by
  rcases mOK_cases h with q | q | q | q | q | q | q | q | q | q | q | q | q <;> subst q <;> decide
set_option maxRecDepth 100000 in
theorem goesA_tb : (List.range 7).all (fun k => (List.range 8).all (fun w => decide (m_X3_goesAlong (nI k) (nI w) = some (bI (decide (k = 5) || decide (k = if wsl w then 3 else 4)))))) = true := by decide +kernel
theorem x3_goesAlong {m : Int32} (hm : mOK m) {w : Nat} (hw : w < 8) : m_X3_goesAlong (nI (kd m)) (nI w) = some (bI (ridB w m)) := of_decide_eq_true (all_lt (all_lt goesA_tb (i := kd m) (by have := kd_le hm; omega)) hw)
theorem reach_l {bd : Nat → Int32} {rays kns kgs pws : Nat → Int64} (hT : lnT rays kns kgs pws) {f : Nat} (hf : f < 64) (hm : mOK (bd f)) {all : Int64} (hall : ∀ s, s < 64 → bt all s = occ bd s) : ∀ (d w n : Nat) (X : Int64), w + d = 8 → ∃ X', m_X3_reach_l18 rays kns (n + d + 1) (nI (kd (bd f))) (nI f) all X (nI w) = some X' ∧ ∀ t, t < 64 → (bt X' t = true ↔ bt X t = true ∨ ∃ v, w ≤ v ∧ v < 8 ∧ ridB v (bd f) = true ∧ seenP bd f v t) := by
  intro d
  induction d with
  | zero =>
    intro w n X e
    have e : w = 8 := by omega
    subst e
    refine ⟨X, ?_, fun t _ => ⟨Or.inl, ?_⟩⟩
    · rw [m_X3_reach_l18_s]
      unfold m_X3_reach_b18
      rw [if_pos (by decide)]
    · rintro (h | ⟨v, h1, h2, _⟩)
      · exact h
      · omega
  | succ d ih =>
    intro w n X e
    have hw : w < 8 := by omega
    have hn : ¬ (8 : Int32) ≤ nI w := nI_ge (b := 8) (by omega) (by omega)
    obtain ⟨L, hL1, hL2⟩ := x3_along hT hw hf all
    have seen : ∀ t, t < 64 → (bt L t = true ↔ seenP bd f w t) := by
      intro t ht
      rw [hL2 t ht]
      unfold seenP
      constructor
      · rintro ⟨j, a1, a2, a3, a4⟩
        exact ⟨j, a1, a2, a3, by rw [← clr_cong hall hw hf (by omega)]; exact a4⟩
      · rintro ⟨j, a1, a2, a3, a4⟩
        exact ⟨j, a1, a2, a3, by rw [clr_cong hall hw hf (by omega)]; exact a4⟩
    rw [show n + (d + 1) + 1 = n + d + 1 + 1 from rfl, m_X3_reach_l18_s]
    unfold m_X3_reach_b18 m_X3_reach_b47
    rw [if_neg hn, ob_s (x3_goesAlong hm hw), bI_if, ob_s hL1, ol_r, ol_r, ol_r, nI_1]
    cases hr : ridB w (bd f) with
    | false =>
      obtain ⟨X', e1, e2⟩ := ih (w + 1) n X (by omega)
      refine ⟨X', e1, fun t ht => ?_⟩
      rw [e2 t ht]
      constructor
      · rintro (h | ⟨v, a, b, c⟩)
        · exact Or.inl h
        · exact Or.inr ⟨v, by omega, b, c⟩
      · rintro (h | ⟨v, a, b, c⟩)
        · exact Or.inl h
        · refine Or.inr ⟨v, ?_, b, c⟩
          rcases Nat.lt_or_ge w v with q | q
          · omega
          · have : v = w := by omega
            subst this
            rw [hr] at c
            cases c.1
    | true =>
      obtain ⟨X', e1, e2⟩ := ih (w + 1) n (X ||| L) (by omega)
      refine ⟨X', e1, fun t ht => ?_⟩
      rw [e2 t ht, bt_or, Bool.or_eq_true, seen t ht]
      constructor
      · rintro ((h | h) | ⟨v, a, b, c⟩)
        · exact Or.inl h
        · exact Or.inr ⟨w, Nat.le_refl _, hw, hr, h⟩
        · exact Or.inr ⟨v, by omega, b, c⟩
      · rintro (h | ⟨v, a, b, c⟩)
        · exact Or.inl (Or.inl h)
        · rcases Nat.lt_or_ge w v with q | q
          · exact Or.inr ⟨v, by omega, b, c⟩
          · have : v = w := by omega
            subst this
            exact Or.inl (Or.inr c.2)
/-- where knights, bishops, rooks and queens reach -/
theorem x3_reach {bd : Nat → Int32} {rays kns kgs pws : Nat → Int64} (hT : lnT rays kns kgs pws) {f : Nat} (hf : f < 64) (hm : mOK (bd f)) (hk : kd (bd f) = 2 ∨ kd (bd f) = 3 ∨ kd (bd f) = 4 ∨ kd (bd f) = 5) {all : Int64} (hall : ∀ s, s < 64 → bt all s = occ bd s) : ∃ X, m_X3_reach rays kns (nI (kd (bd f))) (nI f) all = some X ∧ ∀ t, t < 64 → (bt X t = true ↔ reachS bd f t = true) := by
  have e2 : nI (kd (bd f)) = 2 ↔ kd (bd f) = 2 := nI_eq2 (by have := kd_le hm; omega)
  unfold m_X3_reach
  by_cases q : kd (bd f) = 2
  · rw [if_pos (e2.mpr q), oin_n (by omega) (by omega), nI_clamp (by omega)]
    refine ⟨_, rfl, fun t ht => ?_⟩
    rw [(hT.2 f t hf ht).1]
    unfold reachS
    simp only [q]
    exact Iff.rfl
  · rw [if_neg (fun z => q (e2.mp z))]
    obtain ⟨X, h1, h2⟩ := reach_l hT hf hm hall 8 0 (kF - 9) 0 (by omega)
    have e : kF - 9 + 8 + 1 = kF := by unfold kF; omega
    rw [e] at h1
    refine ⟨X, h1, fun t ht => ?_⟩
    rw [h2 t ht, bt_zero, rider_seen hf ht (by omega)]
    constructor
    · rintro (h | ⟨v, _, a, b⟩)
      · cases h
      · exact ⟨v, a, b⟩
    · rintro ⟨v, a, b⟩
      exact Or.inr ⟨v, by omega, a, b⟩
theorem rayThrough_l {rays kns kgs pws : Nat → Int64} (hT : lnT rays kns kgs pws) {k f w0 : Nat} (hk : k < 64) (hf : f < 64) (hw0 : w0 < 8) (hr0 : rayB w0 k f = true) : ∀ (d w n : Nat), w + d = 8 → w ≤ w0 → ∃ L, m_X3_rayThrough_l2 rays (n + d + 1) (nI k) (nI f) (nI w) = some L ∧ ∀ t, t < 64 → bt L t = rayB w0 k t := by
  intro d
  induction d with
  | zero =>
    intro w n e h
    omega
  | succ d ih =>
    intro w n e h
    have hw : w < 8 := by omega
    have hn : ¬ (8 : Int32) ≤ nI w := nI_ge (b := 8) (by omega) (by omega)
    have ei : nI w * 64 + nI k = nI (w * 64 + k) := by
      have : nI w * 64 = nI (w * 64) := pk_mul w 64
      rw [this, nI_add]
    rw [show n + (d + 1) + 1 = n + d + 1 + 1 from rfl, m_X3_rayThrough_l2_s]
    unfold m_X3_rayThrough_b2
    rw [if_neg hn, ei, oin_n (by omega) (by omega), nI_clamp (by omega), ol_r, ol_r, nI_1]
    have e1 := bt_test (rays (w * 64 + k)) hf
    rw [hT.1 w k f hw hk hf] at e1
    cases q : rayB w k f with
    | false =>
      rw [if_pos (e1.mpr q)]
      apply ih (w + 1) n (by omega)
      rcases Nat.lt_or_ge w w0 with g | g
      · omega
      · have : w = w0 := by omega
        subst this
        rw [hr0] at q
        cases q
    | true =>
      rw [if_neg (fun z => by rw [e1.mp z] at q; cases q)]
      refine ⟨_, rfl, fun t ht => ?_⟩
      rw [hT.1 w k t hw hk ht]
      obtain ⟨i, a1, a2, a3⟩ := (ray_iff hw hk hf).mp q
      obtain ⟨j, b1, b2, b3⟩ := (ray_iff hw0 hk hf).mp hr0
      rw [(wsq_inj hw hw0 hk a1 a2 b1 b2 (a3.symm.trans b3)).1]
theorem x3_rayThrough {rays kns kgs pws : Nat → Int64} (hT : lnT rays kns kgs pws) {k f w0 : Nat} (hk : k < 64) (hf : f < 64) (hw0 : w0 < 8) (hr0 : rayB w0 k f = true) : ∃ L, m_X3_rayThrough rays (nI k) (nI f) = some L ∧ ∀ t, t < 64 → bt L t = rayB w0 k t := by
  obtain ⟨L, h1, h2⟩ := rayThrough_l hT hk hf hw0 hr0 8 0 (kF - 9) (by omega) (by omega)
  have e : kF - 9 + 8 + 1 = kF := by unfold kF; omega
  rw [e] at h1
  exact ⟨L, h1, h2⟩
/-- where a pawn goes, but for the passed square -/
def pnP (bd : Nat → Int32) (c f t : Nat) : Prop := (pawB c f t = true ∧ msd (bd t) (1 - c) = true) ∨ (t = upS c f ∧ bd t = 0) ∨ (t = upS c (upS c f) ∧ rkS c f = 1 ∧ bd (upS c f) = 0 ∧ bd t = 0)
set_option maxRecDepth 100000 in
theorem upI_tb : (List.range 2).all (fun c => (List.range 64).all (fun f => !(Nat.ble 8 f && Nat.blt f 56) || (decide (nI f + (if c = 0 then 8 else -8) = nI (upS c f)) && Nat.blt (upS c f) 64))) = true := by decide +kernel
theorem upI_all {c f : Nat} (hc : c < 2) (h1 : 8 ≤ f) (h2 : f < 56) : nI f + (if c = 0 then 8 else -8) = nI (upS c f) ∧ upS c f < 64 := by
  have := all_lt (all_lt upI_tb hc) (i := f) (by omega)
  have e1 : Nat.ble 8 f = true := Nat.ble_eq_true_of_le h1
  have e2 : Nat.blt f 56 = true := by simpa [Nat.blt_eq] using h2
  rw [e1, e2] at this
  simp only [Bool.and_self, Bool.not_true, Bool.false_or, Bool.and_eq_true, decide_eq_true_eq] at this
  exact ⟨this.1, by simpa [Nat.blt_eq] using this.2⟩
set_option maxRecDepth 100000 in
theorem upII_tb : (List.range 2).all (fun c => (List.range 64).all (fun f => !(rkS c f == 1) || (decide (nI f + (2 : Int32) * (if c = 0 then 8 else -8) = nI (upS c (upS c f))) && Nat.blt (upS c (upS c f)) 64))) = true := by decide +kernel
theorem upII_all {c f : Nat} (hc : c < 2) (hf : f < 64) (h : rkS c f = 1) : nI f + (2 : Int32) * (if c = 0 then 8 else -8) = nI (upS c (upS c f)) ∧ upS c (upS c f) < 64 := by
  have := all_lt (all_lt upII_tb hc) hf
  rw [h] at this
  simp only [beq_self_eq_true, Bool.not_true, Bool.false_or, Bool.and_eq_true, decide_eq_true_eq] at this
  exact ⟨this.1, by simpa [Nat.blt_eq] using this.2⟩
theorem x9_upOf {c : Nat} (hc : c < 2) : m_X9_upOf (nI c) = some (if c = 0 then 8 else -8) := by
  have : c = 0 ∨ c = 1 := by omega
  rcases this with q | q <;> subst q <;> decide
theorem x2_pawnGoals {bd : Nat → Int32} {kinds sides rays kns kgs pws : Nat → Int64} (hT : lnT rays kns kgs pws) (hB : brP bd kinds sides) {c f : Nat} (hc : c < 2) (h1 : 8 ≤ f) (h2 : f < 56) {all : Int64} (hall : ∀ s, s < 64 → bt all s = occ bd s) : ∃ X, m_X2_pawnGoals all (nI c) sides pws (nI f) = some X ∧ ∀ t, t < 64 → (bt X t = true ↔ pnP bd c f t) := by
  obtain ⟨u1, u2⟩ := upI_all hc h1 h2
  have eo : (1 : Int32) - nI c = nI (1 - c) := pk_sub (a := 1) (by omega)
  have ei : nI c * 64 + nI f = nI (c * 64 + f) := by
    have : nI c * 64 = nI (c * 64) := pk_mul c 64
    rw [this, nI_add]
  have hp : ∀ t, t < 64 → bt (pws (c * 64 + f)) t = pawB c f t := by
    intro t ht
    have : c = 0 ∨ c = 1 := by omega
    rcases this with q | q
    · subst q
      rw [show 0 * 64 + f = f by omega]
      exact (hT.2 f t (by omega) ht).2.2.1
    · subst q
      rw [show 1 * 64 + f = 64 + f by omega]
      exact (hT.2 f t (by omega) ht).2.2.2
  have e8 : nI f / 8 = nI (f / 8) := pk_div (d := 8) (by omega) (by omega) (by omega)
  have er : ∀ x : Int32, (if c = 0 then x = 1 else x = 6) → (nI (f / 8) = x ↔ rkS c f = 1) := by
    intro x hx
    unfold rkS
    by_cases q : c = 0
    · rw [if_pos q] at hx
      subst hx
      rw [if_pos q]
      exact nI_eq1 (by omega)
    · rw [if_neg q] at hx
      subst hx
      rw [if_neg q]
      have : nI (f / 8) = 6 ↔ f / 8 = 6 := nI_eq (b := 6) (by omega) (by omega)
      rw [this]
      omega
  have free : all &&& ((1 : Int64) <<< ((nI (upS c f)).toInt64 &&& 63)) = 0 ↔ bd (upS c f) = 0 := by
    constructor
    · intro h
      have : bt (all &&& ((1 : Int64) <<< ((nI (upS c f)).toInt64 &&& 63))) (upS c f) = false := by rw [h, bt_zero]
      rw [bt_and, bt_bit u2 u2, hall _ u2] at this
      simp at this
      exact occ_f.mp this
    · intro h
      apply bt_ext
      intro i hi
      rw [bt_and, bt_bit u2 hi, hall i hi, bt_zero]
      by_cases q : i = upS c f
      · subst q
        rw [occ_f.mpr h]
        rfl
      · simp [q]
  unfold m_X2_pawnGoals
  rw [ob_s (x9_upOf hc), ei, oin_n (by omega) (by omega), eo, oin_n (by omega) (by omega), nI_clamp (by omega), nI_clamp (by omega), ol_r, u1, ol_r]
  simp only [lg0]
  by_cases q : bd (upS c f) = 0
  · rw [if_pos (free.mpr q), ol_r]
    have key : ∀ x : Int32, (if c = 0 then x = 1 else x = 6) → ∃ X, m_X2_pawnGoals_b84 all (nI c) sides pws (nI f) (if c = 0 then 8 else -8) ((pws (c * 64 + f) &&& sides (1 - c)) ||| ((1 : Int64) <<< ((nI (upS c f)).toInt64 &&& 63))) (nI f / 8) x = some X ∧ ∀ t, t < 64 → (bt X t = true ↔ pnP bd c f t) := by
      intro x hx
      unfold m_X2_pawnGoals_b84 m_X2_pawnGoals_b108
      rw [e8]
      have ex := er x hx
      by_cases g : rkS c f = 1
      · obtain ⟨w1, w2⟩ := upII_all hc (by omega) g
        rw [if_pos (ex.mpr g), w1, ol_r]
        refine ⟨_, rfl, fun t ht => ?_⟩
        rw [bt_or, bt_or, bt_and, hp t ht, hB.2 (1 - c) t (by omega) ht, bt_bit u2 ht, bt_and, bt_bit w2 ht, bt_not _ ht, hall t ht]
        unfold pnP
        simp only [Bool.or_eq_true, Bool.and_eq_true, decide_eq_true_eq, Bool.not_eq_true', occ_f]
        constructor
        · rintro ((h | h) | h)
          · exact Or.inl h
          · exact Or.inr (Or.inl ⟨h, by rw [h]; exact q⟩)
          · exact Or.inr (Or.inr ⟨h.1, g, q, h.2⟩)
        · rintro (h | h | h)
          · exact Or.inl (Or.inl h)
          · exact Or.inl (Or.inr h.1)
          · exact Or.inr ⟨h.1, h.2.2.2⟩
      · rw [if_neg (fun z => g (ex.mp z))]
        refine ⟨_, rfl, fun t ht => ?_⟩
        rw [bt_or, bt_and, hp t ht, hB.2 (1 - c) t (by omega) ht, bt_bit u2 ht]
        unfold pnP
        simp only [Bool.or_eq_true, Bool.and_eq_true, decide_eq_true_eq]
        constructor
        · rintro (h | h)
          · exact Or.inl h
          · exact Or.inr (Or.inl ⟨h, by rw [h]; exact q⟩)
        · rintro (h | h | h)
          · exact Or.inl h
          · exact Or.inr h.1
          · exact absurd h.2.1 g
    have : c = 0 ∨ c = 1 := by omega
    rcases this with z | z
    · subst z
      rw [if_pos (by decide)]
      exact key 1 rfl
    · subst z
      rw [if_neg (by decide)]
      exact key 6 rfl
  · rw [if_neg (fun z => q (free.mp z))]
    refine ⟨_, rfl, fun t ht => ?_⟩
    rw [bt_and, hp t ht, hB.2 (1 - c) t (by omega) ht]
    unfold pnP
    rw [Bool.and_eq_true]
    constructor
    · exact Or.inl
    · rintro (h | h | h)
      · exact h
      · rw [h.1] at h
        exact absurd h.2 q
      · exact absurd h.2.2.1 q
/-- where a man who is not the king goes, but for the passed square -/
def pseP (bd : Nat → Int32) (c f t : Nat) : Prop := if kd (bd f) = 1 then pnP bd c f t else reachS bd f t = true ∧ msd (bd t) c = false
theorem x2_goalsOf {bd : Nat → Int32} (hb : gbd bd) {kinds sides rays kns kgs pws : Nat → Int64} (hT : lnT rays kns kgs pws) (hB : brP bd kinds sides) {c k f p : Nat} (hc : c < 2) (hk : k < 64) (hf : f < 64) (h6 : kd (bd f) ≠ 6) (h0 : kd (bd f) ≠ 0) (hp1 : kd (bd f) = 1 → 8 ≤ f ∧ f < 56) {own all S P Q : Int64} (hown : ∀ s, s < 64 → bt own s = msd (bd s) c) (hall : ∀ s, s < 64 → bt all s = occ bd s) (hP : bt P f = true → ∃ w, w < 8 ∧ rayB w k f = true) (hQ : bt Q f = true → p < 64) : ∃ X, m_X2_goalsOf own all (nI k) S P Q (nI c) (pI p) bd sides rays kns pws (nI f) = some X ∧ ∀ t, t < 64 → (bt X t = true ↔ (pseP bd c f t ∧ bt S t = true ∧ (bt P f = true → ∀ w, w < 8 → rayB w k f = true → rayB w k t = true)) ∨ (bt Q f = true ∧ t = p)) := by
  have hm := hb.1 f hf
  have c1 : nI (kd (bd f)) = 1 ↔ kd (bd f) = 1 := nI_eq1 (by have := kd_le hm; omega)
  -- from the pseudo goals on
  have keyA : ∀ X : Int64, ∃ Y, m_X2_goalsOf_b84 own all (nI k) S P Q (nI c) (pI p) bd sides rays kns pws (nI f) X = some Y ∧ ∀ t, t < 64 → (bt Y t = true ↔ bt X t = true ∨ (bt Q f = true ∧ t = p)) := by
    intro X
    unfold m_X2_goalsOf_b84 m_X2_goalsOf_b109
    have e1 := bt_test Q hf
    cases q : bt Q f with
    | false =>
      rw [if_pos (e1.mpr q)]
      exact ⟨X, rfl, fun t _ => ⟨Or.inl, fun h => h.elim id (fun g => by cases g.1)⟩⟩
    | true =>
      have hp := hQ q
      rw [if_neg (fun z => by rw [e1.mp z] at q; cases q), ol_r, pI_lt hp]
      refine ⟨_, rfl, fun t ht => ?_⟩
      rw [bt_or, bt_bit hp ht, Bool.or_eq_true, decide_eq_true_eq]
      simp
  have keyB : ∀ X : Int64, (∀ t, t < 64 → (bt X t = true ↔ pseP bd c f t)) → ∃ Y, m_X2_goalsOf_b48 own all (nI k) S P Q (nI c) (pI p) bd sides rays kns pws (nI f) X = some Y ∧ ∀ t, t < 64 → (bt Y t = true ↔ (pseP bd c f t ∧ bt S t = true ∧ (bt P f = true → ∀ w, w < 8 → rayB w k f = true → rayB w k t = true)) ∨ (bt Q f = true ∧ t = p)) := by
    intro X hX
    unfold m_X2_goalsOf_b48
    have e1 := bt_test P hf
    rw [ol_r]
    cases q : bt P f with
    | false =>
      rw [if_pos (e1.mpr q)]
      obtain ⟨Y, a1, a2⟩ := keyA (X &&& S)
      refine ⟨Y, a1, fun t ht => ?_⟩
      rw [a2 t ht, bt_and, Bool.and_eq_true, hX t ht]
      simp
    | true =>
      rw [if_neg (fun z => by rw [e1.mp z] at q; cases q)]
      obtain ⟨w, hw, hr⟩ := hP q
      obtain ⟨L, l1, l2⟩ := x3_rayThrough hT hk hf hw hr
      rw [ob_s l1, ol_r]
      obtain ⟨Y, a1, a2⟩ := keyA ((X &&& S) &&& L)
      refine ⟨Y, a1, fun t ht => ?_⟩
      rw [a2 t ht, bt_and, bt_and, Bool.and_eq_true, Bool.and_eq_true, hX t ht, l2 t ht]
      constructor
      · rintro (⟨⟨h1, h2⟩, h3⟩ | h)
        · refine Or.inl ⟨h1, h2, fun _ v hv hr2 => ?_⟩
          obtain ⟨i, x1, x2, x3⟩ := (ray_iff hw hk hf).mp hr
          obtain ⟨j, y1, y2, y3⟩ := (ray_iff hv hk hf).mp hr2
          rw [← (wsq_inj hw hv hk x1 x2 y1 y2 (x3.symm.trans y3)).1]
          exact h3
        · exact Or.inr h
      · rintro (⟨h1, h2, h3⟩ | h)
        · exact Or.inl ⟨⟨h1, h2⟩, h3 rfl w hw hr⟩
        · exact Or.inr h
  unfold m_X2_goalsOf
  rw [oin_n (by omega) (by omega), nI_clamp (by omega), ob_s (j9_abs hm)]
  by_cases q : kd (bd f) = 1
  · rw [if_pos (c1.mpr q)]
    obtain ⟨X, x1, x2⟩ := x2_pawnGoals hT hB hc (hp1 q).1 (hp1 q).2 hall
    rw [ob_s x1]
    apply keyB X
    intro t ht
    rw [x2 t ht]
    unfold pseP
    rw [if_pos q]
  · rw [if_neg (fun z => q (c1.mp z))]
    obtain ⟨X, x1, x2⟩ := x3_reach hT hf hm (by have := kd_le hm; omega) hall
    rw [ob_s x1]
    apply keyB
    intro t ht
    rw [bt_and, bt_not _ ht, hown t ht, Bool.and_eq_true, Bool.not_eq_true', x2 t ht]
    unfold pseP
    rw [if_neg q]
