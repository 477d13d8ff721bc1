/-! The class: pawns that take by the passed square; the king's goals. -/
theorem cb_pos {p : Nat → Bool} : ∀ {n : Nat}, 0 < cb p n → ∃ i, i < n ∧ p i = true
  | 0, h => by cases h
  | n + 1, h => by
    rw [cb_s] at h
    cases q : p n with
    | true => exact ⟨n, by omega, q⟩
    | false =>
      rw [q] at h
      obtain ⟨i, h1, h2⟩ := cb_pos (p := p) (n := n) (by simpa [b2n] using h)
      exact ⟨i, by omega, h2⟩
theorem cb_drop1 {p q : Nat → Bool} {k : Nat} (hp : p k = true) (hq : ∀ i, q i = (p i && decide (i ≠ k))) : ∀ {n : Nat}, k < n → cb q n + 1 = cb p n
  | 0, h => by omega
  | n + 1, h => by
    rw [cb_s, cb_s]
    by_cases g : k < n
    · have := cb_drop1 hp hq g
      have e : q n = p n := by
        rw [hq n]
        have : n ≠ k := by omega
        simp [this]
      rw [e]
      omega
    · have : k = n := by omega
      subst this
      rw [hp]
      have e : q k = false := by
        rw [hq k]
        simp
      rw [e]
      have : cb q k = cb p k := cb_cong (fun i hi => by
        rw [hq i]
        have : i ≠ k := by omega
        simp [this])
      rw [this]
      rfl
theorem cb_drop_least {x : Int64} {a : Nat} (h : leastB x a) : cb (bt (x &&& (x - 1))) 64 + 1 = cb (bt x) 64 := by
  have e : cb (bt (x &&& (x - 1))) 64 = cb (fun i => bt x i && decide (i ≠ a)) 64 := cb_cong (fun i hi => bt_drop h hi)
  rw [e]
  exact cb_drop1 h.2.1 (fun i => rfl) h.1
theorem cb_drop_low {x : Int64} {a : Nat} (h : leastB x a) : cb (bt (x &&& ((x &&& -x) ^^^ (-1)))) 64 + 1 = cb (bt x) 64 := by
  have e : cb (bt (x &&& ((x &&& -x) ^^^ (-1)))) 64 = cb (fun i => bt x i && decide (i ≠ a)) 64 := cb_cong (fun i hi => by
    rw [bt_and, bt_not _ hi, bt_low h hi]
    simp)
  rw [e]
  exact cb_drop1 h.2.1 (fun i => rfl) h.1
theorem ne0_cb {x : Int64} {d : Nat} (h : cb (bt x) 64 = d + 1) : ¬ x = 0 := by
  obtain ⟨i, h1, h2⟩ := cb_pos (p := bt x) (n := 64) (by omega)
  exact bt_ne0.mpr ⟨i, h1, h2⟩
theorem eq0_cb {x : Int64} (h : cb (bt x) 64 = 0) : ∀ i, i < 64 → bt x i = false := by
  intro i hi
  cases q : bt x i with
  | false => rfl
  | true =>
    have e := cb_drop1 (p := bt x) (q := fun j => bt x j && decide (j ≠ i)) q (fun _ => rfl) hi
    omega
theorem nI_m1' (n : Nat) : nI (n + 1) + (-1) = nI n := pk_m1 n
/-- occupied behind the taking by the passed square p by the pawn on f -/
def epO (bd : Nat → Int32) (c p f s : Nat) : Bool := ((occ bd s && !(s == dnS c p)) || (s == p)) && !(s == f)
theorem passers_l {bd : Nat → Int32} (hb : gbd bd) {kinds sides rays kns kgs pws : Nat → Int64} (hT : lnT rays kns kgs pws) (hB : brP bd kinds sides) {c k : Nat} (hc : c < 2) (hK : isK bd c k) (v : Int32) (beh : Int64) : ∀ (d n : Nat) (left set : Int64), cb (bt left) 64 = d → ∃ X, m_X0_passers_l93 (nI c) v kinds sides rays kns kgs pws (n + d + 1) (nI (1 - c)) left beh set (nI d) = some X ∧ ∀ f, f < 64 → (bt X f = true ↔ bt set f = true ∨ (bt left f = true ∧ ¬ attG bd (fun s => bt beh s && !(s == f)) k (1 - c))) := by
  intro d
  induction d with
  | zero =>
    intro n left set e
    refine ⟨set, ?_, fun f hf => ⟨Or.inl, ?_⟩⟩
    · rw [m_X0_passers_l93_s]
      unfold m_X0_passers_b93
      rw [if_pos (by decide)]
    · rintro (h | ⟨h, _⟩)
      · exact h
      · rw [eq0_cb e f hf] at h
        cases h
  | succ d ih =>
    intro n left set e
    obtain ⟨a, ha⟩ := leastB_ex (ne0_cb e)
    have hd := cb_drop_low ha
    have h64 := cb_le (bt left) 64
    obtain ⟨b, s1, s2⟩ := x0_isStruck hT hB hK.1 (c := 1 - c) (by omega) (beh &&& ((left &&& -left) ^^^ (-1)))
    have ebits : ∀ s, s < 64 → bt (beh &&& ((left &&& -left) ^^^ (-1))) s = (bt beh s && !(s == a)) := by
      intro s hs
      rw [bt_and, bt_not _ hs, bt_low ha hs]
      rfl
    rw [attG_occ ebits hK.1] at s2
    have lbits : ∀ f, f < 64 → bt (left &&& ((left &&& -left) ^^^ (-1))) f = (bt left f && decide (f ≠ a)) := by
      intro f hf
      rw [bt_and, bt_not _ hf, bt_low ha hf]
      simp
    rw [show n + (d + 1) + 1 = n + d + 1 + 1 from rfl, m_X0_passers_l93_s]
    unfold m_X0_passers_b93 m_X0_passers_b145
    rw [if_neg (nI_nle (by omega) (by omega)), ol_r, ol_r, ob_s (x0_kingOf hb hB hc hK), ob_s s1, bI_if, ol_r, ol_r, ol_r, nI_m1']
    cases b with
    | true =>
      obtain ⟨X, x1, x2⟩ := ih n (left &&& ((left &&& -left) ^^^ (-1))) set (by omega)
      refine ⟨X, x1, fun f hf => ?_⟩
      rw [x2 f hf, lbits f hf, Bool.and_eq_true, decide_eq_true_eq]
      constructor
      · rintro (h | ⟨⟨h1, h2⟩, h3⟩)
        · exact Or.inl h
        · exact Or.inr ⟨h1, h3⟩
      · rintro (h | ⟨h1, h3⟩)
        · exact Or.inl h
        · refine Or.inr ⟨⟨h1, ?_⟩, h3⟩
          intro q
          subst q
          exact h3 (s2.mp rfl)
    | false =>
      obtain ⟨X, x1, x2⟩ := ih n (left &&& ((left &&& -left) ^^^ (-1))) (set ||| (left &&& -left)) (by omega)
      refine ⟨X, x1, fun f hf => ?_⟩
      rw [x2 f hf, lbits f hf, bt_or, bt_low ha hf, Bool.and_eq_true, Bool.or_eq_true, decide_eq_true_eq, decide_eq_true_eq]
      constructor
      · rintro ((h | h) | ⟨⟨h1, h2⟩, h3⟩)
        · exact Or.inl h
        · subst h
          exact Or.inr ⟨ha.2.1, fun g => by have := s2.mpr g; cases this⟩
        · exact Or.inr ⟨h1, h3⟩
      · rintro (h | ⟨h1, h3⟩)
        · exact Or.inl (Or.inl h)
        · by_cases q : f = a
          · exact Or.inl (Or.inr q)
          · exact Or.inr ⟨⟨h1, q⟩, h3⟩
theorem dnS_lt {c q : Nat} (hc : c < 2) (hq : q < 64) (h1 : c = 1 → q < 56) : dnS c q < 64 := by
  unfold dnS
  split
  · omega
  · have := h1 (by omega)
    omega
theorem pawn_man {m : Int32} (hm : mOK m) {c : Nat} (hc : c < 2) : (kd m = 1 ∧ msd m c = true) ↔ m = pmn c := by
  have : c = 0 ∨ c = 1 := by omega
  rcases this with e | e <;> subst e <;> rcases mOK_cases hm with q | q | q | q | q | q | q | q | q | q | q | q | q <;> subst q <;> decide
theorem x0_passers {bd : Nat → Int32} (hb : gbd bd) {kinds sides rays kns kgs pws : Nat → Int64} (hT : lnT rays kns kgs pws) (hB : brP bd kinds sides) {c k p : Nat} (hc : c < 2) (hK : isK bd c k) (hp : p ≤ 64) (h0 : p < 64 → c = 0 → 8 ≤ p) (h1 : p < 64 → c = 1 → p < 56) : ∃ X, m_X0_passers (nI c) (pI p) kinds sides rays kns kgs pws = some X ∧ ∀ f, f < 64 → (bt X f = true ↔ p < 64 ∧ bd f = pmn c ∧ pawB c f p = true ∧ ¬ attG bd (epO bd c p f) k (1 - c)) := by
  unfold m_X0_passers
  by_cases q : p < 64
  · have hp1 : ¬ pI p = -1 := by
      rw [← pI_no]
      intro h
      have := (pI_inj hp (Nat.le_refl _)).mp h
      omega
    have eo : (1 : Int32) - nI c = nI (1 - c) := pk_sub (a := 1) (by omega)
    have ei : nI (1 - c) * 64 + nI p = nI ((1 - c) * 64 + p) := by
      have : nI (1 - c) * 64 = nI ((1 - c) * 64) := pk_mul (1 - c) 64
      rw [this, nI_add]
    obtain ⟨E, hE1, hE2⟩ := x0_everyone hB
    have hdn := dnS_lt hc q (h1 q)
    have hpw : ∀ s, s < 64 → bt (pws ((1 - c) * 64 + p)) s = pawB c s p := by
      intro s hs
      rw [← pawB_rev hc]
      have : c = 0 ∨ c = 1 := by omega
      rcases this with z | z
      · subst z
        exact (hT.2 p s q hs).2.2.2
      · subst z
        rw [show (1 - 1) * 64 + p = p by omega]
        exact (hT.2 p s q hs).2.2.1
    rw [if_neg hp1, ol_r, eo, pI_lt q, ei, oin_n (by omega) (by omega), oin_n (by omega) (by omega), nI_clamp (by omega), nI_clamp (by omega), ol_r, ob_s hE1, ob_s (x9_upOf hc), dnS_eq hc (h0 q), ol_r, ob_s (bitCount_eq _)]
    simp only [tc1]
    obtain ⟨X, x1, x2⟩ := passers_l hb hT hB hc hK (nI p) ((E &&& (((1 : Int64) <<< ((nI (dnS c p)).toInt64 &&& 63)) ^^^ (-1))) ||| ((1 : Int64) <<< ((nI p).toInt64 &&& 63))) (cb (bt ((pws ((1 - c) * 64 + p) &&& kinds 1) &&& sides c)) 64) (kF - 1 - cb (bt ((pws ((1 - c) * 64 + p) &&& kinds 1) &&& sides c)) 64) ((pws ((1 - c) * 64 + p) &&& kinds 1) &&& sides c) 0 rfl
    have hle := cb_le (bt ((pws ((1 - c) * 64 + p) &&& kinds 1) &&& sides c)) 64
    have e : kF - 1 - cb (bt ((pws ((1 - c) * 64 + p) &&& kinds 1) &&& sides c)) 64 + cb (bt ((pws ((1 - c) * 64 + p) &&& kinds 1) &&& sides c)) 64 + 1 = kF := by unfold kF; omega
    rw [e] at x1
    refine ⟨X, x1, fun f hf => ?_⟩
    rw [x2 f hf, bt_zero, bt_and, bt_and, hpw f hf, hB.1 1 f (by omega) (by omega) hf, hB.2 c f hc hf]
    have eb : ∀ s, s < 64 → (bt ((E &&& (((1 : Int64) <<< ((nI (dnS c p)).toInt64 &&& 63)) ^^^ (-1))) ||| ((1 : Int64) <<< ((nI p).toInt64 &&& 63))) s && !(s == f)) = epO bd c p f s := by
      intro s hs
      rw [bt_or, bt_and, bt_not _ hs, bt_bit hdn hs, bt_bit q hs, hE2 s hs]
      rfl
    rw [attG_occ eb hK.1, ← pawn_man (hb.1 f hf) hc]
    simp only [Bool.and_eq_true, decide_eq_true_eq]
    constructor
    · rintro (h | ⟨⟨⟨a1, a2⟩, a3⟩, a4⟩)
      · cases h
      · exact ⟨q, ⟨a2, a3⟩, a1, a4⟩
    · rintro ⟨_, ⟨a2, a3⟩, a1, a4⟩
      exact Or.inr ⟨⟨⟨a1, a2⟩, a3⟩, a4⟩
  · have : p = 64 := by omega
    subst this
    rw [if_pos pI_no]
    refine ⟨0, rfl, fun f hf => ?_⟩
    rw [bt_zero]
    exact ⟨fun h => (by cases h), fun h => absurd h.1 q⟩
theorem bt96 : ∀ j, j < 64 → bt 96 j = (decide (j = 5) || decide (j = 6)) := by decide +kernel
theorem bt14 : ∀ j, j < 64 → bt 14 j = (decide (j = 1) || decide (j = 2) || decide (j = 3)) := by decide +kernel
theorem mask0 {bd : Nat → Int32} {all M : Int64} (hall : ∀ s, s < 64 → bt all s = occ bd s) {o : Nat} (ho : o ≤ 56) (hM : ∀ j, j < 64 → bt M j = true → j < 8) : all &&& (M <<< ((nI o).toInt64 &&& 63)) = 0 ↔ ∀ j, j < 8 → bt M j = true → bd (o + j) = 0 := by
  constructor
  · intro h j hj hm
    have : bt (all &&& (M <<< ((nI o).toInt64 &&& 63))) (o + j) = false := by rw [h, bt_zero]
    rw [bt_and, bt_shl M (by omega) (by omega), hall _ (by omega), show o + j - o = j by omega, hm] at this
    simp at this
    exact occ_f.mp this
  · intro h
    apply bt_ext
    intro i hi
    rw [bt_and, bt_shl M (by omega) hi, hall i hi, bt_zero]
    by_cases q : o ≤ i
    · cases g : bt M (i - o) with
      | false => simp
      | true =>
        have h8 := hM _ (by omega) g
        have := h (i - o) h8 g
        rw [show o + (i - o) = i by omega] at this
        rw [occ_f.mpr this]
        rfl
    · simp [q]
/-- what the rights let the king do, steps being where else he goes -/
def byR (bd : Nat → Int32) (st : Nat → Bool) (c r t : Nat) : Prop :=
  (t = 56 * c + 6 ∧ rtB r c true = true ∧ bd (56 * c + 5) = 0 ∧ bd (56 * c + 6) = 0 ∧ st (56 * c + 5) = true ∧ ¬ attG bd (occ bd) (56 * c + 6) (1 - c)) ∨
  (t = 56 * c + 2 ∧ rtB r c false = true ∧ bd (56 * c + 1) = 0 ∧ bd (56 * c + 2) = 0 ∧ bd (56 * c + 3) = 0 ∧ st (56 * c + 3) = true ∧ ¬ attG bd (occ bd) (56 * c + 2) (1 - c))
theorem rtr_tb : (List.range 16).all (fun r => (List.range 2).all (fun c => (decide (((nI r >>> (((2 : Int32) * nI c) &&& 31)) &&& 1) = 0) == !(rtB r c true)) && (decide (((nI r >>> (((2 : Int32) * nI c) &&& 31)) &&& 2) = 0) == !(rtB r c false)))) = true := by decide +kernel
theorem rtr_all {r c : Nat} (hr : r < 16) (hc : c < 2) : (((nI r >>> (((2 : Int32) * nI c) &&& 31)) &&& 1) = 0 ↔ rtB r c true = false) ∧ (((nI r >>> (((2 : Int32) * nI c) &&& 31)) &&& 2) = 0 ↔ rtB r c false = false) := by
  have := all_lt (all_lt rtr_tb hr) hc
  simp only [Bool.and_eq_true, beq_iff_eq] at this
  obtain ⟨a, b⟩ := this
  constructor
  · rw [← decide_eq_true_eq (p := ((nI r >>> (((2 : Int32) * nI c) &&& 31)) &&& 1) = 0), a]
    simp
  · rw [← decide_eq_true_eq (p := ((nI r >>> (((2 : Int32) * nI c) &&& 31)) &&& 2) = 0), b]
    simp
theorem x2_goalsByRight {bd : Nat → Int32} {kinds sides rays kns kgs pws : Nat → Int64} (hT : lnT rays kns kgs pws) (hB : brP bd kinds sides) {c r : Nat} (hc : c < 2) (hr : r < 16) {all : Int64} (hall : ∀ s, s < 64 → bt all s = occ bd s) (st : Int64) : ∃ X, m_X2_goalsByRight all (nI c) (nI r) kinds sides rays kns kgs pws st = some X ∧ ∀ t, t < 64 → (bt X t = true ↔ byR bd (bt st) c r t) := by
  have eo : (1 : Int32) - nI c = nI (1 - c) := pk_sub (a := 1) (by omega)
  have e56 : (56 : Int32) * nI c = nI (56 * c) := pk_mul 56 c
  have a6 : nI (56 * c) + 6 = nI (56 * c + 6) := nI_add _ 6
  have a5 : nI (56 * c) + 5 = nI (56 * c + 5) := nI_add _ 5
  have a3 : nI (56 * c) + 3 = nI (56 * c + 3) := nI_add _ 3
  have a2 : nI (56 * c) + 2 = nI (56 * c + 2) := nI_add _ 2
  obtain ⟨r1, r2⟩ := rtr_all hr hc
  obtain ⟨b6, s6, t6⟩ := x0_isStruck hT hB (t := 56 * c + 6) (c := 1 - c) (by omega) (by omega) all
  obtain ⟨b2, s2, t2⟩ := x0_isStruck hT hB (t := 56 * c + 2) (c := 1 - c) (by omega) (by omega) all
  rw [attG_occ hall (by omega)] at t6 t2
  have m96 := mask0 (M := 96) hall (o := 56 * c) (by omega) (fun j hj h => by rw [bt96 j hj] at h; simp at h; omega)
  have m14 := mask0 (M := 14) hall (o := 56 * c) (by omega) (fun j hj h => by rw [bt14 j hj] at h; simp at h; omega)
  have f96 : all &&& ((96 : Int64) <<< ((nI (56 * c)).toInt64 &&& 63)) = 0 ↔ bd (56 * c + 5) = 0 ∧ bd (56 * c + 6) = 0 := by
    rw [m96]
    constructor
    · intro h
      exact ⟨h 5 (by omega) (by decide), h 6 (by omega) (by decide)⟩
    · rintro ⟨h5, h6⟩ j hj h
      rw [bt96 j (by omega)] at h
      simp at h
      rcases h with q | q <;> subst q <;> assumption
  have f14 : all &&& ((14 : Int64) <<< ((nI (56 * c)).toInt64 &&& 63)) = 0 ↔ bd (56 * c + 1) = 0 ∧ bd (56 * c + 2) = 0 ∧ bd (56 * c + 3) = 0 := by
    rw [m14]
    constructor
    · intro h
      exact ⟨h 1 (by omega) (by decide), h 2 (by omega) (by decide), h 3 (by omega) (by decide)⟩
    · rintro ⟨h1, h2, h3⟩ j hj h
      rw [bt14 j (by omega)] at h
      simp at h
      rcases h with (q | q) | q <;> subst q <;> assumption
  -- the long one
  have long : ∀ (x7 : Bool) (X8 : Int64) (A : Nat → Prop), (x7 = true ↔ bd (56 * c + 1) = 0 ∧ bd (56 * c + 2) = 0 ∧ bd (56 * c + 3) = 0 ∧ bt st (56 * c + 3) = true) → (∀ t, t < 64 → (bt X8 t = true ↔ A t)) → ∃ X, m_X2_goalsByRight_b160 all (nI c) (nI r) kinds sides rays kns kgs pws (nI (1 - c)) (nI (56 * c)) (nI r >>> (((2 : Int32) * nI c) &&& 31)) (bI x7) X8 = some X ∧ ∀ t, t < 64 → (bt X t = true ↔ A t ∨ (t = 56 * c + 2 ∧ rtB r c false = true ∧ bd (56 * c + 1) = 0 ∧ bd (56 * c + 2) = 0 ∧ bd (56 * c + 3) = 0 ∧ bt st (56 * c + 3) = true ∧ ¬ attG bd (occ bd) (56 * c + 2) (1 - c))) := by
    intro x7 X8 A h7 h8
    unfold m_X2_goalsByRight_b160 m_X2_goalsByRight_b202
    rw [a2, ob_s s2, bI_if, bI_if, ol_r]
    cases hR : rtB r c false with
    | false =>
      rw [if_pos (r2.mpr hR)]
      exact ⟨X8, rfl, fun t ht => (h8 t ht).trans ⟨Or.inl, fun h => h.elim id (fun g => by cases g.2.1)⟩⟩
    | true =>
      rw [if_neg (fun z => by rw [r2.mp z] at hR; cases hR)]
      cases x7 with
      | false =>
        refine ⟨X8, rfl, fun t ht => (h8 t ht).trans ⟨Or.inl, fun h => h.elim id (fun g => ?_)⟩⟩
        have := h7.mpr ⟨g.2.2.1, g.2.2.2.1, g.2.2.2.2.1, g.2.2.2.2.2.1⟩
        cases this
      | true =>
        have h7 := h7.mp rfl
        cases b2 with
        | true =>
          refine ⟨X8, rfl, fun t ht => (h8 t ht).trans ⟨Or.inl, fun h => h.elim id (fun g => ?_)⟩⟩
          exact absurd (t2.mp rfl) g.2.2.2.2.2.2
        | false =>
          refine ⟨_, rfl, fun t ht => ?_⟩
          rw [bt_or, bt_bit (by omega) ht, Bool.or_eq_true, decide_eq_true_eq, h8 t ht]
          constructor
          · rintro (h | h)
            · exact Or.inl h
            · exact Or.inr ⟨h, rfl, h7.1, h7.2.1, h7.2.2.1, h7.2.2.2, fun g => by have := t2.mpr g; cases this⟩
          · rintro (h | h)
            · exact Or.inl h
            · exact Or.inr h.1
  -- the short one
  have short : ∀ (x6 x7 : Bool), (x6 = true ↔ bd (56 * c + 5) = 0 ∧ bd (56 * c + 6) = 0 ∧ bt st (56 * c + 5) = true) → (x7 = true ↔ bd (56 * c + 1) = 0 ∧ bd (56 * c + 2) = 0 ∧ bd (56 * c + 3) = 0 ∧ bt st (56 * c + 3) = true) → ∃ X, m_X2_goalsByRight_b111 all (nI c) (nI r) kinds sides rays kns kgs pws (nI (1 - c)) (nI (56 * c)) (nI r >>> (((2 : Int32) * nI c) &&& 31)) (bI x6) (bI x7) = some X ∧ ∀ t, t < 64 → (bt X t = true ↔ byR bd (bt st) c r t) := by
    intro x6 x7 h6 h7
    unfold m_X2_goalsByRight_b111
    rw [a6, ob_s s6, bI_if, bI_if, ol_r]
    have no : ∀ (A : Nat → Prop), (∀ t, A t ↔ (t = 56 * c + 6 ∧ rtB r c true = true ∧ bd (56 * c + 5) = 0 ∧ bd (56 * c + 6) = 0 ∧ bt st (56 * c + 5) = true ∧ ¬ attG bd (occ bd) (56 * c + 6) (1 - c))) → ∀ X8 : Int64, (∀ t, t < 64 → (bt X8 t = true ↔ A t)) → ∃ X, m_X2_goalsByRight_b160 all (nI c) (nI r) kinds sides rays kns kgs pws (nI (1 - c)) (nI (56 * c)) (nI r >>> (((2 : Int32) * nI c) &&& 31)) (bI x7) X8 = some X ∧ ∀ t, t < 64 → (bt X t = true ↔ byR bd (bt st) c r t) := by
      intro A hA X8 h8
      obtain ⟨X, x1, x2⟩ := long x7 X8 A h7 h8
      refine ⟨X, x1, fun t ht => (x2 t ht).trans ?_⟩
      unfold byR
      rw [hA t]
    cases hR : rtB r c true with
    | false =>
      rw [if_pos (r1.mpr hR)]
      refine no (fun _ => False) (fun t => ⟨False.elim, fun g => ?_⟩) 0 (fun t _ => by rw [bt_zero]; exact ⟨fun h => (by cases h), False.elim⟩)
      rw [hR] at g
      cases g.2.1
    | true =>
      rw [if_neg (fun z => by rw [r1.mp z] at hR; cases hR)]
      cases x6 with
      | false =>
        refine no (fun _ => False) (fun t => ⟨False.elim, fun g => ?_⟩) 0 (fun t _ => by rw [bt_zero]; exact ⟨fun h => (by cases h), False.elim⟩)
        have := h6.mpr ⟨g.2.2.1, g.2.2.2.1, g.2.2.2.2.1⟩
        cases this
      | true =>
        have h6 := h6.mp rfl
        cases b6 with
        | true =>
          refine no (fun _ => False) (fun t => ⟨False.elim, fun g => ?_⟩) 0 (fun t _ => by rw [bt_zero]; exact ⟨fun h => (by cases h), False.elim⟩)
          exact absurd (t6.mp rfl) g.2.2.2.2.2
        | false =>
          refine no (fun t => t = 56 * c + 6) (fun t => ⟨fun h => ⟨h, hR, h6.1, h6.2.1, h6.2.2, fun g => by have := t6.mpr g; cases this⟩, fun g => g.1⟩) _ (fun t ht => ?_)
          rw [bt_or, bt_zero, Bool.false_or, bt_bit (by omega) ht, decide_eq_true_eq]
  unfold m_X2_goalsByRight m_X2_goalsByRight_b74 m_X2_goalsByRight_b75 m_X2_goalsByRight_b110
  rw [ol_r, eo, ol_r, e56, ol_r, a5, a3]
  have k5 := bt_test st (s := 56 * c + 5) (by omega)
  have k3 := bt_test st (s := 56 * c + 3) (by omega)
  have y7 : ∀ x6 : Bool, (x6 = true ↔ bd (56 * c + 5) = 0 ∧ bd (56 * c + 6) = 0 ∧ bt st (56 * c + 5) = true) → ∃ X, (if (lg_cmp (all &&& ((14 : Int64) <<< ((nI (56 * c)).toInt64 &&& 63))) 0) = 0 then if (lg_cmp (((st.toUInt64 >>> ((nI (56 * c + 3)).toInt64.toUInt64 &&& Int64.toUInt64 63)).toInt64) &&& 1) 0) = 0 then m_X2_goalsByRight_b111 all (nI c) (nI r) kinds sides rays kns kgs pws (nI (1 - c)) (nI (56 * c)) (nI r >>> (((2 : Int32) * nI c) &&& 31)) (bI x6) 0 else m_X2_goalsByRight_b111 all (nI c) (nI r) kinds sides rays kns kgs pws (nI (1 - c)) (nI (56 * c)) (nI r >>> (((2 : Int32) * nI c) &&& 31)) (bI x6) 1 else m_X2_goalsByRight_b111 all (nI c) (nI r) kinds sides rays kns kgs pws (nI (1 - c)) (nI (56 * c)) (nI r >>> (((2 : Int32) * nI c) &&& 31)) (bI x6) 0) = some X ∧ ∀ t, t < 64 → (bt X t = true ↔ byR bd (bt st) c r t) := by
    intro x6 h6
    by_cases q : all &&& ((14 : Int64) <<< ((nI (56 * c)).toInt64 &&& 63)) = 0
    · rw [if_pos ((lg0 _).mpr q)]
      have q := f14.mp q
      cases g : bt st (56 * c + 3) with
      | false =>
        rw [if_pos (k3.mpr g)]
        exact short x6 false h6 ⟨fun h => (by cases h), fun h => (by rw [g] at h; cases h.2.2.2)⟩
      | true =>
        rw [if_neg (fun z => by rw [k3.mp z] at g; cases g)]
        exact short x6 true h6 ⟨fun _ => ⟨q.1, q.2.1, q.2.2, g⟩, fun _ => rfl⟩
    · rw [if_neg (fun z => q ((lg0 _).mp z))]
      exact short x6 false h6 ⟨fun h => (by cases h), fun h => absurd (f14.mpr ⟨h.1, h.2.1, h.2.2.1⟩) q⟩
  by_cases q : all &&& ((96 : Int64) <<< ((nI (56 * c)).toInt64 &&& 63)) = 0
  · rw [if_pos ((lg0 _).mpr q)]
    have q := f96.mp q
    cases g : bt st (56 * c + 5) with
    | false =>
      rw [if_pos (k5.mpr g)]
      exact y7 false ⟨fun h => (by cases h), fun h => (by rw [g] at h; cases h.2.2)⟩
    | true =>
      rw [if_neg (fun z => by rw [k5.mp z] at g; cases g)]
      exact y7 true ⟨fun _ => ⟨q.1, q.2, g⟩, fun _ => rfl⟩
  · rw [if_neg (fun z => q ((lg0 _).mp z))]
    exact y7 false ⟨fun h => (by cases h), fun h => absurd (f96.mpr ⟨h.1, h.2.1⟩) q⟩
theorem kingGoals_l {bd : Nat → Int32} {kinds sides rays kns kgs pws : Nat → Int64} (hT : lnT rays kns kgs pws) (hB : brP bd kinds sides) {c : Nat} (hc : c < 2) (own all S oth : Int64) (vk vr : Int32) : ∀ (d n : Nat) (left set : Int64), cb (bt left) 64 = d → ∃ (X : Int64) (n' : Nat), m_X2_kingGoals_l48 own all vk S (nI c) vr kinds sides rays kns kgs pws (n + d + 1) set oth left (nI d) = m_X2_kingGoals_l48 own all vk S (nI c) vr kinds sides rays kns kgs pws (n + 1) X oth 0 (nI 0) ∧ n' = n ∧ ∀ t, t < 64 → (bt X t = true ↔ bt set t = true ∨ (bt left t = true ∧ ¬ attG bd (bt oth) t (1 - c))) := by
  intro d
  induction d with
  | zero =>
    intro n left set e
    refine ⟨set, n, ?_, rfl, fun f hf => ⟨Or.inl, ?_⟩⟩
    · rw [m_X2_kingGoals_l48_s, m_X2_kingGoals_l48_s]
      unfold m_X2_kingGoals_b48
      have z : nI 0 ≤ 0 := by decide
      simp only [if_pos z]
    · rintro (h | ⟨h, _⟩)
      · exact h
      · rw [eq0_cb e f hf] at h
        cases h
  | succ d ih =>
    intro n left set e
    obtain ⟨a, ha⟩ := leastB_ex (ne0_cb e)
    have hd := cb_drop_least ha
    have h64 := cb_le (bt left) 64
    have eo : (1 : Int32) - nI c = nI (1 - c) := pk_sub (a := 1) (by omega)
    obtain ⟨b, s1, s2⟩ := x0_isStruck hT hB ha.1 (c := 1 - c) (by omega) oth
    rw [show n + (d + 1) + 1 = n + d + 1 + 1 from rfl, m_X2_kingGoals_l48_s]
    unfold m_X2_kingGoals_b48 m_X2_kingGoals_b98
    rw [if_neg (nI_nle (by omega) (by omega)), ob_s (leastOf_eq ha), ol_r, eo, ob_s s1, bI_if, ol_r, ol_r, ol_r, nI_m1']
    cases b with
    | true =>
      obtain ⟨X, n', x1, x0, x2⟩ := ih n (left &&& (left - 1)) set (by omega)
      refine ⟨X, n', x1, x0, fun f hf => ?_⟩
      rw [x2 f hf, bt_drop ha hf, Bool.and_eq_true, decide_eq_true_eq]
      constructor
      · rintro (h | ⟨⟨h1, h2⟩, h3⟩)
        · exact Or.inl h
        · exact Or.inr ⟨h1, h3⟩
      · rintro (h | ⟨h1, h3⟩)
        · exact Or.inl h
        · refine Or.inr ⟨⟨h1, ?_⟩, h3⟩
          intro q
          subst q
          exact h3 (s2.mp rfl)
    | false =>
      obtain ⟨X, n', x1, x0, x2⟩ := ih n (left &&& (left - 1)) (set ||| ((1 : Int64) <<< ((nI a).toInt64 &&& 63))) (by omega)
      refine ⟨X, n', x1, x0, fun f hf => ?_⟩
      rw [x2 f hf, bt_drop ha hf, bt_or, bt_bit ha.1 hf, Bool.and_eq_true, Bool.or_eq_true, decide_eq_true_eq, decide_eq_true_eq]
      constructor
      · rintro ((h | h) | ⟨⟨h1, h2⟩, h3⟩)
        · exact Or.inl h
        · subst h
          exact Or.inr ⟨ha.2.1, fun g => by have := s2.mpr g; cases this⟩
        · exact Or.inr ⟨h1, h3⟩
      · rintro (h | ⟨h1, h3⟩)
        · exact Or.inl (Or.inl h)
        · by_cases q : f = a
          · exact Or.inl (Or.inr q)
          · exact Or.inr ⟨⟨h1, q⟩, h3⟩
/-- where the king steps -/
def kstP (bd : Nat → Int32) (c k t : Nat) : Prop := kinB k t = true ∧ msd (bd t) c = false ∧ ¬ attG bd (fun s => occ bd s && !(s == k)) t (1 - c)
theorem x2_kingGoals {bd : Nat → Int32} {kinds sides rays kns kgs pws : Nat → Int64} (hT : lnT rays kns kgs pws) (hB : brP bd kinds sides) {c k r : Nat} (hc : c < 2) (hk : k < 64) (hr : r < 16) {own all S : Int64} (hown : ∀ s, s < 64 → bt own s = msd (bd s) c) (hall : ∀ s, s < 64 → bt all s = occ bd s) : ∃ X st, m_X2_kingGoals own all (nI k) S (nI c) (nI r) kinds sides rays kns kgs pws = some X ∧ (∀ t, t < 64 → (st t = true ↔ kstP bd c k t)) ∧ ∀ t, t < 64 → (bt X t = true ↔ kstP bd c k t ∨ (S = -1 ∧ byR bd st c r t)) := by
  have eb : ∀ s, s < 64 → bt (all &&& (((1 : Int64) <<< ((nI k).toInt64 &&& 63)) ^^^ (-1))) s = (occ bd s && !(s == k)) := by
    intro s hs
    rw [bt_and, bt_not _ hs, bt_bit hk hs, hall s hs]
    rfl
  unfold m_X2_kingGoals
  rw [ol_r, oin_n (by omega) (by omega), nI_clamp (by omega), ol_r, ob_s (bitCount_eq _)]
  obtain ⟨X, n', x1, -, x2⟩ := kingGoals_l hT hB hc own all S (all &&& (((1 : Int64) <<< ((nI k).toInt64 &&& 63)) ^^^ (-1))) (nI k) (nI r) (cb (bt (kgs k &&& (own ^^^ (-1)))) 64) (kF - 1 - cb (bt (kgs k &&& (own ^^^ (-1)))) 64) (kgs k &&& (own ^^^ (-1))) 0 rfl
  have hle := cb_le (bt (kgs k &&& (own ^^^ (-1)))) 64
  have e : kF - 1 - cb (bt (kgs k &&& (own ^^^ (-1)))) 64 + cb (bt (kgs k &&& (own ^^^ (-1)))) 64 + 1 = kF := by unfold kF; omega
  rw [e] at x1
  rw [x1, m_X2_kingGoals_l48_s]
  unfold m_X2_kingGoals_b48 m_X2_kingGoals_b126
  rw [if_pos (by decide)]
  have hX : ∀ t, t < 64 → (bt X t = true ↔ kstP bd c k t) := by
    intro t ht
    rw [x2 t ht, bt_zero, bt_and, bt_not _ ht, hown t ht, (hT.2 k t hk ht).2.1, attG_occ eb ht]
    unfold kstP
    rw [Bool.and_eq_true, Bool.not_eq_true']
    constructor
    · rintro (h | ⟨⟨h1, h2⟩, h3⟩)
      · cases h
      · exact ⟨h1, h2, h3⟩
    · rintro ⟨h1, h2, h3⟩
      exact Or.inr ⟨⟨h1, h2⟩, h3⟩
  by_cases q : S = -1
  · rw [if_pos ((lg_cmp_eq _ _).mpr q)]
    obtain ⟨Y, y1, y2⟩ := x2_goalsByRight hT hB hc hr hall X
    rw [ob_s y1]
    refine ⟨_, bt X, rfl, hX, fun t ht => ?_⟩
    rw [bt_or, Bool.or_eq_true, hX t ht, y2 t ht]
    exact ⟨fun h => h.imp id (fun g => ⟨q, g⟩), fun h => h.imp id (fun g => g.2)⟩
  · rw [if_neg (fun z => q ((lg_cmp_eq _ _).mp z))]
    exact ⟨X, bt X, rfl, hX, fun t ht => (hX t ht).trans ⟨Or.inl, fun h => h.elim id (fun g => absurd g.1 q)⟩⟩
