/-! The reference: where men go. -/
def oneS (c f t : Nat) : Bool := if c = 0 then decide (t = f + 8) else decide (t + 8 = f)
def twoS (c f t : Nat) : Bool := if c = 0 then decide (t = f + 16) else decide (t + 16 = f)
def rkS (c s : Nat) : Nat := if c = 0 then s / 8 else 7 - s / 8
def upS (c s : Nat) : Nat := if c = 0 then s + 8 else s - 8
def pgS (bd : Nat → Int32) (c p f t : Nat) : Bool :=
  if decide (f % 8 = t % 8) && decide (bd t = 0) && oneS c f t then true
  else if decide (f % 8 = t % 8) && decide (bd t = 0) && twoS c f t then decide (rkS c f = 1) && decide (bd (upS c f) = 0)
  else reachS bd f t && (!decide (bd t = 0) || decide (t = p))
theorem x10_rankOf {c s : Nat} (hc : c < 2) (hs : s < 64) : m_X10_rankOf (nI s) (nI c) = some (nI (rkS c s)) := by
  have e : nI s / 8 = nI (s / 8) := pk_div (d := 8) (by omega) (by omega) (by omega)
  unfold m_X10_rankOf m_X10_rankOf_b18 rkS
  rw [e]
  have : c = 0 ∨ c = 1 := by omega
  rcases this with q | q
  · subst q; rfl
  · subst q
    rw [if_neg (by decide), if_neg (by decide)]
    exact congrArg some (pk_sub (a := 7) (by omega))
set_option maxRecDepth 100000 in
theorem pg_tb : (List.range 2).all (fun c => (List.range 64).all (fun f => (List.range 8).all (fun k => decide ((nI (8 * k + f % 8) - nI f) - (nI (8 * k + f % 8) - nI f) / 8 * 8 = 0) && (decide ((nI (8 * k + f % 8) - nI f) / (if c = 0 then 8 else -8) = 1) == oneS c f (8 * k + f % 8)) && (decide ((nI (8 * k + f % 8) - nI f) / (if c = 0 then 8 else -8) = 2) == twoS c f (8 * k + f % 8))))) = true := by decide +kernel
theorem pg_all (c : Nat) (hc : c < 2) (f : Nat) (hf : f < 64) (t : Nat) (ht : t < 64) (h : f % 8 = t % 8) : ((nI t - nI f) - (nI t - nI f) / 8 * 8 = 0) ∧ ((nI t - nI f) / (if c = 0 then 8 else -8) = 1 ↔ oneS c f t = true) ∧ ((nI t - nI f) / (if c = 0 then 8 else -8) = 2 ↔ twoS c f t = true) := by
  have := all_lt (all_lt (all_lt pg_tb hc) hf) (i := t / 8) (by omega)
  rw [show 8 * (t / 8) + f % 8 = t by omega] at this
  simp only [Bool.and_eq_true, beq_iff_eq, decide_eq_true_eq] at this
  obtain ⟨⟨a, b⟩, d⟩ := this
  refine ⟨a, ?_, ?_⟩
  · rw [← b, decide_eq_true_eq]
  · rw [← d, decide_eq_true_eq]
theorem up_tb : (List.range 2).all (fun c => (List.range 64).all (fun f => !(rkS c f == 1) || (decide (nI f + (if c = 0 then 8 else -8) = nI (upS c f)) && Nat.blt (upS c f) 64))) = true := by decide +kernel
theorem up_all (c : Nat) (hc : c < 2) (f : Nat) (hf : f < 64) (h : rkS c f = 1) : nI f + (if c = 0 then 8 else -8) = nI (upS c f) ∧ upS c f < 64 := by
  have := all_lt (all_lt up_tb hc) hf
  rw [h] at this
  simp only [beq_self_eq_true, Bool.not_true, Bool.false_or, Bool.and_eq_true, decide_eq_true_eq] at this
  exact ⟨this.1, by simpa [Nat.blt_eq] using this.2⟩
theorem pI_eq {p t : Nat} (hp : p ≤ 64) (ht : t < 64) : nI t = pI p ↔ t = p := by
  by_cases q : p < 64
  · rw [pI_lt q]
    exact nI_eq (by omega) (by omega)
  · have : p = 64 := by omega
    subst this
    rw [pI_no]
    constructor
    · intro h
      exact absurd (nI_pos' (n := t) (by omega)) (by rw [h]; decide)
    · omega
theorem x10_pawnGoes {bd : Nat → Int32} (hb : gbd bd) {c p f t : Nat} (hc : c < 2) (hp : p ≤ 64) (hf : f < 64) (ht : t < 64) : m_X10_pawnGoes (nI c) (pI p) bd (nI f) (nI t) = some (bI (pgS bd c p f t)) := by
  have hm := hb.1 f hf
  have key105 : m_X10_pawnGoes_b105 (nI c) (pI p) bd (nI f) (nI t) = some (bI (reachS bd f t && (!decide (bd t = 0) || decide (t = p)))) := by
    unfold m_X10_pawnGoes_b105 m_X10_pawnGoes_b131 m_X10_pawnGoes_b135 m_X10_pawnGoes_b136
    rw [ob_s (x10_reaches bd hf ht hm), bI_if, oin_t (pk_in t 64 ht), nI_clamp (by omega)]
    simp only [pI_eq hp ht]
    cases reachS bd f t with
    | false => rfl
    | true =>
      by_cases g : bd t = 0
      · by_cases g2 : t = p
        · simp [g, g2, obl_1, bI]
        · simp [g, g2, obl_0, bI]
      · simp [g, obl_1, bI]
  have hu : ¬ (if c = 0 then (8 : Int32) else -8) = 0 := by split <;> decide
  have ec : nI (f % 8) = nI (t % 8) ↔ f % 8 = t % 8 := nI_eq (by omega) (by omega)
  have key0 : ∀ x3 : Int32, m_X10_pawnGoes_b46 (nI c) (pI p) bd (nI f) (nI t) x3 0 = some (bI (reachS bd f t && (!decide (bd t = 0) || decide (t = p)))) := by
    intro x3
    unfold m_X10_pawnGoes_b46 m_X10_pawnGoes_b60
    rw [if_pos rfl, if_pos rfl]
    exact key105
  unfold m_X10_pawnGoes
  rw [ob_s (x10_up hc), odz_t hu]
  simp only [ol_r]
  try dsimp only
  rw [ob_s (x10_columnOf (by omega)), ob_s (x10_columnOf (by omega))]
  unfold m_X10_pawnGoes_b45
  simp only [ec, oin_t (pk_in t 64 ht), nI_clamp (show t < 2 ^ 31 by omega)]
  by_cases a1 : f % 8 = t % 8
  · obtain ⟨g1, g2, g3⟩ := pg_all c hc f hf t ht a1
    rw [if_pos a1, if_pos g1]
    by_cases a2 : bd t = 0
    · rw [if_pos a2]
      unfold m_X10_pawnGoes_b46
      rw [if_neg (by decide)]
      unfold pgS
      simp only [a1, a2, decide_true, Bool.and_self, Bool.true_and]
      by_cases b1 : oneS c f t = true
      · rw [if_pos (g2.mpr b1), if_pos b1]
        rfl
      · rw [if_neg (fun q => b1 (g2.mp q)), if_neg b1]
        unfold m_X10_pawnGoes_b60
        rw [if_neg (by decide)]
        by_cases b2 : twoS c f t = true
        · rw [if_pos (g3.mpr b2), if_pos b2, ob_s (x10_rankOf hc hf)]
          have hr7 : rkS c f < 8 := by unfold rkS; split <;> omega
          have cr : nI (rkS c f) = 1 ↔ rkS c f = 1 := nI_eq1 (by omega)
          unfold m_X10_pawnGoes_b103 m_X10_pawnGoes_b104
          by_cases d1 : rkS c f = 1
          · obtain ⟨u1, u2⟩ := up_all c hc f hf d1
            rw [if_pos (cr.mpr d1), ob_s (x10_up hc), u1, oin_t (pk_in _ 64 u2), nI_clamp (by omega)]
            by_cases d2 : bd (upS c f) = 0
            · simp [d1, d2, obl_1, bI]
            · simp [d1, d2, obl_0, bI]
          · rw [if_neg (fun q => d1 (cr.mp q))]
            simp [d1, obl_0, bI]
        · rw [if_neg (fun q => b2 (g3.mp q)), if_neg b2, key105, a2]
          simp
    · rw [if_neg a2, key0]
      unfold pgS
      simp [a2]
  · rw [if_neg a1, key0]
    unfold pgS
    simp [a1]
/-- side c still has its right (short: sh) -/
def rtB (r c : Nat) (sh : Bool) : Bool := r.testBit (2 * c + if sh then 0 else 1)
def klS (bd : Nat → Int32) (c r f t : Nat) : Bool := decide (f / 8 = t / 8) && decide (absD f t = 2) && rtB r c (decide (f < t)) && (if f < t then clr (occ bd) 0 f 3 else clr (occ bd) 4 f 4) && !(attS bd f (1 - c)) && !(attS bd ((f + t) / 2) (1 - c)) && !(attS bd t (1 - c))
theorem rt_tb : (List.range 16).all (fun r => (List.range 2).all (fun c => (decide ((nI r &&& ((if c = 0 then 1 else 4) * 1)) = 0) == !(rtB r c true)) && (decide ((nI r &&& ((if c = 0 then 1 else 4) * 2)) = 0) == !(rtB r c false)))) = true := by decide +kernel
theorem rt_all (r : Nat) (hr : r < 16) (c : Nat) (hc : c < 2) : ((nI r &&& ((if c = 0 then 1 else 4) * 1)) = 0 ↔ rtB r c true = false) ∧ ((nI r &&& ((if c = 0 then 1 else 4) * 2)) = 0 ↔ rtB r c false = false) := by
  have := all_lt (all_lt rt_tb hr) hc
  simp only [Bool.and_eq_true, beq_iff_eq] at this
  obtain ⟨a, b⟩ := this
  constructor
  · rw [← decide_eq_true_eq (p := (nI r &&& ((if c = 0 then 1 else 4) * 1)) = 0), a]
    simp
  · rw [← decide_eq_true_eq (p := (nI r &&& ((if c = 0 then 1 else 4) * 2)) = 0), b]
    simp
/-- the king of the side to move is at his place while he has a right -/
def rgK (bd : Nat → Int32) (c r : Nat) : Prop := ∀ f, f < 64 → bd f = kmn c → ∀ sh, rtB r c sh = true → f = 4 + 56 * c
theorem king_man {m : Int32} (hm : mOK m) {c : Nat} (hc : c < 2) (h : kd m = 6) (hs : msd m c = true) : m = kmn c := by
  have : c = 0 ∨ c = 1 := by omega
  rcases this with e | e <;> subst e <;> rcases mOK_cases hm with q | q | q | q | q | q | q | q | q | q | q | q | q <;> subst q <;> revert h hs <;> decide
theorem x10_kingLeaps {bd : Nat → Int32} (hb : gbd bd) {c r f t : Nat} (hc : c < 2) (hr : r < 16) (hf : f < 64) (ht : t < 64) (hk : ∀ sh, rtB r c sh = true → f = 4 + 56 * c) : m_X10_kingLeaps (nI c) (nI r) bd (nI f) (nI t) = some (bI (klS bd c r f t)) := by
  have eo : 1 - nI c = nI (1 - c) := pk_sub (a := 1) (by omega)
  have er : nI (f / 8) = nI (t / 8) ↔ f / 8 = t / 8 := nI_eq (by omega) (by omega)
  have e2 : nI (absD f t) = 2 ↔ absD f t = 2 := nI_eq2 (by have := absD_lt hf ht; omega)
  have em : (nI f + nI t) / 2 = nI ((f + t) / 2) := by
    rw [nI_add]
    exact pk_div (d := 2) (by omega) (by omega) (by omega)
  obtain ⟨r1, r2⟩ := rt_all r hr c hc
  have key81 : ∀ (z : Int32) (o : Bool), m_X10_isOpen bd (nI f) z = some (bI o) → m_X10_kingLeaps_b81 (nI c) (nI r) bd (nI f) (nI t) z = some (bI (o && !(attS bd f (1 - c)) && !(attS bd ((f + t) / 2) (1 - c)) && !(attS bd t (1 - c)))) := by
    intro z o ho
    unfold m_X10_kingLeaps_b81 m_X10_kingLeaps_b143 m_X10_kingLeaps_b144
    rw [ob_s ho, bI_if, eo, em]
    cases o with
    | false => rfl
    | true =>
      rw [ob_s (x10_isAttacked hb hf (by omega)), bI_if, ob_s (x10_isAttacked hb (by omega) (by omega)), bI_if, ob_s (x10_isAttacked hb ht (by omega)), bI_if]
      cases attS bd f (1 - c) <;> cases attS bd ((f + t) / 2) (1 - c) <;> cases attS bd t (1 - c) <;> rfl
  have key : ∀ (sh : Bool) (q k : Int32), (q = if c = 0 then 1 else 4) → (k = if sh then 1 else 2) → (sh = decide (f < t)) → m_X10_kingLeaps_b32 (nI c) (nI r) bd (nI f) (nI t) (bI sh) q k = some (bI (klS bd c r f t)) := by
    intro sh q k hq hk2 hs
    unfold m_X10_kingLeaps_b32 m_X10_kingLeaps_b66
    simp only [ol_r]
    try dsimp only
    rw [ob_s (x10_rowOf (by omega)), ob_s (x10_rowOf (by omega)), ob_s (x10_size t ht f hf)]
    simp only [er, e2]
    unfold klS
    by_cases a1 : f / 8 = t / 8
    · rw [if_pos a1]
      by_cases a2 : absD f t = 2
      · rw [if_pos a2]
        simp only [a1, a2, decide_true, Bool.true_and]
        rw [← hs]
        have hz : (nI r &&& (q * k) = 0) ↔ rtB r c sh = false := by
          subst hq
          subst hk2
          cases sh with
          | true => exact r1
          | false => exact r2
        cases hR : rtB r c sh with
        | false =>
          rw [if_pos (hz.mpr hR)]
          rfl
        | true =>
          rw [if_neg (fun h => by rw [hz.mp h] at hR; cases hR)]
          have hp := hk sh hR
          simp only [Bool.true_and]
          rw [bI_if]
          cases sh with
          | true =>
            have hl : f < t := of_decide_eq_true hs.symm
            simp only [if_true]
            rw [if_pos hl]
            refine key81 _ _ ?_
            have := x10_isOpen bd (w := 0) (f := f) (i := 3) (by omega) hf (by omega) (by
              have : c = 0 ∨ c = 1 := by omega
              rcases this with e | e <;> subst e <;> subst hp <;> decide)
            have e3 : wsq 0 f 3 = f + 3 := rfl
            rw [e3] at this
            rw [← this]
            congr 1
            exact nI_add f 3
          | false =>
            have hl : ¬ f < t := of_decide_eq_false hs.symm
            simp only [Bool.false_eq_true, if_false]
            rw [if_neg hl]
            refine key81 _ _ ?_
            have := x10_isOpen bd (w := 4) (f := f) (i := 4) (by omega) hf (by omega) (by
              have : c = 0 ∨ c = 1 := by omega
              rcases this with e | e <;> subst e <;> subst hp <;> decide)
            have e3 : wsq 4 f 4 = f - 4 := rfl
            rw [e3] at this
            rw [← this]
            congr 1
            exact pk_sub (b := 4) (by omega)
      · rw [if_neg a2]
        simp [a2, bI, obl_0]
    · rw [if_neg a1]
      simp [a1, bI, obl_0]
  unfold m_X10_kingLeaps m_X10_kingLeaps_b10 m_X10_kingLeaps_b23
  have hc2 : c = 0 ∨ c = 1 := by omega
  by_cases g : f < t
  · rw [if_neg (nI_ge g (by omega))]
    rcases hc2 with q | q
    · subst q
      rw [if_pos (by decide), if_neg (by decide)]
      exact key true 1 1 rfl rfl (by simp [g])
    · subst q
      rw [if_neg (by decide), if_neg (by decide)]
      exact key true 4 1 rfl rfl (by simp [g])
  · rw [if_pos (nI_le (by omega) (by omega))]
    rcases hc2 with q | q
    · subst q
      rw [if_pos (by decide), if_pos (by decide)]
      exact key false 1 2 rfl rfl (by simp [g])
    · subst q
      rw [if_neg (by decide), if_pos (by decide)]
      exact key false 4 2 rfl rfl (by simp [g])
/-- a man goes from f to t, check or no check -/
def goS (z : Pz) (f t : Nat) : Bool := !(msd (z.1 t) z.2.1) && (if kd (z.1 f) = 1 then pgS z.1 z.2.1 z.2.2.2.1 f t else if kd (z.1 f) = 6 then reachS z.1 f t || klS z.1 z.2.1 z.2.2.1 f t else reachS z.1 f t)
theorem x10_goes {z : Pz} (hb : gbd z.1) (hc : z.2.1 < 2) (hr : z.2.2.1 < 16) (hp : z.2.2.2.1 ≤ 64) (hk : rgK z.1 z.2.1 z.2.2.1) {f t : Nat} (hf : f < 64) (ht : t < 64) (hs : msd (z.1 f) z.2.1 = true) : m_X10_goes (nI z.2.1) (nI z.2.2.1) (pI z.2.2.2.1) z.1 (nI f) (nI t) = some (bI (goS z f t)) := by
  have hm := hb.1 f hf
  unfold m_X10_goes m_X10_goes_b77 m_X10_goes_b82
  rw [oin_t (pk_in t 64 ht), nI_clamp (by omega), ob_s (x10_isSide (hb.1 t ht) hc), bI_if, oin_t (pk_in f 64 hf), nI_clamp (by omega), ob_s (x10_kindOf hm)]
  have c1 : nI (kd (z.1 f)) = 1 ↔ kd (z.1 f) = 1 := nI_eq1 (by have := kd_le hm; omega)
  have c6 : nI (kd (z.1 f)) = 6 ↔ kd (z.1 f) = 6 := nI_eq (b := 6) (by have := kd_le hm; omega) (by omega)
  simp only [c1, c6]
  unfold goS
  cases msd (z.1 t) z.2.1 with
  | true => rfl
  | false =>
    simp only [Bool.false_eq_true, if_false, Bool.not_false, Bool.true_and]
    by_cases a1 : kd (z.1 f) = 1
    · rw [if_pos a1, if_pos a1, ob_s (x10_pawnGoes hb hc hp hf ht), obl_b]
    · rw [if_neg a1, if_neg a1]
      by_cases a2 : kd (z.1 f) = 6
      · rw [if_pos a2, if_pos a2, ob_s (x10_reaches z.1 hf ht hm), bI_if, ob_s (x10_kingLeaps hb hc hr hf ht (hk f hf (king_man hm hc a2 hs))), bI_if]
        cases reachS z.1 f t <;> cases klS z.1 z.2.1 z.2.2.1 f t <;> rfl
      · rw [if_neg a2, if_neg a2, ob_s (x10_reaches z.1 hf ht hm), obl_b]
/-- what goes stays on the board -/
theorem goS_mvK {z : Pz} (hb : gbd z.1) (hc : z.2.1 < 2) (hk : rgK z.1 z.2.1 z.2.2.1) {f t : Nat} (hf : f < 64) (ht : t < 64) (hs : msd (z.1 f) z.2.1 = true) (hg : goS z f t = true) : mvK z.1 f t := by
  have hm := hb.1 f hf
  unfold goS at hg
  rw [Bool.and_eq_true] at hg
  refine ⟨fun h => ?_, fun h => ?_⟩
  · unfold epB at h
    simp only [Bool.and_eq_true, decide_eq_true_eq] at h
    obtain ⟨⟨a1, a2⟩, a3⟩ := h
    have hg := hg.2
    rw [if_pos a1] at hg
    unfold pgS at hg
    simp only [a2, a3, decide_false, Bool.false_and, Bool.false_eq_true, if_false, Bool.and_eq_true] at hg
    have hg := hg.1
    unfold reachS at hg
    rw [if_pos a1] at hg
    unfold pawB at hg
    by_cases g : 0 < z.1 f
    · simp [g] at hg ⊢
      omega
    · simp [g] at hg ⊢
      omega
  · unfold lpB at h
    simp only [Bool.and_eq_true, decide_eq_true_eq] at h
    have hg := hg.2
    rw [if_neg (by omega), if_pos h.1, Bool.or_eq_true] at hg
    have hg : klS z.1 z.2.1 z.2.2.1 f t = true := by
      rcases hg with g | g
      · unfold reachS at g
        simp only [h.1] at g
        simp only [show ¬ ((6 : Nat) = 1) by omega, show ¬ ((6 : Nat) = 2) by omega, show ¬ ((6 : Nat) = 3) by omega, show ¬ ((6 : Nat) = 4) by omega, show ¬ ((6 : Nat) = 5) by omega, if_false, if_true] at g
        unfold kinB at g
        simp [h.2] at g
      · exact g
    unfold klS at hg
    simp only [Bool.and_eq_true] at hg
    have := hk f hf (king_man hm hc h.1 hs) _ hg.1.1.1.1.2
    split <;> omega
