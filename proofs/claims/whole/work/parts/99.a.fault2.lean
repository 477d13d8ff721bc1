/-! The passed square, the whole fault, and what a position without one keeps. -/
def pqB (z : Pz) : Bool := decide (z.2.2.2.1 = 64) || (decide (rkS z.2.1 z.2.2.2.1 = 5) && decide (z.1 z.2.2.2.1 = 0) && decide (z.1 (upS z.2.1 z.2.2.2.1) = 0) && decide (z.1 (dnS z.2.1 z.2.2.2.1) = pmn (1 - z.2.1)))
theorem rk5 {c p : Nat} (hc : c < 2) (h : rkS c p = 5) : 8 ≤ p ∧ p < 56 ∧ (c = 0 → 40 ≤ p ∧ p < 48) ∧ (c = 1 → 16 ≤ p ∧ p < 24) := by
  unfold rkS at h
  have : c = 0 ∨ c = 1 := by omega
  rcases this with q | q
  · subst q; rw [if_pos rfl] at h; omega
  · subst q; rw [if_neg (by omega)] at h; omega
theorem dn_lt {c p : Nat} (hc : c < 2) (h1 : 8 ≤ p) (h2 : p < 56) : dnS c p < 64 := by
  unfold dnS
  split <;> omega
theorem pm_lit {c : Nat} (hc : c < 2) : pmn (1 - c) = (if c = 0 then -1 else 1) := by
  have : c = 0 ∨ c = 1 := by omega
  rcases this with q | q <;> subst q <;> decide
theorem x10_isPassed {z : Pz} (hc : z.2.1 < 2) (hp : z.2.2.2.1 ≤ 64) : m_X10_isPassed (nI z.2.1) (pI z.2.2.2.1) z.1 = some (bI (pqB z)) := by
  obtain ⟨bd, c, r, p, h, n⟩ := z
  dsimp only at hc hp ⊢
  unfold m_X10_isPassed m_X10_isPassed_b63 m_X10_isPassed_b64 m_X10_isPassed_b98 m_X10_isPassed_b105 m_X10_isPassed_b106 pqB
  dsimp only
  by_cases g : p = 64
  · subst g
    rw [pI_no, if_pos rfl, decide_eq_true rfl]
    rfl
  · have hp' : p < 64 := by omega
    rw [pI_lt hp', if_neg (nI_nm1 (by omega)), ob_s (x10_rankOf hc hp'), decide_eq_false g, Bool.false_or]
    have e5 : nI (rkS c p) = 5 ↔ rkS c p = 5 := nI_eq (b := 5) (by unfold rkS; split <;> omega) (by omega)
    by_cases w : rkS c p = 5
    · obtain ⟨k1, k2, _, _⟩ := rk5 hc w
      obtain ⟨u1, u2⟩ := upI_all hc k1 k2
      have dn := dn_lt hc k1 k2
      rw [if_pos (e5.mpr w), decide_eq_true w, oin_n hp' (by omega), nI_clamp (by omega), ob_s (x10_up hc), u1, oin_n u2 (by omega), nI_clamp (by omega), ob_s (x10_up hc), dnS_eq hc (fun _ => k1), oin_n dn (by omega), nI_clamp (by omega)]
      have ei : ∀ (X Y : Option Int32), (if nI c = 0 then X else Y) = if c = 0 then X else Y := by
        intro X Y
        have : c = 0 ∨ c = 1 := by omega
        rcases this with q | q <;> subst q <;> rfl
      rw [ei, pm_lit hc]
      by_cases k5 : c = 0
      · rw [if_pos k5, if_pos k5]
        by_cases k3 : bd p = 0 <;> by_cases k4 : bd (upS c p) = 0 <;> by_cases k6 : bd (dnS c p) = -1 <;> simp [k3, k4, k6, bI, obl_0, obl_1]
      · rw [if_neg k5, if_neg k5]
        by_cases k3 : bd p = 0 <;> by_cases k4 : bd (upS c p) = 0 <;> by_cases k6 : bd (dnS c p) = 1 <;> simp [k3, k4, k6, bI, obl_0, obl_1]
    · rw [if_neg (fun y => w (e5.mp y)), decide_eq_false w]
      rfl
theorem x1_hasWrongPassed {z : Pz} (hc : z.2.1 < 2) (hp : z.2.2.2.1 < 64) : m_X1_hasWrongPassed (nI z.2.1) (pI z.2.2.2.1) z.1 = some (bI (!(pqB z))) := by
  obtain ⟨bd, c, r, p, h, n⟩ := z
  dsimp only at hc hp ⊢
  have ei : ∀ (X Y : Option Int32), (if nI c = 0 then X else Y) = if c = 0 then X else Y := by
    intro X Y
    have : c = 0 ∨ c = 1 := by omega
    rcases this with q | q <;> subst q <;> rfl
  have e8 : nI p / 8 = nI (p / 8) := pk_div (d := 8) (by omega) (by omega) (by omega)
  have key : ∀ (t1 t0 : Int32), t1 = pmn (1 - c) → (nI (p / 8) = t0 ↔ rkS c p = 5) → m_X1_hasWrongPassed_b42 (nI c) (nI p) bd (nI p) (if c = 0 then 8 else -8) t1 (nI (p / 8)) t0 = some (bI (!(pqB (bd, c, r, p, h, n)))) := by
    intro t1 t0 h1 h2
    unfold m_X1_hasWrongPassed_b42 m_X1_hasWrongPassed_b77 m_X1_hasWrongPassed_b82 pqB
    dsimp only
    rw [decide_eq_false (show ¬ p = 64 by omega), Bool.false_or]
    by_cases w : rkS c p = 5
    · obtain ⟨k1, k2, _, _⟩ := rk5 hc w
      obtain ⟨u1, u2⟩ := upI_all hc k1 k2
      have dn := dn_lt hc k1 k2
      rw [if_pos (h2.mpr w), decide_eq_true w, oin_n hp (by omega), nI_clamp (by omega), u1, oin_n u2 (by omega), nI_clamp (by omega), dnS_eq hc (fun _ => k1), oin_n dn (by omega), nI_clamp (by omega), h1]
      by_cases k3 : bd p = 0 <;> by_cases k4 : bd (upS c p) = 0 <;> by_cases k6 : bd (dnS c p) = pmn (1 - c) <;> simp [k3, k4, k6, bI, obl_0, obl_1]
    · rw [if_neg (fun y => w (h2.mp y)), decide_eq_false w]
      rfl
  unfold m_X1_hasWrongPassed m_X1_hasWrongPassed_b25
  rw [ob_s (x9_upOf hc), pI_lt hp, e8]
  have : c = 0 ∨ c = 1 := by omega
  rcases this with q | q
  · subst q
    rw [if_pos (by decide), if_pos (by decide)]
    exact key (-1) 5 (by decide) (nI_eq (b := 5) (by omega) (by omega))
  · subst q
    rw [if_neg (by decide), if_neg (by decide)]
    refine key 1 2 (by decide) ((nI_eq (b := 2) (by omega) (by omega)).trans ?_)
    unfold rkS
    rw [if_neg (by omega)]
    omega
/-- one king each, at most sixteen men -/
def kcB (bd : Nat → Int32) : Bool := decide (mcN bd 0 true = 1) && decide (mcN bd 1 true = 1) && decide (mcN bd 0 false ≤ 16) && decide (mcN bd 1 false ≤ 16)
/-- the fault; 0 where there is none -/
def flS (z : Pz) : Nat := if kcB z.1 = false then 2 else if anyB (egQ z.1) 64 = true then 3 else if chkS z.1 (1 - z.2.1) = true then 4 else if rgB z.1 z.2.2.1 = false then 5 else if pqB z = false then 6 else 0
theorem x10_faultNow {z : Pz} (hb : gbd z.1) (hc : z.2.1 < 2) (hr : z.2.2.1 < 16) (hp : z.2.2.2.1 ≤ 64) : m_X10_faultNow (nI z.2.1) (nI z.2.2.1) (pI z.2.2.2.1) z.1 = some (nI (flS z)) := by
  have a1 : m_X10_men z.1 0 1 = _ := x10_men hb (c := 0) (by omega) true
  have a2 : m_X10_men z.1 1 1 = _ := x10_men hb (c := 1) (by omega) true
  have a3 : m_X10_men z.1 0 0 = _ := x10_men hb (c := 0) (by omega) false
  have a4 : m_X10_men z.1 1 0 = _ := x10_men hb (c := 1) (by omega) false
  have l1 := mcN_le z.1 0 true
  have l2 := mcN_le z.1 1 true
  have l3 := mcN_le z.1 0 false
  have l4 := mcN_le z.1 1 false
  have c1 : nI (mcN z.1 0 true) = 1 ↔ mcN z.1 0 true = 1 := nI_eq (b := 1) (by omega) (by omega)
  have c2 : nI (mcN z.1 1 true) = 1 ↔ mcN z.1 1 true = 1 := nI_eq (b := 1) (by omega) (by omega)
  have c3 : (16 : Int32) < nI (mcN z.1 0 false) ↔ 16 < mcN z.1 0 false := nI_ltI (a := 16) (by omega) (by omega)
  have c4 : nI (mcN z.1 1 false) ≤ 16 ↔ mcN z.1 1 false ≤ 16 := nI_leI (b := 16) (by omega) (by omega)
  have e1 : (1 : Int32) - nI z.2.1 = nI (1 - z.2.1) := pk_sub (a := 1) (by omega)
  unfold m_X10_faultNow m_X10_faultNow_b42 m_X10_faultNow_b94
  rw [ob_s a1, ob_s a2, ob_s a3, ob_s a4, ob_s (x10_isEdgePawn hb), e1, ob_s (x10_inCheck hb (by omega)), ob_s (x10_areRights hr), ob_s (x10_isPassed hc hp)]
  simp only [c1, c2, c3, c4, bI_if]
  unfold flS kcB
  by_cases d1 : mcN z.1 0 true = 1
  case neg => simp [d1]; rfl
  by_cases d2 : mcN z.1 1 true = 1
  case neg => simp [d1, d2]; rfl
  by_cases d3 : 16 < mcN z.1 0 false
  case pos =>
    have : ¬ mcN z.1 0 false ≤ 16 := by omega
    simp [d1, d2, d3, this]; rfl
  have d3' : mcN z.1 0 false ≤ 16 := by omega
  by_cases d4 : mcN z.1 1 false ≤ 16
  case neg => simp [d1, d2, d3, d4]; rfl
  simp only [d1, d2, d3, d3', d4, if_true, if_false, decide_true, Bool.true_and, Bool.true_eq_false]
  cases anyB (egQ z.1) 64 <;> cases chkS z.1 (1 - z.2.1) <;> cases rgB z.1 z.2.2.1 <;> cases pqB z <;> rfl
theorem cb_one {p : Nat → Bool} {n : Nat} (h : cb p n = 1) : ∃ k, k < n ∧ p k = true ∧ ∀ s, s < n → p s = true → s = k := by
  obtain ⟨k, hk, hpk⟩ := cb_pos (p := p) (n := n) (by omega)
  refine ⟨k, hk, hpk, fun s hs hps => ?_⟩
  by_cases g : s = k
  · exact g
  · have e1 := cb_drop1 (q := fun i => p i && decide (i ≠ k)) hpk (fun _ => rfl) hk
    have e2 := cb_drop1 (p := fun i => p i && decide (i ≠ k)) (q := fun i => (p i && decide (i ≠ k)) && decide (i ≠ s)) (k := s) (by simp [hps, g]) (fun _ => rfl) hs
    omega
theorem km_iff {m : Int32} (h : mOK m) {c : Nat} (hc : c < 2) : (msd m c && (!true || decide (kd m = 6))) = true ↔ m = kmn c := by
  have : c = 0 ∨ c = 1 := by omega
  rcases this with g | g <;> subst g <;> rcases mOK_cases h with q | q | q | q | q | q | q | q | q | q | q | q | q <;> subst q <;> decide
theorem kc_king {bd : Nat → Int32} (hb : gbd bd) {c : Nat} (hc : c < 2) (h : mcN bd c true = 1) : ∃ k, isK bd c k := by
  obtain ⟨k, h1, h2, h3⟩ := cb_one h
  exact ⟨k, h1, (km_iff (hb.1 k h1) hc).mp h2, fun s hs e => h3 s hs ((km_iff (hb.1 s hs) hc).mpr e)⟩
theorem kc_parts {bd : Nat → Int32} (h : kcB bd = true) : mcN bd 0 true = 1 ∧ mcN bd 1 true = 1 ∧ mcN bd 0 false ≤ 16 ∧ mcN bd 1 false ≤ 16 := by
  unfold kcB at h
  simp only [Bool.and_eq_true, decide_eq_true_eq] at h
  exact ⟨h.1.1.1, h.1.1.2, h.1.2, h.2⟩
theorem kc_c {bd : Nat → Int32} (h : kcB bd = true) {c : Nat} (hc : c < 2) : mcN bd c true = 1 ∧ mcN bd c false ≤ 16 := by
  obtain ⟨h1, h2, h3, h4⟩ := kc_parts h
  have : c = 0 ∨ c = 1 := by omega
  rcases this with g | g <;> subst g
  · exact ⟨h1, h3⟩
  · exact ⟨h2, h4⟩
theorem mc_all (bd : Nat → Int32) (c : Nat) : mcN bd c false = cb (fun s => msd (bd s) c) 64 := cb_cong (fun i _ => by unfold mcB; simp)
theorem fl_inv {z : Pz} (hb : gbd z.1) (hc : z.2.1 < 2) (hr : z.2.2.1 < 16) (hp : z.2.2.2.1 ≤ 64) (h : flS z = 0) : inv z := by
  unfold flS at h
  by_cases d1 : kcB z.1 = false
  · rw [if_pos d1] at h; cases h
  rw [if_neg d1] at h
  by_cases d2 : anyB (egQ z.1) 64 = true
  · rw [if_pos d2] at h; cases h
  rw [if_neg d2] at h
  by_cases d3 : chkS z.1 (1 - z.2.1) = true
  · rw [if_pos d3] at h; cases h
  rw [if_neg d3] at h
  by_cases d4 : rgB z.1 z.2.2.1 = false
  · rw [if_pos d4] at h; cases h
  rw [if_neg d4] at h
  by_cases d5 : pqB z = false
  · rw [if_pos d5] at h; cases h
  have d1' : kcB z.1 = true := by cases e : kcB z.1 with | true => rfl | false => exact absurd e d1
  have d4' : rgB z.1 z.2.2.1 = true := by cases e : rgB z.1 z.2.2.1 with | true => rfl | false => exact absurd e d4
  have d5' : pqB z = true := by cases e : pqB z with | true => rfl | false => exact absurd e d5
  refine ⟨hb, hc, hr, hp, fun c h2 => kc_king hb h2 (kc_c d1' h2).1, fun c h2 => ?_, fun c h2 sh e => ?_, fun s hs e => ?_, bF d3, fun h2 => ?_⟩
  · rw [← mc_all]; exact (kc_c d1' h2).2
  · have q : rqB z.1 z.2.2.1 c sh = true := by
      unfold rgB at d4'
      simp only [Bool.and_eq_true] at d4'
      have : c = 0 ∨ c = 1 := by omega
      rcases this with g | g <;> subst g <;> cases sh
      · exact d4'.1.1.2
      · exact d4'.1.1.1.2
      · exact d4'.2
      · exact d4'.1.2
    unfold rqB at q
    rw [e] at q
    simp only [Bool.not_true, Bool.false_or, Bool.and_eq_true, decide_eq_true_eq] at q
    exact q
  · have : egQ z.1 s = false := by
      cases q : egQ z.1 s with
      | false => rfl
      | true => exact absurd (anyB_iff.mpr ⟨s, hs, q⟩) d2
    unfold egQ at this
    rw [decide_eq_true e, Bool.true_and, Bool.or_eq_false_iff] at this
    have h1 := of_decide_eq_false this.1
    have h2 := of_decide_eq_false this.2
    omega
  · unfold pqB at d5'
    rw [decide_eq_false (show ¬ z.2.2.2.1 = 64 by omega), Bool.false_or] at d5'
    simp only [Bool.and_eq_true, decide_eq_true_eq] at d5'
    exact ⟨d5'.1.1.1, d5'.1.1.2, d5'.2⟩
theorem em_tb : (List.range 64).all (fun s => bt (-72057594037927681) s == (decide (s < 8) || decide (56 ≤ s))) = true := by decide +kernel
theorem em_all {s : Nat} (h : s < 64) : bt (-72057594037927681) s = (decide (s < 8) || decide (56 ≤ s)) := by
  have := all_lt em_tb (i := s) h
  exact beq_iff_eq.mp this
theorem x1_hasWrongCount {bd : Nat → Int32} {kinds sides : Nat → Int64} (hB : brP bd kinds sides) {c : Nat} (hc : c < 2) : m_X1_hasWrongCount kinds sides (nI c) = some (bI (!(decide (mcN bd c true = 1) && decide (mcN bd c false ≤ 16)))) := by
  have e1 : cb (bt (sides c &&& kinds 6)) 64 = mcN bd c true := cb_cong (fun i hi => by
    rw [bt_and, hB.2 c i hc hi, hB.1 6 i (by omega) (by omega) hi]
    rfl)
  have e2 : cb (bt (sides c)) 64 = mcN bd c false := by
    rw [mc_all]
    exact cb_cong (fun i hi => hB.2 c i hc hi)
  have l1 := mcN_le bd c true
  have l2 := mcN_le bd c false
  have c1 : nI (mcN bd c true) = 1 ↔ mcN bd c true = 1 := nI_eq (b := 1) (by omega) (by omega)
  have c2 : nI (mcN bd c false) ≤ 16 ↔ mcN bd c false ≤ 16 := nI_leI (b := 16) (by omega) (by omega)
  have e6 : Int32.toNatClampNeg 6 = 6 := rfl
  unfold m_X1_hasWrongCount m_X1_hasWrongCount_b32 m_X1_hasWrongCount_b37
  rw [oin_n hc (by omega), nI_clamp (by omega), ol_r, e6, ob_s (bitCount_eq _), ob_s (bitCount_eq _), e1, e2]
  by_cases d1 : mcN bd c true = 1
  · by_cases d2 : mcN bd c false ≤ 16
    · rw [if_pos (c1.mpr d1), if_pos (c2.mpr d2), decide_eq_true d1, decide_eq_true d2]; rfl
    · rw [if_pos (c1.mpr d1), if_neg (fun w => d2 (c2.mp w)), decide_eq_true d1, decide_eq_false d2]; rfl
  · rw [if_neg (fun w => d1 (c1.mp w)), decide_eq_false d1]; rfl
theorem x1_of {z : Pz} (hb : gbd z.1) (hc : z.2.1 < 2) (hr : z.2.2.1 < 16) (hp : z.2.2.2.1 ≤ 64) {kinds sides rays kns kgs pws : Nat → Int64} (hT : lnT rays kns kgs pws) (hB : brP z.1 kinds sides) : m_X1_of (nI z.2.1) (nI z.2.2.1) (pI z.2.2.2.1) z.1 kinds sides rays kns kgs pws = some (nI (flS z)) := by
  have a1 : m_X1_hasWrongCount kinds sides 0 = _ := x1_hasWrongCount hB (c := 0) (by omega)
  have a2 : m_X1_hasWrongCount kinds sides 1 = _ := x1_hasWrongCount hB (c := 1) (by omega)
  have e1 : (1 : Int32) - nI z.2.1 = nI (1 - z.2.1) := pk_sub (a := 1) (by omega)
  unfold m_X1_of m_X1_of_b16 m_X1_of_b66 m_X1_of_b88 m_X1_of_b89
  rw [ob_s a1]
  simp only [ob_s a2, bI_if]
  by_cases d1 : kcB z.1 = true
  case neg =>
    have : flS z = 2 := by unfold flS; rw [if_pos (bF d1)]
    rw [this]
    unfold kcB at d1
    by_cases q1 : mcN z.1 0 true = 1 <;> by_cases q2 : mcN z.1 1 true = 1 <;> by_cases q3 : mcN z.1 0 false ≤ 16 <;> by_cases q4 : mcN z.1 1 false ≤ 16 <;> simp [q1, q2, q3, q4] at d1 ⊢ <;> rfl
  obtain ⟨q1, q2, q3, q4⟩ := kc_parts d1
  have hk : ∃ k, isK z.1 (1 - z.2.1) k := kc_king hb (by omega) (kc_c d1 (by omega)).1
  obtain ⟨k, hK⟩ := hk
  have a3 := x0_isInCheck hb hT hB (c := 1 - z.2.1) (by omega) hK
  have a4 : m_X1_hasWrongRight (nI z.2.2.1) z.1 0 = _ := x1_hasWrongRight hr (c := 0) (by omega)
  have a5 : m_X1_hasWrongRight (nI z.2.2.1) z.1 1 = _ := x1_hasWrongRight hr (c := 1) (by omega)
  have ek : Int32.toNatClampNeg 1 = 1 := rfl
  have hed : lg_cmp (kinds 1 &&& (-72057594037927681)) 0 = 0 ↔ anyB (egQ z.1) 64 = false := by
    rw [lg0]
    have hn := bt_ne0 (x := kinds 1 &&& (-72057594037927681))
    have h2 : (∃ i, i < 64 ∧ bt (kinds 1 &&& (-72057594037927681)) i = true) ↔ anyB (egQ z.1) 64 = true := by
      rw [anyB_iff]
      constructor
      · rintro ⟨i, hi, g⟩
        refine ⟨i, hi, ?_⟩
        rw [bt_and, hB.1 1 i (by omega) (by omega) hi, em_all hi] at g
        exact g
      · rintro ⟨i, hi, g⟩
        refine ⟨i, hi, ?_⟩
        rw [bt_and, hB.1 1 i (by omega) (by omega) hi, em_all hi]
        exact g
    rw [h2] at hn
    cases e : anyB (egQ z.1) 64 with
    | false => rw [e] at hn; exact ⟨fun _ => rfl, fun _ => by
        cases Classical.em (kinds 1 &&& (-72057594037927681) = 0) with
        | inl y => exact y
        | inr y => exact absurd (hn.mp y) (by decide)⟩
    | true => rw [e] at hn; exact ⟨fun y => absurd y (hn.mpr rfl), fun y => by cases y⟩
  rw [e1, ek]
  simp only [hed, ob_s a3, ob_s a4, ob_s a5, bI_if]
  unfold flS
  rw [d1]
  simp only [q1, q2, q3, q4, decide_true, Bool.and_true, Bool.not_true, Bool.false_eq_true, if_false, Bool.true_eq_false]
  have hrg : rgB z.1 z.2.2.1 = ((rqB z.1 z.2.2.1 0 true && rqB z.1 z.2.2.1 0 false) && (rqB z.1 z.2.2.1 1 true && rqB z.1 z.2.2.1 1 false)) := by
    unfold rgB
    rw [Bool.true_and, Bool.and_assoc]
  rw [hrg]
  generalize (rqB z.1 z.2.2.1 0 true && rqB z.1 z.2.2.1 0 false) = R0
  generalize (rqB z.1 z.2.2.1 1 true && rqB z.1 z.2.2.1 1 false) = R1
  by_cases g : z.2.2.2.1 = 64
  · have hpq : pqB z = true := by unfold pqB; rw [decide_eq_true g]; rfl
    have e6 : pI z.2.2.2.1 = -1 := by rw [g]; rfl
    rw [e6, hpq]
    cases anyB (egQ z.1) 64 <;> cases chkS z.1 (1 - z.2.1) <;> cases R0 <;> cases R1 <;> rfl
  · have e6 : ¬ pI z.2.2.2.1 = -1 := by rw [pI_lt (by omega)]; exact nI_nm1 (by omega)
    simp only [e6, if_false, ob_s (x1_hasWrongPassed hc (show z.2.2.2.1 < 64 by omega)), bI_if]
    cases anyB (egQ z.1) 64 <;> cases chkS z.1 (1 - z.2.1) <;> cases R0 <;> cases R1 <;> cases pqB z <;> rfl
