/-! The short calls: both alike. -/
def bothI (L : Option (Int32 × (Nat → Int64))) (X : Option (Int32 × Int32)) : Prop := ∃ (r r2 : Int32) (out' : Nat → Int64), L = some (r, out') ∧ X = some (r2, r) ∧ (r = 0 → lg_cmp (out' 0) r2.toInt64 = 0)
theorem lg_same (x : Int64) : lg_cmp x x = 0 := (lg_cmp_eq x x).mpr rfl
theorem n_or (p : Int32) : p < 0 ∨ ∃ n, n < 2 ^ 31 ∧ p = nI n := by
  by_cases h : p < 0
  · exact Or.inl h
  · exact Or.inr (nat_of h)
theorem tn0 : Int32.toNatClampNeg 0 = 0 := rfl
theorem wr_both {wl : List Nat} (hw : wl.length ≤ 128) {a1 a2 : Nat → Int32} (h1 : wrP wl a1) (h2 : wrP wl a2) (out : Nat → Int64) (code p : Int32) : bothI (m_L_written (nI wl.length) a1 out p) (m_X10_written code (nI wl.length) a2 p) := by
  unfold m_L_written m_X9_written m_X9_written_b15 m_X10_written m_X10_written_b13 m_X10_written_b18 m_X10_written_b38
  rcases n_or p with q | ⟨n, hn, e⟩
  · rw [if_pos q, if_pos q]
    exact ⟨1, 0, out, rfl, rfl, fun w => absurd w (by decide)⟩
  · subst e
    have hq : ¬ nI n < 0 := nI_nlt (b := 0) (by omega) (by omega)
    have c : nI n < nI wl.length ↔ n < wl.length := nI_ltI (by omega) (by omega)
    rw [if_neg hq, if_neg hq]
    by_cases g : n < wl.length
    · have e1 := h1 n _ (List.getElem?_eq_getElem g)
      have e2 := h2 n _ (List.getElem?_eq_getElem g)
      rw [if_pos (c.mpr g), if_pos (c.mpr g), oin_n (by omega) (by omega), if_pos (by decide), oin_n (by omega) (by omega), nI_clamp (by omega), e1, e2]
      exact ⟨0, _, _, rfl, rfl, fun _ => lg_same _⟩
    · rw [if_neg (fun w => g (c.mp w)), if_neg (fun w => g (c.mp w))]
      exact ⟨1, 0, out, rfl, rfl, fun w => absurd w (by decide)⟩
theorem x9_isSq {n : Nat} (hn : n < 2 ^ 31) : m_X9_isSquare (nI n) = some (bI (decide (n < 64))) := by
  unfold m_X9_isSquare m_X9_isSquare_b14 m_X9_isSquare_b15
  have c : (64 : Int32) ≤ nI n ↔ 64 ≤ n := nI_leI (a := 64) (by omega) (by omega)
  rw [if_neg (show ¬ nI n < 0 from nI_nlt (b := 0) (by omega) (by omega))]
  by_cases g : n < 64
  · rw [if_neg (fun w => by have := c.mp w; omega), decide_eq_true g]; rfl
  · rw [if_pos (c.mpr (by omega)), decide_eq_false g]; rfl
theorem x9_isSq0 {p : Int32} (h : p < 0) : m_X9_isSquare p = some 0 := by
  unfold m_X9_isSquare m_X9_isSquare_b14 m_X9_isSquare_b15
  rw [if_pos h]; rfl
theorem man_both (bd : Nat → Int32) (out : Nat → Int64) (code p : Int32) : bothI (m_L_man bd out p) (m_X10_man code bd p) := by
  unfold m_L_man m_X9_man m_X10_man m_X10_man_b11 m_X10_man_b16 m_X10_man_b36
  rcases n_or p with q | ⟨n, hn, e⟩
  · rw [ob_s (x9_isSq0 q), if_pos rfl, if_pos q]
    exact ⟨1, 0, out, rfl, rfl, fun w => absurd w (by decide)⟩
  · subst e
    have c : nI n ≤ 63 ↔ n ≤ 63 := nI_leI (b := 63) (by omega) (by omega)
    rw [ob_s (x9_isSq hn), if_neg (show ¬ nI n < 0 from nI_nlt (b := 0) (by omega) (by omega))]
    by_cases g : n < 64
    · rw [decide_eq_true g, if_neg bI_tn, if_pos (c.mpr (by omega)), oin_n g (by omega), if_pos (by decide), oin_n g (by omega), nI_clamp (by omega)]
      exact ⟨0, _, _, rfl, rfl, fun _ => lg_same _⟩
    · rw [decide_eq_false g, if_pos bI_fz, if_neg (fun w => by have := c.mp w; omega)]
      exact ⟨1, 0, out, rfl, rfl, fun w => absurd w (by decide)⟩
theorem about_both {z : Pz} (hi : inv z) {kinds sides rays kns kgs pws : Nat → Int64} (hT : lnT rays kns kgs pws) (hB : brP z.1 kinds sides) (out : Nat → Int64) (code p : Int32) : bothI (m_L_about (nI z.2.1) (nI z.2.2.1) (pI z.2.2.2.1) (nI z.2.2.2.2.1) (nI z.2.2.2.2.2) kinds sides rays kns kgs pws out p) (m_X10_about code (nI z.2.1) (nI z.2.2.1) (pI z.2.2.2.1) (nI z.2.2.2.2.1) (nI z.2.2.2.2.2) z.1 p) := by
  obtain ⟨hb, hc, hr, hp, hK, h16, hR, hP, hN, hE⟩ := hi
  obtain ⟨k, hk⟩ := hK _ hc
  have a3 := x0_isInCheck hb hT hB hc hk
  have a4 := x10_inCheck hb hc
  have bad : ¬ p = 0 → ¬ p = 1 → ¬ p = 2 → ¬ p = 3 → ¬ p = 4 → ¬ p = 5 → (p < 0 ∨ ¬ p ≤ 5) → bothI (m_L_about (nI z.2.1) (nI z.2.2.1) (pI z.2.2.2.1) (nI z.2.2.2.2.1) (nI z.2.2.2.2.2) kinds sides rays kns kgs pws out p) (m_X10_about code (nI z.2.1) (nI z.2.2.1) (pI z.2.2.2.1) (nI z.2.2.2.2.1) (nI z.2.2.2.2.2) z.1 p) := by
    intro q0 q1 q2 q3 q4 q5 q
    unfold m_L_about m_X9_about m_X10_about m_X10_about_b10 m_X10_about_b15
    rw [if_neg q0, if_neg q1, if_neg q2, if_neg q3, if_neg q4, if_neg q5]
    rcases q with q | q
    · rw [if_pos q]
      exact ⟨1, 0, out, rfl, rfl, fun w => absurd w (by decide)⟩
    · rw [if_neg q, ite_self]
      exact ⟨1, 0, out, rfl, rfl, fun w => absurd w (by decide)⟩
  rcases n_or p with q | ⟨n, hn, e⟩
  · refine bad ?_ ?_ ?_ ?_ ?_ ?_ (Or.inl q) <;> (intro w; subst w; revert q; decide)
  · subst e
    by_cases g : n ≤ 5
    · unfold m_L_about m_X9_about m_X9_about_b102 m_X10_about m_X10_about_b15 m_X10_about_b105
      have : n = 0 ∨ n = 1 ∨ n = 2 ∨ n = 3 ∨ n = 4 ∨ n = 5 := by omega
      rcases this with q | q | q | q | q | q <;> subst q
      · exact ⟨0, _, _, rfl, rfl, fun _ => lg_same _⟩
      · exact ⟨0, _, _, rfl, rfl, fun _ => lg_same _⟩
      · exact ⟨0, _, _, rfl, rfl, fun _ => lg_same _⟩
      · exact ⟨0, _, _, rfl, rfl, fun _ => lg_same _⟩
      · exact ⟨0, _, _, rfl, rfl, fun _ => lg_same _⟩
      · cases hx : chkS z.1 z.2.1 with
        | true =>
          rw [hx] at a3 a4
          rw [if_neg (by decide), if_neg (by decide), if_neg (by decide), if_neg (by decide), if_neg (by decide), if_pos (by decide), ob_s a3, if_neg bI_tn, if_neg (by decide), if_pos (by decide), if_pos (by decide), if_neg (by decide), if_neg (by decide), if_neg (by decide), if_neg (by decide), if_neg (by decide), ob_s a4, if_neg bI_tn]
          exact ⟨0, _, _, rfl, rfl, fun _ => lg_same _⟩
        | false =>
          rw [hx] at a3 a4
          rw [if_neg (by decide), if_neg (by decide), if_neg (by decide), if_neg (by decide), if_neg (by decide), if_pos (by decide), ob_s a3, if_pos bI_fz, if_neg (by decide), if_pos (by decide), if_pos (by decide), if_neg (by decide), if_neg (by decide), if_neg (by decide), if_neg (by decide), if_neg (by decide), ob_s a4, if_pos bI_fz]
          exact ⟨0, _, _, rfl, rfl, fun _ => lg_same _⟩
    · have c : nI n ≤ 5 ↔ n ≤ 5 := nI_leI (b := 5) (by omega) (by omega)
      exact bad (fun w => by have := (nI_eq (b := 0) hn (by omega)).mp w; omega) (fun w => by have := (nI_eq (b := 1) hn (by omega)).mp w; omega) (fun w => by have := (nI_eq (b := 2) hn (by omega)).mp w; omega) (fun w => by have := (nI_eq (b := 3) hn (by omega)).mp w; omega) (fun w => by have := (nI_eq (b := 4) hn (by omega)).mp w; omega) (fun w => by have := (nI_eq (b := 5) hn (by omega)).mp w; omega) (Or.inr (fun w => g (c.mp w)))
/-- attacked: the reference's answer is a boolean -/
theorem attacked_both {bd : Nat → Int32} (hb : gbd bd) {kinds sides rays kns kgs pws : Nat → Int64} (hT : lnT rays kns kgs pws) (hB : brP bd kinds sides) (out : Nat → Int64) (code p1 p2 : Int32) : ∃ (r r2 : Int32) (out' : Nat → Int64), m_L_attacked kinds sides rays kns kgs pws out p1 p2 = some (r, out') ∧ m_X10_attacked code bd p1 p2 = some (r2, r) ∧ (r = 0 → (r2 = 0 ∧ out' 0 = 0) ∨ (¬ r2 = 0 ∧ out' 0 = 1)) := by
  unfold m_L_attacked m_L_attacked_b16 m_X9_attacked m_X9_attacked_b32 m_X10_attacked m_X10_attacked_b11 m_X10_attacked_b24 m_X10_attacked_b29 m_X10_attacked_b52 m_X10_attacked_b53
  rcases n_or p1 with q | ⟨n, hn, e⟩
  · rw [ob_s (x9_isSq0 q), if_pos rfl, if_pos q]
    exact ⟨1, 0, out, rfl, rfl, fun w => absurd w (by decide)⟩
  · subst e
    have c : nI n ≤ 63 ↔ n ≤ 63 := nI_leI (b := 63) (by omega) (by omega)
    rw [ob_s (x9_isSq hn), if_neg (show ¬ nI n < 0 from nI_nlt (b := 0) (by omega) (by omega))]
    by_cases g : n < 64
    case neg =>
      rw [decide_eq_false g, if_pos bI_fz, if_neg (fun w => by have := c.mp w; omega)]
      exact ⟨1, 0, out, rfl, rfl, fun w => absurd w (by decide)⟩
    rw [decide_eq_true g, if_neg bI_tn, if_pos (c.mpr (by omega))]
    have key : ∀ d, d < 2 → ∃ (r r2 : Int32) (out' : Nat → Int64), (ob (ob (m_X0_everyone sides) fun r_1 => ob (m_X0_isStruck kinds sides rays kns kgs pws (nI n) (nI d) r_1) fun r_3 => obl (r_3) (some ((0 : Int32), r_3))) fun (x : Int32 × Int32) => if x.1 = 0 then if x.2 = 0 then oin 0 1 (ol (vp_updL out (Int32.toNatClampNeg 0) 0) fun a_out_2 => some ((0 : Int32), a_out_2)) else oin 0 1 (ol (vp_updL out (Int32.toNatClampNeg 0) 1) fun a_out_2 => some (0, a_out_2)) else if x.1 = 1 then some (1, out) else if x.1 = 2 then some (2, out) else none) = some (r, out') ∧ (ob (m_X10_isAttacked bd (nI n) (nI d)) fun r_3 => if r_3 = 0 then obl 0 (some ((0 : Int32), (0 : Int32))) else obl 1 (some (1, 0))) = some (r2, r) ∧ (r = 0 → (r2 = 0 ∧ out' 0 = 0) ∨ (¬ r2 = 0 ∧ out' 0 = 1)) := by
      intro d hd
      obtain ⟨E, e1, hE⟩ := x0_everyone hB
      obtain ⟨b, e2, hb2⟩ := x0_isStruck hT hB g hd E
      have hab : b = attS bd n d := by
        have h1 := att_iff hb (c := d) g
        have h2 : attG bd (bt E) n d ↔ attG bd (occ bd) n d := attG_cong g (fun s hs _ => ⟨hE s hs, fun _ _ => rfl⟩)
        cases hx : attS bd n d with
        | true => exact hb2.mpr (h2.mpr (h1.mp hx))
        | false =>
          cases hy : b with
          | false => rfl
          | true =>
            have := h1.mpr (h2.mp (hb2.mp hy))
            rw [hx] at this; cases this
      rw [ob_s e1, ob_s e2, ob_s (x10_isAttacked hb g hd), obl_b, ← hab]
      cases b with
      | true => exact ⟨0, 1, vp_updL out 0 1, rfl, rfl, fun _ => Or.inr ⟨by decide, rfl⟩⟩
      | false => exact ⟨0, 0, vp_updL out 0 0, rfl, rfl, fun _ => Or.inl ⟨rfl, rfl⟩⟩
    rcases n_or p2 with q | ⟨d, hd, e⟩
    · have h0 : ¬ p2 = 0 := by intro w; subst w; revert q; decide
      have h1 : ¬ p2 = 1 := by intro w; subst w; revert q; decide
      rw [if_neg h0, if_neg h1, if_pos q]
      exact ⟨2, 0, out, rfl, rfl, fun w => absurd w (by decide)⟩
    · subst e
      by_cases w : d < 2
      · have : d = 0 ∨ d = 1 := by omega
        rcases this with y | y <;> subst y
        · exact key 0 (by omega)
        · exact key 1 (by omega)
      · have c0 : ¬ nI d = 0 := fun y => by have := (nI_eq (b := 0) hd (by omega)).mp y; omega
        have c1 : ¬ nI d = 1 := fun y => by have := (nI_eq (b := 1) hd (by omega)).mp y; omega
        have c2 : ¬ nI d ≤ 1 := nI_ge (a := 1) (by omega) hd
        have c3 : ¬ nI d < 0 := nI_nlt (b := 0) (by omega) (by omega)
        rw [if_neg c0, if_neg c1, if_neg c3, if_neg c2]
        exact ⟨2, 0, out, rfl, rfl, fun w => absurd w (by decide)⟩
/-- the move chosen -/
def chI : Option Mv → Int32
  | none => -1
  | some m => nI (enM m)
def mvOK (m : Mv) : Prop := m.1 < 64 ∧ m.2.1 < 64 ∧ m.2.2 ≤ 5
def CV (choice c1 c2 c3 : Int32) : Prop := ∃ cm : Option Mv, choice = chI cm ∧ c1 = (cvI cm).1 ∧ c2 = (cvI cm).2.1 ∧ c3 = (cvI cm).2.2 ∧ ∀ m, cm = some m → mvOK m
theorem enM_lt2 {m : Mv} (h : mvOK m) : enM m < 2 ^ 31 := by
  unfold enM mvOK at *
  omega
theorem x9_part {m : Mv} (h : mvOK m) {d : Nat} (hd : d ≤ 2) : m_X9_part (nI (enM m)) (nI d) = some (if d = 0 then nI m.1 else if d = 1 then nI m.2.1 else nI m.2.2) := by
  obtain ⟨f, t, u⟩ := m
  obtain ⟨h1, h2, h3⟩ := h
  unfold m_X9_part m_X9_part_b25
  have : d = 0 ∨ d = 1 ∨ d = 2 := by omega
  rcases this with q | q | q <;> subst q
  · rw [if_pos (by decide), ob_s (x9_fromOf h1 h2 h3)]; rfl
  · rw [if_neg (by decide), if_pos (by decide), ob_s (x9_toOf h1 h2 h3)]; rfl
  · rw [if_neg (by decide), if_neg (by decide), ob_s (x9_becomesOf h1 h2 h3)]; rfl
theorem x9_isPart0 {p : Int32} (h : p < 0 ∨ 2 < p) : m_X9_isPart p = some 0 := by
  unfold m_X9_isPart m_X9_isPart_b13 m_X9_isPart_b14
  rcases h with h | h
  · rw [if_pos h]; rfl
  · rw [if_pos h, ite_self]; rfl
theorem x9_isPart1 {d : Nat} (hd : d ≤ 2) : m_X9_isPart (nI d) = some 1 := by
  have : d = 0 ∨ d = 1 ∨ d = 2 := by omega
  rcases this with q | q | q <;> subst q <;> rfl
theorem p_or (p : Int32) : (p < 0 ∨ 2 < p) ∨ ∃ d, d ≤ 2 ∧ p = nI d := by
  rcases n_or p with q | ⟨n, hn, e⟩
  · exact Or.inl (Or.inl q)
  · subst e
    by_cases g : n ≤ 2
    · exact Or.inr ⟨n, g, rfl⟩
    · exact Or.inl (Or.inr (nI_lt (a := 2) (by omega) hn))
theorem chosen_both {choice c1 c2 c3 : Int32} (h : CV choice c1 c2 c3) (out : Nat → Int64) (code p : Int32) : bothI (m_L_chosen choice out p) (m_X10_chosen code c1 c2 c3 p) := by
  obtain ⟨cm, e0, e1, e2, e3, hm⟩ := h
  subst e0 e1 e2 e3
  unfold m_L_chosen m_X9_chosen m_X9_chosen_b35 m_X10_chosen m_X10_chosen_b10 m_X10_chosen_b15 m_X10_chosen_b56
  rcases p_or p with q | ⟨d, hd, e⟩
  · rw [ob_s (x9_isPart0 q), if_pos rfl]
    rcases q with q | q
    · rw [if_pos q]
      exact ⟨1, 0, out, rfl, rfl, fun w => absurd w (by decide)⟩
    · have : ¬ p ≤ 2 := fun w => by rw [i_le] at w; rw [i_lt] at q; omega
      rw [if_neg this, ite_self]
      exact ⟨1, 0, out, rfl, rfl, fun w => absurd w (by decide)⟩
  · subst e
    rw [ob_s (x9_isPart1 hd), if_neg (by decide)]
    cases cm with
    | none =>
      have : d = 0 ∨ d = 1 ∨ d = 2 := by omega
      rcases this with q | q | q <;> subst q <;> exact ⟨0, _, _, rfl, rfl, fun _ => lg_same _⟩
    | some m =>
      have hok := hm m rfl
      have hne : ¬ chI (some m) = -1 := nI_nm1 (enM_lt2 hok)
      rw [if_neg hne, show chI (some m) = nI (enM m) from rfl, ob_s (x9_part hok hd)]
      have : d = 0 ∨ d = 1 ∨ d = 2 := by omega
      rcases this with q | q | q <;> subst q <;> exact ⟨0, _, _, rfl, rfl, fun _ => lg_same _⟩
