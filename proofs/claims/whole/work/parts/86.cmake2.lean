/-! The class makes a legal move, and takes it back. -/
theorem upd_same {bd : Nat → Int32} {k : Nat} {x : Int32} (h : bd k = x) : upd bd k x = bd := by
  funext s
  by_cases q : s = k
  · subst q; rw [pk_us, h]
  · rw [pk_un q]
theorem paw_dn {c f p : Nat} (hc : c < 2) (hf : f < 64) (hp : p < 64) (hr : rkS c p = 5) : pawB c f p = true ↔ (1 ≤ p % 8 ∧ f = dnS c p - 1) ∨ (p % 8 ≤ 6 ∧ f = dnS c p + 1) := by
  unfold rkS at hr
  unfold pawB dnS absD
  have : c = 0 ∨ c = 1 := by omega
  rcases this with q | q
  · subst q
    simp at hr
    simp only [Bool.and_eq_true, decide_eq_true_eq, if_true]
    constructor
    · rintro ⟨h1, h2⟩
      split at h1 <;> omega
    · rintro (⟨h1, h2⟩ | ⟨h1, h2⟩)
      · subst h2
        refine ⟨?_, by omega⟩
        split <;> omega
      · subst h2
        refine ⟨?_, by omega⟩
        split <;> omega
  · subst q
    simp at hr
    simp only [Bool.and_eq_true, decide_eq_true_eq, show ¬ ((1 : Nat) = 0) by omega, if_false]
    constructor
    · rintro ⟨h1, h2⟩
      split at h1 <;> omega
    · rintro (⟨h1, h2⟩ | ⟨h1, h2⟩)
      · subst h2
        refine ⟨?_, by omega⟩
        split <;> omega
      · subst h2
        refine ⟨?_, by omega⟩
        split <;> omega
/-- the passed square can be taken -/
theorem tkn_iff {z : Pz} (hi : inv z) {k : Nat} (hK : isK z.1 z.2.1 k) (hp : z.2.2.2.1 < 64) : tknS z.1 z.2.1 z.2.2.2.1 = true ↔ ∃ f, f < 64 ∧ z.1 f = pmn z.2.1 ∧ pawB z.2.1 f z.2.2.2.1 = true ∧ ¬ attG z.1 (epO z.1 z.2.1 z.2.2.2.1 f) k (1 - z.2.1) := by
  have hi2 := hi
  obtain ⟨hb, hc, hr, hpp, hKK, h16, hR, hPw, hN, hE⟩ := hi
  have hrk := (hE hp).1
  have hdl : dnS z.2.1 z.2.2.2.1 < 64 := dnS_lt hc hp (fun h => by
    unfold rkS at hrk
    rw [if_neg (by omega)] at hrk
    omega)
  have hdb : 8 ≤ dnS z.2.1 z.2.2.2.1 ∧ dnS z.2.1 z.2.2.2.1 < 56 ∧ dnS z.2.1 z.2.2.2.1 % 8 = z.2.2.2.1 % 8 := by
    unfold rkS at hrk
    unfold dnS
    split
    · rename_i g
      rw [if_pos g] at hrk
      omega
    · rename_i g
      rw [if_neg g] at hrk
      omega
  unfold tknS
  rw [Bool.or_eq_true]
  simp only [Bool.and_eq_true, decide_eq_true_eq]
  constructor
  · rintro (⟨h1, h2, h3⟩ | ⟨h1, h2, h3⟩)
    · have hw := (paw_dn hc (f := dnS z.2.1 z.2.2.2.1 - 1) (by omega) hp hrk).mpr (Or.inl ⟨h1, rfl⟩)
      exact ⟨_, by omega, h2, hw, (saf_ep hi2 hK (by omega) rfl hp h2 hw).mp h3⟩
    · have hw := (paw_dn hc (f := dnS z.2.1 z.2.2.2.1 + 1) (by omega) hp hrk).mpr (Or.inr ⟨h1, rfl⟩)
      exact ⟨_, by omega, h2, hw, (saf_ep hi2 hK (by omega) rfl hp h2 hw).mp h3⟩
  · rintro ⟨f, hf, h1, h2, h3⟩
    have h4 := (saf_ep hi2 hK hf rfl hp h1 h2).mpr h3
    rcases (paw_dn hc hf hp hrk).mp h2 with ⟨a, b⟩ | ⟨a, b⟩
    · subst b
      exact Or.inl ⟨a, h1, h4⟩
    · subst b
      exact Or.inr ⟨a, h1, h4⟩
/-- behind a pawn's move by two: the square that it passed -/
theorem dbl_pass {z : Pz} (hi : inv z) {f t u : Nat} (hm : (f, t, u) ∈ lmS z) (h1 : kd (z.1 f) = 1) (h2 : absD f t = 16) : rkS (1 - z.2.1) ((f + t) / 2) = 5 ∧ mvS z.1 f t u ((f + t) / 2) = 0 ∧ mvS z.1 f t u (dnS (1 - z.2.1) ((f + t) / 2)) = pmn z.2.1 := by
  have hat := mv_at hi hm
  have hmem := lmS_mem.mp hm
  dsimp only at hat hmem
  obtain ⟨hf, ht, ho, hg, hu, hsf⟩ := hmem
  have hi2 := hi
  obtain ⟨hb, hc, hr, hpp, hKK, h16, hR, hPw, hN, hE⟩ := hi
  have hmf := hb.1 f hf
  obtain ⟨g1, g2⟩ := hPw f hf h1
  have hup2 : t = upS z.2.1 (upS z.2.1 f) ∧ rkS z.2.1 f = 1 ∧ z.1 (upS z.2.1 f) = 0 ∧ z.1 t = 0 := by
    rcases (pg_iff hi2 hf ht ho h1).mp hg with (⟨a, _⟩ | ⟨a, _⟩ | h) | ⟨a, _⟩
    · have := rk_paw hc hf ht a
      unfold pawB at a
      rw [Bool.and_eq_true, decide_eq_true_eq] at a
      have a := a.1
      unfold rkS at this
      unfold absD at a h2
      split at h2 <;> split at a <;> split at this <;> omega
    · rw [a] at h2
      unfold upS absD at h2
      split at h2 <;> split at h2 <;> omega
    · exact h
    · have := rk_paw hc hf ht a
      unfold pawB at a
      rw [Bool.and_eq_true, decide_eq_true_eq] at a
      have a := a.1
      unfold rkS at this
      unfold absD at a h2
      split at h2 <;> split at a <;> split at this <;> omega
  obtain ⟨y1, y2, y3, y4⟩ := hup2
  have hmid : (f + t) / 2 = upS z.2.1 f := by
    rw [y1]
    unfold rkS at y2
    unfold upS
    split
    · omega
    · rename_i q
      rw [if_neg q] at y2
      omega
  have hu0 : u = 0 := by
    apply nlast_u hu
    unfold lastS
    rw [y1, rk_up2 hc hf y2]
    simp
  rw [hmid]
  have nf : upS z.2.1 f ≠ f := by
    unfold upS
    split <;> omega
  have nt : upS z.2.1 f ≠ t := by
    rw [y1]
    unfold rkS at y2
    unfold upS
    split
    · omega
    · rename_i q
      rw [if_neg q] at y2
      omega
  have hep : epB z.1 f t = false := (pn_ep hi2 hf h1 (Or.inr (Or.inr ⟨y1, y2, y3, y4⟩))).2
  have hlp : lpB z.1 f t = false := by
    unfold lpB
    simp [h1]
  refine ⟨?_, ?_, ?_⟩
  · unfold rkS at y2 ⊢
    unfold upS
    have : z.2.1 = 0 ∨ z.2.1 = 1 := by omega
    rcases this with q | q
    · rw [q] at y2 ⊢
      simp at y2 ⊢
      omega
    · rw [q] at y2 ⊢
      simp at y2 ⊢
      omega
  · rw [hat, if_neg nt, if_neg nf, hep, hlp]
    simp only [Bool.false_eq_true, false_and, if_false]
    exact y3
  · have : dnS (1 - z.2.1) (upS z.2.1 f) = t := by
      rw [y1]
      unfold rkS at y2
      unfold dnS upS
      have : z.2.1 = 0 ∨ z.2.1 = 1 := by omega
      rcases this with q | q
      · rw [q]
        simp
      · rw [q] at y2 ⊢
        simp at y2 ⊢
    rw [this, hat, if_pos rfl, hu0]
    exact (pawn_man hmf hc).mp ⟨h1, ho⟩
theorem inv_dbl {z : Pz} (hi : inv z) {f t u : Nat} (hm : (f, t, u) ∈ lmS z) (h1 : kd (z.1 f) = 1) (h2 : absD f t = 16) (r h n : Nat) (hr : r = (mkM z (f, t, u)).2.2.1) : inv (mvS z.1 f t u, 1 - z.2.1, r, (f + t) / 2, h, n) := by
  obtain ⟨a1, a2, a3, a4, a5, a6, a7, a8, a9, a10⟩ := inv_mk hi hm
  have hd := dbl_pass hi hm h1 h2
  have hc := hi.2.1
  have hmem := lmS_mem.mp hm
  dsimp only at hmem
  subst hr
  refine ⟨a1, a2, a3, by dsimp only; omega, a5, a6, a7, a8, a9, fun _ => ⟨hd.1, hd.2.1, ?_⟩⟩
  dsimp only
  rw [show 1 - (1 - z.2.1) = z.2.1 by omega]
  exact hd.2.2
theorem ep_iff {z : Pz} (hi : inv z) {f t u : Nat} (hm : (f, t, u) ∈ lmS z) : (t = z.2.2.2.1 ∧ kd (z.1 f) = 1) ↔ epB z.1 f t = true := by
  have hC := mv_cases hi hm
  have hmem := lmS_mem.mp hm
  dsimp only at hC hmem
  obtain ⟨hf, ht, ho, hg, hu, hsf⟩ := hmem
  have hi2 := hi
  obtain ⟨hb, hc, hr, hpp, hKK, h16, hR, hPw, hN, hE⟩ := hi
  constructor
  · rintro ⟨h1, h2⟩
    have hE := hE (by omega)
    obtain ⟨g1, g2⟩ := hPw f hf h2
    have hw : pawB z.2.1 f t = true ∧ z.1 t = 0 := by
      rcases (pg_iff hi2 hf ht ho h2).mp hg with (⟨a, b⟩ | ⟨a, b⟩ | ⟨a, b, d, e⟩) | ⟨a, b, _⟩
      · rw [h1, hE.2.1, msd_0] at b
        cases b
      · have : dnS z.2.1 t = f := by
          rw [a]
          unfold dnS upS
          split <;> omega
        have h3 := hE.2.2
        rw [← h1, this] at h3
        rw [h3] at ho
        have h4 := msd_two (c := 1 - z.2.1) (by omega) (pmn_ok (c := 1 - z.2.1) (by omega)).2.1
        rw [show 1 - (1 - z.2.1) = z.2.1 by omega, ho] at h4
        cases h4
      · have h3 := hE.1
        rw [← h1, a, rk_up2 hc hf b] at h3
        omega
      · exact ⟨a, b⟩
    unfold epB
    have hcol : f % 8 ≠ t % 8 := by
      intro e
      have := hw.1
      unfold pawB at this
      rw [Bool.and_eq_true, decide_eq_true_eq] at this
      have h := this.1
      unfold absD at h
      split at h <;> omega
    simp [h2, hcol, hw.2]
  · intro h
    rcases hC with ⟨he, _⟩ | ⟨_, _, _, hp, hpm, _⟩ | ⟨he, _⟩
    · rw [h] at he; cases he
    · exact ⟨hp, by rw [hpm]; exact (pmn_ok hc).1⟩
    · rw [h] at he; cases he
theorem tk_on {z : Pz} (hi : inv z) {f t u : Nat} (hm : (f, t, u) ∈ lmS z) : tkS z.1 f t = z.1 (onQ z f t) := by
  unfold tkS onQ
  cases he : epB z.1 f t with
  | false => rfl
  | true =>
    simp only [if_true]
    have hC := mv_cases hi hm
    have hc := hi.2.1
    rcases hC with ⟨h, _⟩ | ⟨_, _, _, hp, hpm, _⟩ | ⟨h, _⟩
    · dsimp only at h; rw [he] at h; cases h
    · dsimp only at hpm
      congr 1
      unfold epq dnS
      rw [hpm]
      have a3 := (pmn_ok hc).2.2
      by_cases g : z.2.1 = 0
      · rw [if_pos (a3.mpr g), if_pos g]
      · rw [if_neg (fun q => g (a3.mp q)), if_neg g]
    · dsimp only at h; rw [he] at h; cases h
/-- king's leaps are told by the squares -/
theorem lp_iff {z : Pz} (hi : inv z) {f t u : Nat} (hm : (f, t, u) ∈ lmS z) (h6 : kd (z.1 f) = 6) : absD f t = 2 ↔ lpB z.1 f t = true := by
  have hC := mv_cases hi hm
  have hmem := lmS_mem.mp hm
  dsimp only at hC hmem
  obtain ⟨hf, ht, ho, hg, hu, hsf⟩ := hmem
  constructor
  · intro h
    have hg2 := hg
    unfold goS at hg2
    rw [if_neg (by omega), if_pos h6, Bool.and_eq_true, Bool.or_eq_true] at hg2
    rcases hg2.2 with h3 | h3
    · unfold reachS at h3
      simp only [h6] at h3
      have h3 : kinB f t = true := h3
      unfold kinB at h3
      simp only [Bool.and_eq_true, decide_eq_true_eq] at h3
      obtain ⟨⟨h31, h32⟩, h33⟩ := h3
      unfold absD at h h31 h32
      split at h <;> split at h31 <;> split at h32 <;> omega
    · unfold klS at h3
      simp only [Bool.and_eq_true, decide_eq_true_eq] at h3
      have e1 := h3.1.1.1.1.1.1
      have e2 := h3.1.1.1.1.1.2
      unfold lpB
      have : absD (f % 8) (t % 8) = 2 := by
        unfold absD at *
        split at e2 <;> split <;> omega
      simp [h6, this]
  · intro h
    rcases hC with ⟨_, hl⟩ | ⟨_, hl, _⟩ | ⟨_, _, _, x1, _, sh, _, x2, _⟩
    · rw [h] at hl; cases hl
    · rw [h] at hl; cases hl
    · unfold absD
      cases sh
      · simp at x2
        split <;> omega
      · simp at x2
        split <;> omega
theorem corner_eq {f t : Nat} (hf : f < 64) (ht : t < 64) (h2 : absD f t = 2) (h4 : t < f → 2 ≤ t) : m_X4_cornerOf (nI f) (nI t) = some (nI (lpq f t)) := by
  unfold m_X4_cornerOf m_X4_cornerOf_b14 lpq
  unfold absD at h2
  by_cases g : f < t
  · rw [if_pos g] at h2
    rw [if_neg (nI_ge g (by omega)), if_pos g, nI_1, show t + 1 = f + 3 by omega]
  · rw [if_neg g] at h2
    have e : nI t - 2 = nI (t - 2) := pk_sub (b := 2) (h4 (by omega))
    rw [if_pos (nI_le (by omega) (by omega)), if_neg g, e, show t - 2 = f - 4 by omega]
set_option maxRecDepth 100000 in
theorem pawn_mul {m : Int32} (hm : mOK m) (h1 : kd m = 1) {u : Nat} (hu : u ≤ 5) (h0 : u ≠ 0) : m * nI u = cmS m u := by
  have h5 : u = 1 ∨ u = 2 ∨ u = 3 ∨ u = 4 ∨ u = 5 := by omega
  rcases mOK_cases hm with q | q | q | q | q | q | q | q | q | q | q | q | q <;> subst q <;> first | (exfalso; revert h1; decide) | (rcases h5 with r | r | r | r | r <;> subst r <;> decide)
theorem cm_ne {m : Int32} (hm : mOK m) {c : Nat} (hc : c < 2) (h : msd m c = true) {u : Nat} (hu : u ≤ 5) : cmS m u ≠ 0 := by
  have := (cmS_own hm hc h hu).1
  intro e
  rw [e, msd_0] at this
  cases this
/-- from the rights on -/
theorem x4_make_end {z : Pz} (hi : inv z) {rays kns kgs pws : Nat → Int64} {tab : Nat → Int32} (hT : lnT rays kns kgs pws) {f t u : Nat} (hm : (f, t, u) ∈ lmS z) {bal : Int32} {kinds sides : Nat → Int64} (hC : clP (mvS z.1 f t u) bal kinds sides) (vmade : Int32) (mv pb : Nat → Int32) : m_X4_make_b140 vmade mv pb (nI z.2.1) (nI z.2.2.1) (pI z.2.2.2.1) (nI z.2.2.2.2.1) (nI z.2.2.2.2.2) bal (mvS z.1 f t u) kinds sides rays kns kgs pws tab (nI f) (nI t) (tkS z.1 f t) (nI (kd (z.1 f))) = some (tkS z.1 f t, vmade, mv, pb, nI (mkM z (f, t, u)).2.1, nI (mkM z (f, t, u)).2.2.1, pI (mkM z (f, t, u)).2.2.2.1, nI (mkM z (f, t, u)).2.2.2.2.1, nI (mkM z (f, t, u)).2.2.2.2.2, bal, mvS z.1 f t u, kinds, sides) := by
  have hmem := lmS_mem.mp hm
  dsimp only at hmem
  obtain ⟨hf, ht, ho, hg, hu, hsf⟩ := hmem
  have hi' := inv_mk hi hm
  have hc := hi.2.1
  have hmf := hi.1.1 f hf
  have c1 : nI (kd (z.1 f)) = 1 ↔ kd (z.1 f) = 1 := nI_eq1 (by have := kd_le hmf; omega)
  have eo : (1 : Int32) - nI z.2.1 = nI (1 - z.2.1) := pk_sub (a := 1) (by omega)
  have key : ∀ hv : Nat, hv = (mkM z (f, t, u)).2.2.2.2.1 → m_X4_make_b189 vmade mv pb (nI z.2.1) (nI (rgS z.2.2.1 f t)) (pI z.2.2.2.1) (nI z.2.2.2.2.1) (nI z.2.2.2.2.2) bal (mvS z.1 f t u) kinds sides rays kns kgs pws tab (nI f) (nI t) (tkS z.1 f t) (nI (kd (z.1 f))) (nI hv) = some (tkS z.1 f t, vmade, mv, pb, nI (mkM z (f, t, u)).2.1, nI (mkM z (f, t, u)).2.2.1, pI (mkM z (f, t, u)).2.2.2.1, nI (mkM z (f, t, u)).2.2.2.2.1, nI (mkM z (f, t, u)).2.2.2.2.2, bal, mvS z.1 f t u, kinds, sides) := by
    intro hv ehv
    have eP : (mkM z (f, t, u)).2.2.2.1 = psS z.1 z.2.1 f t u := rfl
    rw [eP, ← ehv]
    unfold m_X4_make_b189 m_X4_make_b291 m_X4_make_b294
    have en : nI z.2.2.2.2.2 + nI z.2.1 = nI (z.2.2.2.2.2 + z.2.1) := nI_add _ _
    rw [ol_r, en, ol_r, eo]
    by_cases p : kd (z.1 f) = 1
    · rw [if_pos (c1.mpr p)]
      have ea : m_J9_abs_0f7a4 (nI f - nI t) = some (nI (absD t f)) := x10_size f hf t ht
      have l := absD_lt ht hf
      have c16 : nI (absD t f) = 16 ↔ absD t f = 16 := nI_eq (b := 16) (by omega) (by omega)
      rw [ob_s ea]
      by_cases g : absD t f = 16
      · have g' : absD f t = 16 := by rw [absD_sym]; exact g
        have em : (nI f + nI t) / 2 = nI ((f + t) / 2) := by
          rw [nI_add]
          exact pk_div (d := 2) (by omega) (by omega) (by omega)
        have hq : (f + t) / 2 < 64 := by omega
        have hid := inv_dbl hi hm p g' _ hv (z.2.2.2.2.2 + z.2.1) rfl
        obtain ⟨k, hK⟩ := hid.2.2.2.2.1 (1 - z.2.1) (by omega)
        have hE := hid.2.2.2.2.2.2.2.2.2 hq
        obtain ⟨X, x1, x2⟩ := x0_passers hid.1 hT hC.1 (p := (f + t) / 2) (c := 1 - z.2.1) (by omega) hK (by omega) (fun _ h0 => by
          have := hE.1
          unfold rkS at this
          dsimp only at this
          rw [if_pos h0] at this
          omega) (fun _ h1 => by
          have := hE.1
          unfold rkS at this
          dsimp only at this
          rw [if_neg (by omega)] at this
          omega)
        have tk := tkn_iff hid hK hq
        dsimp only at tk
        rw [pI_lt hq] at x1
        rw [if_pos (c16.mpr g), ol_r, em, ob_s x1]
        simp only [lg0]
        have hX : X = 0 ↔ ¬ tknS (mvS z.1 f t u) (1 - z.2.1) ((f + t) / 2) = true := by
          rw [tk]
          constructor
          · rintro e ⟨f', h1, h2, h3, h4⟩
            have := (x2 f' h1).mpr ⟨hq, h2, h3, h4⟩
            rw [e, bt_zero] at this
            cases this
          · intro h
            apply Classical.byContradiction
            intro q
            obtain ⟨f', h1, h2⟩ := bt_ne0.mp q
            have := (x2 f' h1).mp h2
            exact h ⟨f', h1, this.2⟩
        unfold psS
        by_cases q : X = 0
        · rw [if_pos q]
          have := hX.mp q
          rw [Bool.not_eq_true] at this
          rw [this]
          simp only [Bool.and_false, Bool.false_eq_true, if_false]
          rfl
        · rw [if_neg q]
          have : tknS (mvS z.1 f t u) (1 - z.2.1) ((f + t) / 2) = true := Classical.byContradiction (fun h => q (hX.mpr h))
          rw [this]
          simp only [p, g', decide_true, Bool.and_self, if_true]
          rw [pI_lt hq]
          rfl
      · rw [if_neg (fun h => g (c16.mp h))]
        have : psS z.1 z.2.1 f t u = 64 := by
          unfold psS
          rw [absD_sym f t]
          simp [g]
        rw [this]
        rfl
    · rw [if_neg (fun h => p (c1.mp h))]
      have : psS z.1 z.2.1 f t u = 64 := by
        unfold psS
        simp [p]
      rw [this]
      rfl
  have eH : (mkM z (f, t, u)).2.2.2.2.1 = (if kd (z.1 f) = 1 ∨ ¬ tkS z.1 f t = 0 then 0 else z.2.2.2.2.1 + 1) := rfl
  unfold m_X4_make_b140 m_X4_make_b176
  rw [ob_s (x4_keptBy f hf), ob_s (x4_keptBy t ht), rk_eq hi.2.2.1 (krS_lt f) (krS_lt t), ol_r]
  by_cases p : kd (z.1 f) = 1
  · rw [if_pos (c1.mpr p)]
    exact key 0 (by rw [eH, if_pos (Or.inl p)])
  · rw [if_neg (fun h => p (c1.mp h))]
    by_cases g : tkS z.1 f t = 0
    · rw [if_pos g, nI_1]
      exact key _ (by rw [eH, if_neg (fun h => h.elim p (fun q => q g))])
    · rw [if_neg g]
      exact key 0 (by rw [eH, if_pos (Or.inr g)])
theorem x4_make {z : Pz} (hi : inv z) (hh : z.2.2.2.2.1 < 65536) {rays kns kgs pws : Nat → Int64} {tab : Nat → Int32} (hT : lnT rays kns kgs pws) (hB : tbP tab) {f t u : Nat} (hm : (f, t, u) ∈ lmS z) {bal : Int32} {kinds sides : Nat → Int64} (hC : clP z.1 bal kinds sides) {made : Nat} (hmade : made < 1027) (mv pb : Nat → Int32) : ∃ (bal' : Int32) (kinds' sides' : Nat → Int64), m_X4_make (nI made) mv pb (nI z.2.1) (nI z.2.2.1) (pI z.2.2.2.1) (nI z.2.2.2.2.1) (nI z.2.2.2.2.2) bal z.1 kinds sides rays kns kgs pws tab (nI (enM (f, t, u))) = some (tkS z.1 f t, nI (made + 1), upd mv made (nI (enM (f, t, u))), upd pb made (nI (goN (kd (tkS z.1 f t)) z)), nI (mkM z (f, t, u)).2.1, nI (mkM z (f, t, u)).2.2.1, pI (mkM z (f, t, u)).2.2.2.1, nI (mkM z (f, t, u)).2.2.2.2.1, nI (mkM z (f, t, u)).2.2.2.2.2, bal', (mkM z (f, t, u)).1, kinds', sides') ∧ clP (mkM z (f, t, u)).1 bal' kinds' sides' := by
  have hep := ep_iff hi hm
  have hon := tk_on hi hm
  have hCs := mv_cases hi hm
  have hmem := lmS_mem.mp hm
  dsimp only at hmem hCs
  obtain ⟨hf, ht, ho, hg, hu, hsf⟩ := hmem
  have hu5 := tuS_le hu
  have hi2 := hi
  obtain ⟨hb, hc, hr, hpp, hKK, h16, hR, hPw, hN, hE⟩ := hi
  have hmf := hb.1 f hf
  have hto : msd (z.1 t) z.2.1 = false := by
    unfold goS at hg
    rw [Bool.and_eq_true, Bool.not_eq_true'] at hg
    exact hg.1
  have hft : f ≠ t := by
    intro e
    rw [e, hto] at ho
    cases ho
  have hfn : z.1 f ≠ 0 := occ_t.mp (msd_occ ho)
  have hE0 : epB z.1 f t = true → z.2.2.2.1 < 64 ∧ t = z.2.2.2.1 := fun h => ⟨by rw [← (hep.mpr h).1]; exact ht, (hep.mpr h).1⟩
  -- where it takes
  have honl : onQ z f t < 64 := by
    unfold onQ
    split
    · rename_i h
      obtain ⟨a, b⟩ := hE0 h
      exact dnS_lt hc ht (fun h1 => by
        have := (hE a).1
        rw [← b] at this
        unfold rkS at this
        rw [if_neg (by omega)] at this
        omega)
    · exact ht
  have hof : onQ z f t ≠ f := by
    unfold onQ
    split
    · rename_i h
      obtain ⟨a, b⟩ := hE0 h
      intro e
      have := (hE a).2.2
      rw [← b, e] at this
      rw [this] at ho
      have h4 := msd_two (c := 1 - z.2.1) (by omega) (pmn_ok (c := 1 - z.2.1) (by omega)).2.1
      rw [show 1 - (1 - z.2.1) = z.2.1 by omega, ho] at h4
      cases h4
    · exact Ne.symm hft
  have e_on : m_X0_takesOn (nI z.2.1) (pI z.2.2.2.1) z.1 (nI (enM (f, t, u))) = some (nI (onQ z f t)) := by
    rw [x0_takesOn hc hpp hf ht hu5 hmf (fun h h0 => by
      have := (hE (by omega)).1
      rw [← h] at this
      unfold rkS at this
      rw [if_pos h0] at this
      omega)]
    unfold onQ
    cases q : epB z.1 f t with
    | true => rw [if_pos (hep.mpr q)]; rfl
    | false => rw [if_neg (fun h => by rw [hep.mp h] at q; cases q)]; rfl
  have hmt := mOK_all hb (onQ z f t)
  -- behind the lifting of the man taken
  have step : ∀ (bal1 : Int32) (kinds1 sides1 : Nat → Int64), clP (upd z.1 (onQ z f t) 0) bal1 kinds1 sides1 → ∃ (bal' : Int32) (kinds' sides' : Nat → Int64), m_X4_make_b57 (nI (made + 1)) (upd mv made (nI (enM (f, t, u)))) (upd pb made (nI (goN (kd (tkS z.1 f t)) z))) (nI z.2.1) (nI z.2.2.1) (pI z.2.2.2.1) (nI z.2.2.2.2.1) (nI z.2.2.2.2.2) bal1 (upd z.1 (onQ z f t) 0) kinds1 sides1 rays kns kgs pws tab (nI (enM (f, t, u))) (nI f) (nI t) (tkS z.1 f t) = some (tkS z.1 f t, nI (made + 1), upd mv made (nI (enM (f, t, u))), upd pb made (nI (goN (kd (tkS z.1 f t)) z)), nI (mkM z (f, t, u)).2.1, nI (mkM z (f, t, u)).2.2.1, pI (mkM z (f, t, u)).2.2.2.1, nI (mkM z (f, t, u)).2.2.2.2.1, nI (mkM z (f, t, u)).2.2.2.2.2, bal', (mkM z (f, t, u)).1, kinds', sides') ∧ clP (mkM z (f, t, u)).1 bal' kinds' sides' := by
    intro bal1 kinds1 sides1 hC1
    have v1 : upd z.1 (onQ z f t) 0 f = z.1 f := pk_un (Ne.symm hof)
    obtain ⟨bal2, kinds2, sides2, l1, l2⟩ := x0_lift hB hC1 hf (by rw [v1]; exact hmf) (by rw [v1]; exact hfn)
    rw [v1] at l1
    have v2 : upd (upd z.1 (onQ z f t) 0) f 0 t = 0 := by
      rw [pk_un (Ne.symm hft)]
      by_cases q : t = onQ z f t
      · rw [← q, pk_us]
      · rw [pk_un q]
        unfold onQ at q
        split at q
        · rename_i h
          obtain ⟨a, b⟩ := hE0 h
          rw [b]
          exact (hE a).2.1
        · exact absurd rfl q
    have hmc := mOK_cmS hmf hu5
    obtain ⟨bal3, kinds3, sides3, p1, p2⟩ := x0_put hB l2 ht v2 hmc (cm_ne hmf hc ho hu5)
    have c6 : nI (kd (z.1 f)) = 6 ↔ kd (z.1 f) = 6 := nI_eq (b := 6) (by have := kd_le hmf; omega) (by omega)
    have em : (nI f + nI t) / 2 = nI ((f + t) / 2) := by
      rw [nI_add]
      exact pk_div (d := 2) (by omega) (by omega) (by omega)
    -- from the put on
    have b98 : ∃ (bal' : Int32) (kinds' sides' : Nat → Int64), m_X4_make_b98 (nI (made + 1)) (upd mv made (nI (enM (f, t, u)))) (upd pb made (nI (goN (kd (tkS z.1 f t)) z))) (nI z.2.1) (nI z.2.2.1) (pI z.2.2.2.1) (nI z.2.2.2.2.1) (nI z.2.2.2.2.2) bal2 (upd (upd z.1 (onQ z f t) 0) f 0) kinds2 sides2 rays kns kgs pws tab (nI f) (nI t) (tkS z.1 f t) (nI (kd (z.1 f))) (nI t) (cmS (z.1 f) u) = some (tkS z.1 f t, nI (made + 1), upd mv made (nI (enM (f, t, u))), upd pb made (nI (goN (kd (tkS z.1 f t)) z)), nI (mkM z (f, t, u)).2.1, nI (mkM z (f, t, u)).2.2.1, pI (mkM z (f, t, u)).2.2.2.1, nI (mkM z (f, t, u)).2.2.2.2.1, nI (mkM z (f, t, u)).2.2.2.2.2, bal', (mkM z (f, t, u)).1, kinds', sides') ∧ clP (mkM z (f, t, u)).1 bal' kinds' sides' := by
      unfold m_X4_make_b98
      rw [ob_s p1]
      try dsimp only
      have plain : lpB z.1 f t = false → mvS z.1 f t u = upd (upd (upd z.1 (onQ z f t) 0) f 0) t (cmS (z.1 f) u) := by
        intro hl
        rcases hCs with ⟨he, _⟩ | ⟨he, _, hu0, hp, hpm, _⟩ | ⟨_, hl2, _⟩
        · rw [mvS_plain he hl]
          unfold onQ
          rw [he]
          funext s
          by_cases q1 : s = t
          · rw [q1, pk_us, pk_us]
          · rw [pk_un q1, pk_un q1]
            by_cases q2 : s = f
            · rw [q2, pk_us, pk_us]
            · rw [pk_un q2, pk_un q2]
              simp only [Bool.false_eq_true, if_false]
              rw [pk_un q1]
        · subst hu0
          rw [mvS_ep hc he hl hpm]
          unfold onQ
          rw [he]
          rfl
        · rw [hl] at hl2; cases hl2
      by_cases q6 : kd (z.1 f) = 6
      · rw [if_pos (c6.mpr q6), ob_s (x4_isByRight hf ht), bI_if]
        have hlp := lp_iff hi2 hm q6
        cases hl : lpB z.1 f t with
        | false =>
          have hn2 : ¬ absD f t = 2 := fun h => by rw [hlp.mp h] at hl; cases hl
          have e0 : decide (absD f t = 2) = false := decide_eq_false hn2
          rw [e0]
          simp only [Bool.false_eq_true, if_false]
          rw [← plain hl] at p2 ⊢
          exact ⟨bal3, kinds3, sides3, x4_make_end hi2 hT hm p2 _ _ _, p2⟩
        | true =>
          have h2 := hlp.mpr hl
          have e0 : decide (absD f t = 2) = true := decide_eq_true h2
          rw [e0]
          simp only [if_true]
          rcases hCs with ⟨_, hl2⟩ | ⟨_, hl2, _⟩ | ⟨he, _, hu0, x1, x2, sh, x3, x4, x5, x6, x7, x8, x9⟩
          · rw [hl] at hl2; cases hl2
          · rw [hl] at hl2; cases hl2
          · have hon2 : onQ z f t = t := by
              unfold onQ
              rw [he]
              rfl
            subst hu0
            rw [hon2] at p2 ⊢
            have ecor := corner_eq hf ht h2 (fun h => by rw [x4] at h ⊢; cases sh <;> simp at h ⊢ <;> omega)
            rw [ob_s ecor, x8, em, x7]
            have hmid : 56 * z.2.1 + (if sh then 5 else 3) < 64 := by split <;> omega
            have hcor : 56 * z.2.1 + (if sh then 7 else 0) < 64 := by split <;> omega
            have d1 : 56 * z.2.1 + (if sh then 7 else 0) ≠ 56 * z.2.1 + (if sh then 5 else 3) := by cases sh <;> simp
            have d2 : 56 * z.2.1 + (if sh then 7 else 0) ≠ f := by rw [x1]; cases sh <;> simp
            have d3 : 56 * z.2.1 + (if sh then 5 else 3) ≠ f := by rw [x1]; cases sh <;> simp
            have d4 : 56 * z.2.1 + (if sh then 7 else 0) ≠ t := by rw [x4]; cases sh <;> simp
            have d5 : 56 * z.2.1 + (if sh then 5 else 3) ≠ t := by rw [x4]; cases sh <;> simp
            have hmvl := mvS_lp he hl x7 x8
            generalize 56 * z.2.1 + (if sh then 5 else 3) = mid at *
            generalize 56 * z.2.1 + (if sh then 7 else 0) = cor at *
            have vc : upd (upd (upd z.1 t 0) f 0) t (cmS (z.1 f) 0) cor = rkm z.2.1 := by
              rw [pk_un d4, pk_un d2, pk_un d4]
              exact x9
            have rk := rkm_ok hc
            have rko : mOK (rkm z.2.1) := by rw [← x9]; exact mOK_all hb cor
            have rkn : rkm z.2.1 ≠ 0 := by
              intro e
              rw [e, msd_0] at rk
              cases rk.1
            obtain ⟨bal4, kinds4, sides4, l3, l4⟩ := x0_lift hB p2 hcor (by rw [vc]; exact rko) (by rw [vc]; exact rkn)
            rw [vc] at l3
            rw [ob_s l3]
            try dsimp only
            have vm : upd (upd (upd (upd z.1 t 0) f 0) t (cmS (z.1 f) 0)) cor 0 mid = 0 := by
              rw [pk_un (Ne.symm d1), pk_un d5, pk_un d3, pk_un d5]
              exact x6
            obtain ⟨bal5, kinds5, sides5, p3, p4⟩ := x0_put hB l4 hmid vm rko rkn
            rw [ob_s p3]
            try dsimp only
            have efun : upd (upd (upd (upd (upd z.1 t 0) f 0) t (cmS (z.1 f) 0)) cor 0) mid (rkm z.2.1) = mvS z.1 f t 0 := by
              rw [hmvl, x9]
              funext s
              by_cases q1 : s = t
              · rw [q1, pk_us, pk_un (Ne.symm d5), pk_un (Ne.symm d4), pk_us]
                rfl
              · by_cases q2 : s = f
                · rw [q2, pk_un (Ne.symm d3), pk_un (Ne.symm d2), pk_un hft, pk_us, pk_un hft, pk_us]
                · by_cases q3 : s = mid
                  · rw [q3, pk_us, pk_un d5, pk_un d3, pk_un (Ne.symm d1), pk_us]
                  · by_cases q4 : s = cor
                    · rw [q4, pk_un d1, pk_us, pk_un d4, pk_un d2, pk_us]
                    · rw [pk_un q3, pk_un q4, pk_un q1, pk_un q2, pk_un q1, pk_un q1, pk_un q2, pk_un q4, pk_un q3]
            rw [efun] at p4 ⊢
            exact ⟨bal5, kinds5, sides5, x4_make_end hi2 hT hm p4 _ _ _, p4⟩
      · rw [if_neg (fun h => q6 (c6.mp h))]
        have hl : lpB z.1 f t = false := by
          unfold lpB
          simp [q6]
        rw [← plain hl] at p2 ⊢
        exact ⟨bal3, kinds3, sides3, x4_make_end hi2 hT hm p2 _ _ _, p2⟩
    unfold m_X4_make_b57
    rw [ob_s l1]
    try dsimp only
    rw [ob_s (j9_abs hmf), ob_s (x9_becomesOf hf ht hu5), ob_s (x9_becomesOf hf ht hu5)]
    have cu : nI u = 0 ↔ u = 0 := nI_eq0 (by omega)
    by_cases q : u = 0
    · rw [if_pos (cu.mpr q)]
      have : cmS (z.1 f) u = z.1 f := if_pos q
      rw [this] at b98
      exact b98
    · rw [if_neg (fun h => q (cu.mp h))]
      have h1 : kd (z.1 f) = 1 := by
        unfold tuS at hu
        split at hu
        · rename_i g
          unfold lastS at g
          simp at g
          exact g.1
        · rw [List.mem_range'_1] at hu
          omega
      rw [pawn_mul hmf h1 hu5 q]
      exact b98
  unfold m_X4_make
  rw [ob_s (x9_fromOf hf ht hu5), ob_s (x9_toOf hf ht hu5), ob_s e_on, oin_n (by omega) (by omega), nI_clamp (by omega), ol_r, ← hon, ob_s (j9_abs (by rw [hon]; exact hmt)), ob_s (x4_remember (by have := kd_le (show mOK (tkS z.1 f t) by rw [hon]; exact hmt); omega) hr hpp hh hmade mv pb)]
  try dsimp only
  by_cases q : tkS z.1 f t = 0
  · rw [if_pos q]
    have e := upd_same (bd := z.1) (k := onQ z f t) (x := 0) (by rw [← hon]; exact q)
    have := step bal kinds sides (by rw [e]; exact hC)
    rw [e] at this
    exact this
  · rw [if_neg q]
    obtain ⟨bal1, kinds1, sides1, l1, l2⟩ := x0_lift hB hC honl hmt (by rw [← hon]; exact q)
    rw [ob_s l1]
    exact step bal1 kinds1 sides1 l2
