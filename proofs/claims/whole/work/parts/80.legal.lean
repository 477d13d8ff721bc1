/-! What holds of every position; when a move is legal. -/
def rkm (c : Nat) : Int32 := if c = 0 then 4 else -4
def inv (z : Pz) : Prop :=
  gbd z.1 ∧ z.2.1 < 2 ∧ z.2.2.1 < 16 ∧ z.2.2.2.1 ≤ 64 ∧
  (∀ c, c < 2 → ∃ k, isK z.1 c k) ∧
  (∀ c, c < 2 → cb (fun s => msd (z.1 s) c) 64 ≤ 16) ∧
  (∀ c, c < 2 → ∀ sh, rtB z.2.2.1 c sh = true → z.1 (56 * c + 4) = kmn c ∧ z.1 (56 * c + if sh then 7 else 0) = rkm c) ∧
  (∀ s, s < 64 → kd (z.1 s) = 1 → 8 ≤ s ∧ s < 56) ∧
  chkS z.1 (1 - z.2.1) = false ∧
  (z.2.2.2.1 < 64 → rkS z.2.1 z.2.2.2.1 = 5 ∧ z.1 z.2.2.2.1 = 0 ∧ z.1 (dnS z.2.1 z.2.2.2.1) = pmn (1 - z.2.1))
theorem inv_rgK {z : Pz} (h : inv z) : rgK z.1 z.2.1 z.2.2.1 := by
  obtain ⟨hb, hc, hr, hp, hK, h16, hR, hP, hN, hE⟩ := h
  intro f hf e sh hs
  obtain ⟨k, hk⟩ := hK _ hc
  have h4 := hk.2.2 (56 * z.2.1 + 4) (by omega) (hR _ hc sh hs).1
  rw [hk.2.2 f hf e]
  omega
/-- legal, the man that a pawn becomes apart -/
def leS (z : Pz) (f t : Nat) : Bool := goS z f t && safS z.1 f t 0 z.2.1
theorem wsq_add {w s a i : Nat} : wsq w (wsq w s a) i = wsq w s (a + i) := by
  unfold wsq
  split
  · rw [Nat.add_mul]; omega
  · rw [Nat.add_mul]; omega
set_option maxRecDepth 100000 in
theorem wln_tb : tbA (fun w s a => wln w (wsq w s a) == wln w s - a) = true := by decide +kernel
theorem wln_sub {w s a : Nat} (hw : w < 8) (hs : s < 64) (ha : a ≤ wln w s) : wln w (wsq w s a) = wln w s - a := by
  rcases Nat.eq_zero_or_pos a with q | q
  · subst q
    rw [wsq_0]
    rfl
  · exact eq_of_beq (tbA_e wln_tb hw hs q ha)
theorem kni_line {f t : Nat} (h : kniB f t = true) : strB f t = false ∧ slaB f t = false := by
  unfold kniB at h
  have h := eq_of_beq h
  unfold strB slaB
  generalize absD (f / 8) (t / 8) = a at *
  generalize absD (f % 8) (t % 8) = b at *
  have ha : a ≠ 0 := by
    intro e
    rw [e] at h
    omega
  have hb : b ≠ 0 := by
    intro e
    rw [e] at h
    omega
  refine ⟨by simp [ha, hb], ?_⟩
  have : a ≠ b := by
    intro e
    subst e
    rcases Nat.lt_or_ge a 2 with q | q
    · have : a = 1 := by omega
      subst this
      omega
    · have := Nat.mul_le_mul q q
      omega
  simp [this]
theorem pth_of {bd : Nat → Int32} {k f t : Nat} (hk : k < 64) (hf : f < 64) (h : kniB f t = true ∨ ∃ v i, v < 8 ∧ 1 ≤ i ∧ i ≤ wln v f ∧ t = wsq v f i ∧ clr (occ bd) v f i = true) : ∀ w, w < 8 → pthP bd k w f t := by
  intro w hw a b a1 a2 b1 b2 ef et i h1 h2
  have e1 : t = wsq w f (b - a) := by
    rw [ef, wsq_add, show a + (b - a) = b by omega]
    exact et
  have e2 : b - a ≤ wln w f := by
    rw [ef, wln_sub hw hk a2]
    omega
  have e3 := wsq_all w hw f hf (b - a) (by omega) e2
  rw [← e1] at e3
  rcases h with h | ⟨v, j, hv, j1, j2, j3, j4⟩
  · have := kni_line h
    rw [e3.2.2.2.1, e3.2.2.2.2.1] at this
    rw [this.2] at this
    cases this.1
  · obtain ⟨q1, q2⟩ := wsq_inj hw hv hf (by omega) e2 j1 j2 (e1.symm.trans j3)
    subst q1
    have := clr_iff.mp j4 (i - a) (by omega) (by omega)
    rw [ef, wsq_add, show a + (i - a) = i by omega] at this
    exact occ_f.mp this
theorem clr_1 {p : Nat → Bool} {w f : Nat} : clr p w f 1 = true := clr_iff.mpr (fun j h1 h2 => by omega)
theorem paw_line {c f t : Nat} (hf : f < 64) (ht : t < 64) (h : pawB c f t = true) : ∃ v i, v < 8 ∧ 1 ≤ i ∧ i ≤ wln v f ∧ t = wsq v f i ∧ i = 1 := by
  unfold pawB at h
  rw [Bool.and_eq_true, decide_eq_true_eq] at h
  have h1 : absD (f / 8) (t / 8) = 1 := by
    have h2 := h.2
    unfold absD
    split at h2 <;> simp at h2 <;> split <;> omega
  have hs : slaB f t = true := by
    unfold slaB
    simp [h1, h.1]
  obtain ⟨a1, a2, a3, a4, a5⟩ := wal_all f hf t ht (by rw [hs]; simp)
  have e : wst f t = 1 := by
    unfold wst
    rw [h1, h.1]
    simp
  exact ⟨wwy f t, wst f t, a1, a2, a3, a4.symm, e⟩
theorem up_line {c f : Nat} (hc : c < 2) (h1 : 8 ≤ f) (h2 : f < 56) : ∃ v, v < 8 ∧ 1 ≤ wln v f ∧ upS c f = wsq v f 1 ∧ (rkS c f = 1 → 2 ≤ wln v f ∧ upS c (upS c f) = wsq v f 2) := by
  have : c = 0 ∨ c = 1 := by omega
  rcases this with q | q
  · subst q
    exact ⟨1, by omega, by simp [wln]; omega, by simp [wsq, wdl, upS], fun h => by simp [rkS] at h; simp [wln, wsq, wdl, upS]; omega⟩
  · subst q
    exact ⟨5, by omega, by simp [wln]; omega, by simp [wsq, wdl, upS], fun h => by simp [rkS] at h; simp [wln, wsq, wdl, upS]; omega⟩
/-- no man who is not the king jumps, but knights -/
theorem pse_line {bd : Nat → Int32} {c f t : Nat} (hm : mOK (bd f)) (hc : c < 2) (hf : f < 64) (ht : t < 64) (h6 : kd (bd f) ≠ 6) (hp1 : kd (bd f) = 1 → 8 ≤ f ∧ f < 56) (h : pseP bd c f t) : kniB f t = true ∨ ∃ v i, v < 8 ∧ 1 ≤ i ∧ i ≤ wln v f ∧ t = wsq v f i ∧ clr (occ bd) v f i = true := by
  unfold pseP at h
  by_cases q : kd (bd f) = 1
  · rw [if_pos q] at h
    obtain ⟨g1, g2⟩ := hp1 q
    right
    rcases h with ⟨h1, h2⟩ | ⟨h1, h2⟩ | ⟨h1, h2, h3, h4⟩
    · obtain ⟨v, i, a1, a2, a3, a4, a5⟩ := paw_line hf ht h1
      subst a5
      exact ⟨v, 1, a1, a2, a3, a4, clr_1⟩
    · obtain ⟨v, a1, a2, a3, _⟩ := up_line hc g1 g2
      exact ⟨v, 1, a1, Nat.le_refl _, a2, h1.trans a3, clr_1⟩
    · obtain ⟨v, a1, a2, a3, a4⟩ := up_line hc g1 g2
      obtain ⟨b1, b2⟩ := a4 h2
      refine ⟨v, 2, a1, by omega, b1, h1.trans b2, clr_iff.mpr fun j x1 x2 => ?_⟩
      have : j = 1 := by omega
      subst this
      rw [← a3]
      exact occ_f.mpr h3
  · rw [if_neg q] at h
    have hk := kd_le hm
    by_cases q2 : kd (bd f) = 2
    · left
      have := h.1
      unfold reachS at this
      simp only [q2] at this
      exact this
    · right
      have h0 : kd (bd f) ≠ 0 := by
        intro e
        have := h.1
        unfold reachS at this
        simp only [e] at this
        cases this
      obtain ⟨w, a1, _, j, b1, b2, b3, b4⟩ := (rider_seen hf ht (by omega)).mp h.1
      exact ⟨w, j, a1, b1, b2, b3, b4⟩
/-- the other king doesn't stand beside -/
theorem near_kn {bd : Nat → Int32} (hb : gbd bd) {c k k' : Nat} (hc : c < 2) (hK : isK bd c k) (hK' : isK bd (1 - c) k') (hN : chkS bd (1 - c) = false) {s : Nat} (hs : s < 64) (ho : msd (bd s) (1 - c) = true) : nearB (bd s) s k = knpB (bd s) s k := by
  unfold nearB knpB
  by_cases q : kd (bd s) = 6
  · have e := king_man (hb.1 s hs) (by omega) q ho
    have e2 := hK'.2.2 s hs e
    have : kinB s k = false := by
      cases g : kinB s k with
      | false => rfl
      | true =>
        unfold chkS at hN
        rw [kgS_eq hK', show 1 - (1 - c) = c by omega] at hN
        have : attS bd k' c = true := by
          rw [att_iff hb hK'.1]
          refine Or.inl ⟨k, hK.1, ?_, ?_, ?_⟩
          · apply msd_occ (c := c)
            rw [hK.2.1]; exact (kmn_own hc).1
          · rw [hK.2.1]; exact (kmn_own hc).1
          · unfold nearB
            rw [hK.2.1, kmn_kd]
            rw [e2] at g
            rw [kinB_rev] at g
            simp [g]
        rw [this] at hN
        cases hN
    simp [q, this]
  · simp [q]
    rw [Bool.or_comm]
theorem rk_up2 {c f : Nat} (hc : c < 2) (hf : f < 64) (h : rkS c f = 1) : rkS c (upS c (upS c f)) = 3 := by
  unfold rkS upS at *
  by_cases q : c = 0
  · simp [q] at h ⊢
    omega
  · simp [q] at h ⊢
    omega
/-- a pawn goes -/
theorem pg_iff {z : Pz} (hi : inv z) {f t : Nat} (hf : f < 64) (ht : t < 64) (ho : msd (z.1 f) z.2.1 = true) (h1 : kd (z.1 f) = 1) : goS z f t = true ↔ pnP z.1 z.2.1 f t ∨ (pawB z.2.1 f t = true ∧ z.1 t = 0 ∧ t = z.2.2.2.1) := by
  obtain ⟨hb, hc, hr, hp, hK, h16, hR, hP, hN, hE⟩ := hi
  obtain ⟨g1, g2⟩ := hP f hf h1
  have hre : reachS z.1 f t = pawB z.2.1 f t := by
    unfold reachS
    rw [if_pos h1, msd_sd hc ho]
  have one : oneS z.2.1 f t = decide (t = upS z.2.1 f) := by
    unfold oneS upS
    split
    · rfl
    · apply decide_eq_decide.mpr
      omega
  have col1 : t = upS z.2.1 f → f % 8 = t % 8 := by
    intro e
    subst e
    unfold upS
    split <;> omega
  have two : rkS z.2.1 f = 1 → twoS z.2.1 f t = decide (t = upS z.2.1 (upS z.2.1 f)) := by
    intro h
    unfold twoS upS
    unfold rkS at h
    split
    · apply decide_eq_decide.mpr
      omega
    · rename_i g
      rw [if_neg g] at h
      apply decide_eq_decide.mpr
      omega
  have col2 : rkS z.2.1 f = 1 → t = upS z.2.1 (upS z.2.1 f) → f % 8 = t % 8 := by
    intro h e
    subst e
    unfold upS
    unfold rkS at h
    split
    · omega
    · rename_i g
      rw [if_neg g] at h
      omega
  have pcol : pawB z.2.1 f t = true → f % 8 ≠ t % 8 := by
    intro h e
    unfold pawB at h
    rw [Bool.and_eq_true, decide_eq_true_eq] at h
    have h := h.1
    unfold absD at h
    split at h <;> omega
  have en : z.1 t ≠ 0 → msd (z.1 t) z.2.1 = false → msd (z.1 t) (1 - z.2.1) = true := by
    intro e1 e2
    have := occ_sides (bd := z.1) t
    rw [occ_t.mpr e1] at this
    have c2 : z.2.1 = 0 ∨ z.2.1 = 1 := by omega
    rcases c2 with q | q
    · rw [q] at e2 ⊢
      rw [e2, Bool.false_or] at this
      exact this
    · rw [q] at e2 ⊢
      rw [e2, Bool.or_false] at this
      exact this
  unfold goS
  rw [if_pos h1, Bool.and_eq_true, Bool.not_eq_true']
  unfold pgS pnP
  rw [hre, one]
  constructor
  · rintro ⟨a, b⟩
    by_cases q1 : f % 8 = t % 8 ∧ z.1 t = 0 ∧ t = upS z.2.1 f
    · exact Or.inl (Or.inr (Or.inl ⟨q1.2.2, q1.2.1⟩))
    · rw [if_neg (by simpa [and_assoc] using q1)] at b
      by_cases q2 : (decide (f % 8 = t % 8) && decide (z.1 t = 0) && twoS z.2.1 f t) = true
      · rw [if_pos q2, Bool.and_eq_true, decide_eq_true_eq, decide_eq_true_eq] at b
        rw [two b.1] at q2
        simp only [Bool.and_eq_true, decide_eq_true_eq] at q2
        exact Or.inl (Or.inr (Or.inr ⟨q2.2, b.1, b.2, q2.1.2⟩))
      · rw [if_neg q2, Bool.and_eq_true, Bool.or_eq_true, Bool.not_eq_true', decide_eq_false_iff_not, decide_eq_true_eq] at b
        by_cases q3 : z.1 t = 0
        · exact Or.inr ⟨b.1, q3, b.2.resolve_left (fun h => h q3)⟩
        · exact Or.inl (Or.inl ⟨b.1, en q3 a⟩)
  · rintro ((⟨a, b⟩ | ⟨a, b⟩ | ⟨a, b, c, d⟩) | ⟨a, b, c⟩)
    · have hne : z.1 t ≠ 0 := occ_t.mp (msd_occ b)
      have hno := msd_two (c := 1 - z.2.1) (by omega) b
      rw [show 1 - (1 - z.2.1) = z.2.1 by omega] at hno
      refine ⟨hno, ?_⟩
      simp [hne, a]
    · refine ⟨by rw [b]; exact msd_0, ?_⟩
      rw [if_pos (by rw [Bool.and_eq_true, Bool.and_eq_true, decide_eq_true_eq, decide_eq_true_eq, decide_eq_true_eq]; exact ⟨⟨col1 a, b⟩, a⟩)]
    · refine ⟨by rw [d]; exact msd_0, ?_⟩
      rw [two b]
      have e1 := col2 b a
      have e2 : ¬ t = upS z.2.1 f := by
        intro e
        have := rk_up2 hc hf b
        rw [← a, e] at this
        unfold rkS upS at *
        by_cases q : z.2.1 = 0
        · simp [q] at this b
          omega
        · simp [q] at this b
          omega
      rw [if_neg (by rw [Bool.and_eq_true, decide_eq_true_eq]; exact fun h => e2 h.2), if_pos (by rw [Bool.and_eq_true, Bool.and_eq_true, decide_eq_true_eq, decide_eq_true_eq, decide_eq_true_eq]; exact ⟨⟨e1, d⟩, a⟩), Bool.and_eq_true, decide_eq_true_eq, decide_eq_true_eq]
      exact ⟨b, c⟩
    · refine ⟨by rw [b]; exact msd_0, ?_⟩
      have e1 := pcol a
      rw [if_neg (by rw [Bool.and_eq_true, Bool.and_eq_true, decide_eq_true_eq]; exact fun h => e1 h.1.1), if_neg (by rw [Bool.and_eq_true, Bool.and_eq_true, decide_eq_true_eq]; exact fun h => e1 h.1.1), Bool.and_eq_true, Bool.or_eq_true]
      exact ⟨a, Or.inr (decide_eq_true c)⟩
theorem saf_ep {z : Pz} (hi : inv z) {k f p : Nat} (hK : isK z.1 z.2.1 k) (hf : f < 64) (hp : p = z.2.2.2.1) (hp6 : p < 64) (ho : z.1 f = pmn z.2.1) (hw : pawB z.2.1 f p = true) : safS z.1 f p 0 z.2.1 = true ↔ ¬ attG z.1 (epO z.1 z.2.1 p f) k (1 - z.2.1) := by
  obtain ⟨hb, hc, hr, hpp, hKK, h16, hR, hP, hN, hE⟩ := hi
  subst hp
  obtain ⟨e1, e2, e3⟩ := hE hp6
  obtain ⟨a1, a2, a3⟩ := pmn_ok hc
  have hcol : f % 8 ≠ z.2.2.2.1 % 8 := by
    intro e
    unfold pawB at hw
    rw [Bool.and_eq_true, decide_eq_true_eq] at hw
    have h := hw.1
    unfold absD at h
    split at h <;> omega
  have hep : epB z.1 f z.2.2.2.1 = true := by
    unfold epB
    rw [ho, a1]
    simp [hcol, e2]
  have hlp : lpB z.1 f z.2.2.2.1 = false := by
    unfold lpB
    rw [ho, a1]
    simp
  have hq : epq z.1 f z.2.2.2.1 = dnS z.2.1 z.2.2.2.1 := by
    unfold epq dnS
    rw [ho]
    by_cases g : z.2.1 = 0
    · rw [if_pos (a3.mpr g), if_pos g]
    · rw [if_neg (fun q => g (a3.mp q)), if_neg g]
  have hmv : mvS z.1 f z.2.2.2.1 0 = upd (upd (upd z.1 (dnS z.2.1 z.2.2.2.1) 0) f 0) z.2.2.2.1 (pmn z.2.1) := by
    unfold mvS mvL mvE
    rw [hep, hlp, hq, ho]
    rfl
  have hdl : dnS z.2.1 z.2.2.2.1 < 64 := dnS_lt hc hp6 (fun h => by unfold rkS at e1; rw [h] at e1; simp at e1; omega)
  have kk := kmn_own hc
  have d1 : k ≠ dnS z.2.1 z.2.2.2.1 := by
    intro e
    have := hK.2.1
    rw [e, e3] at this
    have t2 := congrArg kd this
    rw [kmn_kd, (pmn_ok (c := 1 - z.2.1) (by omega)).1] at t2
    omega
  have d2 : k ≠ f := by
    intro e
    have := hK.2.1
    rw [e, ho] at this
    have t2 := congrArg kd this
    rw [kmn_kd, a1] at t2
    omega
  have d3 : k ≠ z.2.2.2.1 := by
    intro e
    have := hK.2.1
    rw [e, e2] at this
    have t2 := congrArg kd this
    rw [kmn_kd] at t2
    exact absurd t2 (by decide)
  have hbd : gbd (upd (upd (upd z.1 (dnS z.2.1 z.2.2.2.1) 0) f 0) z.2.2.2.1 (pmn z.2.1)) := gbd_upd (gbd_upd (gbd_upd hb hdl mOK_0) hf mOK_0) hp6 (by rw [← ho]; exact hb.1 f hf)
  have hK' : isK (upd (upd (upd z.1 (dnS z.2.1 z.2.2.2.1) 0) f 0) z.2.2.2.1 (pmn z.2.1)) z.2.1 k := by
    refine ⟨hK.1, by rw [pk_un d3, pk_un d2, pk_un d1]; exact hK.2.1, fun s hs e => ?_⟩
    by_cases q3 : s = z.2.2.2.1
    · subst q3
      rw [pk_us] at e
      have t2 := congrArg kd e
      rw [kmn_kd, a1] at t2
      omega
    · rw [pk_un q3] at e
      by_cases q2 : s = f
      · subst q2
        rw [pk_us] at e
        have t2 := congrArg kd e
        rw [kmn_kd] at t2
        exact absurd t2 (by decide)
      · rw [pk_un q2] at e
        by_cases q1 : s = dnS z.2.1 z.2.2.2.1
        · subst q1
          rw [pk_us] at e
          have t2 := congrArg kd e
          rw [kmn_kd] at t2
          exact absurd t2 (by decide)
        · rw [pk_un q1] at e
          exact hK.2.2 s hs e
  unfold safS chkS
  rw [hmv, kgS_eq hK', Bool.not_eq_true', ← Bool.not_eq_true, att_iff hbd hK.1]
  apply not_congr
  apply attG_cong hK.1
  intro s hs _
  have f3 : f ≠ z.2.2.2.1 := by
    intro e
    rw [e, e2] at ho
    have t2 := congrArg kd ho
    rw [a1] at t2
    exact absurd t2 (by decide)
  have p3 : z.2.2.2.1 ≠ dnS z.2.1 z.2.2.2.1 := by
    intro e
    rw [← e, e2] at e3
    have t2 := congrArg kd e3
    rw [(pmn_ok (c := 1 - z.2.1) (by omega)).1] at t2
    exact absurd t2 (by decide)
  unfold epO
  by_cases q3 : s = z.2.2.2.1
  · subst q3
    have po : occ (upd (upd (upd z.1 (dnS z.2.1 z.2.2.2.1) 0) f 0) z.2.2.2.1 (pmn z.2.1)) z.2.2.2.1 = true := by
      apply msd_occ (c := z.2.1)
      rw [pk_us]; exact a2
    refine ⟨?_, fun _ h => ?_⟩
    · rw [po]
      simp [Ne.symm f3]
    · rw [pk_us, e2, msd_0, msd_two hc a2] at h
      rcases h with h | h <;> cases h
  · by_cases q2 : s = f
    · subst q2
      refine ⟨?_, fun _ h => ?_⟩
      · unfold occ
        rw [pk_un q3, pk_us]
        simp
      · rw [pk_un q3, pk_us, msd_0, ho, msd_two hc a2] at h
        rcases h with h | h <;> cases h
    · by_cases q1 : s = dnS z.2.1 z.2.2.2.1
      · refine ⟨?_, fun h => ?_⟩
        · unfold occ
          rw [pk_un q3, pk_un q2, q1, pk_us]
          have : ¬ dnS z.2.1 z.2.2.2.1 = z.2.2.2.1 := fun e => p3 e.symm
          simp [this]
        · unfold occ at h
          rw [pk_un q3, pk_un q2, q1, pk_us] at h
          simp at h
      · refine ⟨?_, fun _ _ => ?_⟩
        · unfold occ
          rw [pk_un q3, pk_un q2, pk_un q1]
          have x1 : (s == dnS z.2.1 z.2.2.2.1) = false := by simpa using q1
          have x2 : (s == f) = false := by simpa using q2
          have x3 : (s == z.2.2.2.1) = false := by simpa using q3
          rw [x1, x2, x3]
          simp
        · rw [pk_un q3, pk_un q2, pk_un q1]
/-- a man who is not the king: legal is what the class says -/
theorem leg_man {z : Pz} (hi : inv z) {k f t : Nat} (hK : isK z.1 z.2.1 k) (hf : f < 64) (ht : t < 64) (hfk : f ≠ k) (ho : msd (z.1 f) z.2.1 = true) {S P Q : Int64} (hS : ∀ t, t < 64 → (bt S t = true ↔ (∀ s, s < 64 → msd (z.1 s) (1 - z.2.1) = true → knpB (z.1 s) s k = true → s = t) ∧ ∀ w, w < 8 → farG z.1 (occ z.1) k (1 - z.2.1) w → seenP z.1 k w t)) (hP : ∀ f, f < 64 → (bt P f = true ↔ msd (z.1 f) z.2.1 = true ∧ ∃ w, w < 8 ∧ pinP z.1 k (1 - z.2.1) w f)) (hQ : ∀ f, f < 64 → (bt Q f = true ↔ z.2.2.2.1 < 64 ∧ z.1 f = pmn z.2.1 ∧ pawB z.2.1 f z.2.2.2.1 = true ∧ ¬ attG z.1 (epO z.1 z.2.1 z.2.2.2.1 f) k (1 - z.2.1))) : leS z f t = true ↔ (pseP z.1 z.2.1 f t ∧ bt S t = true ∧ (bt P f = true → ∀ w, w < 8 → rayB w k f = true → rayB w k t = true)) ∨ (bt Q f = true ∧ t = z.2.2.2.1) := by
  have hi2 := hi
  obtain ⟨hb, hc, hr, hpp, hKK, h16, hR, hPw, hN, hE⟩ := hi
  obtain ⟨k', hK'⟩ := hKK (1 - z.2.1) (by omega)
  have hm := hb.1 f hf
  have h6 : kd (z.1 f) ≠ 6 := fun e => hfk (hK.2.2 f hf (king_man hm hc e ho))
  -- a plain move
  have plain : pseP z.1 z.2.1 f t → msd (z.1 t) z.2.1 = false → epB z.1 f t = false → (safS z.1 f t 0 z.2.1 = true ↔ bt S t = true ∧ (bt P f = true → ∀ w, w < 8 → rayB w k f = true → rayB w k t = true)) := by
    intro hps hto hep
    rw [saf_plain hb hc hK hf ht (by omega) ho h6 hto hep (pth_of hK.1 hf (pse_line hm hc hf ht h6 (hPw f hf) hps)), hS t ht, hP f hf]
    constructor
    · rintro ⟨a, b⟩
      refine ⟨⟨fun s hs h1 h2 => a s hs h1 (by rw [near_kn hb hc hK hK' hN hs h1]; exact h2), fun w hw => (b w hw).1⟩, ?_⟩
      rintro ⟨_, v, hv, hp⟩ w hw hr
      obtain ⟨j, x1, x2, x3, _⟩ := hp.1
      obtain ⟨i, y1, y2, y3⟩ := (ray_iff hw hK.1 hf).mp hr
      have e := (wsq_inj hv hw hK.1 x1 x2 y1 y2 (x3.symm.trans y3)).1
      subst e
      exact (ray_iff hw hK.1 ht).mpr ((b v hv).2 hp)
    · rintro ⟨⟨a, b⟩, g⟩
      refine ⟨fun s hs h1 h2 => a s hs h1 (by rw [← near_kn hb hc hK hK' hN hs h1]; exact h2), fun w hw => ⟨b w hw, fun hp => ?_⟩⟩
      obtain ⟨j, x1, x2, x3, _⟩ := hp.1
      exact (ray_iff hw hK.1 ht).mp (g ⟨ho, w, hw, hp⟩ w hw ((ray_iff hw hK.1 hf).mpr ⟨j, x1, x2, x3⟩))
  unfold leS
  rw [Bool.and_eq_true]
  by_cases h1 : kd (z.1 f) = 1
  · have hpm := (pawn_man hm hc).mp ⟨h1, ho⟩
    rw [pg_iff hi2 hf ht ho h1]
    have ps : pseP z.1 z.2.1 f t ↔ pnP z.1 z.2.1 f t := by
      unfold pseP
      rw [if_pos h1]
    have pn : pnP z.1 z.2.1 f t → msd (z.1 t) z.2.1 = false ∧ epB z.1 f t = false := by
      intro h
      obtain ⟨g1, g2⟩ := hPw f hf h1
      rcases h with ⟨a, b⟩ | ⟨a, b⟩ | ⟨a, b, d, e⟩
      · have hno := msd_two (c := 1 - z.2.1) (by omega) b
        rw [show 1 - (1 - z.2.1) = z.2.1 by omega] at hno
        refine ⟨hno, ?_⟩
        unfold epB
        have : z.1 t ≠ 0 := occ_t.mp (msd_occ b)
        simp [this]
      · refine ⟨by rw [b]; exact msd_0, ?_⟩
        unfold epB
        have : f % 8 = t % 8 := by
          rw [a]
          unfold upS
          split <;> omega
        simp [this]
      · refine ⟨by rw [e]; exact msd_0, ?_⟩
        unfold epB
        have : f % 8 = t % 8 := by
          rw [a]
          unfold upS
          unfold rkS at b
          split
          · omega
          · rename_i g
            rw [if_neg g] at b
            omega
        simp [this]
    rw [ps]
    constructor
    · rintro ⟨h | ⟨a, b, c⟩, hs⟩
      · exact Or.inl ⟨h, (plain (ps.mpr h) (pn h).1 (pn h).2).mp hs⟩
      · subst c
        exact Or.inr ⟨(hQ f hf).mpr ⟨ht, hpm, a, (saf_ep hi2 hK hf rfl ht hpm a).mp hs⟩, rfl⟩
    · rintro (⟨h, g⟩ | ⟨h, e⟩)
      · exact ⟨Or.inl h, (plain (ps.mpr h) (pn h).1 (pn h).2).mpr g⟩
      · obtain ⟨a1, a2, a3, a4⟩ := (hQ f hf).mp h
        subst e
        exact ⟨Or.inr ⟨a3, (hE a1).2.1, rfl⟩, (saf_ep hi2 hK hf rfl a1 hpm a3).mpr a4⟩
  · have ps : goS z f t = true ↔ pseP z.1 z.2.1 f t := by
      unfold goS pseP
      rw [if_neg h1, if_neg h6, if_neg h1, Bool.and_eq_true, Bool.not_eq_true']
      exact and_comm
    have nq : bt Q f ≠ true := by
      intro h
      have := ((hQ f hf).mp h).2.1
      rw [this, (pmn_ok hc).1] at h1
      exact h1 rfl
    rw [ps]
    constructor
    · rintro ⟨h, hs⟩
      have hto : msd (z.1 t) z.2.1 = false := by
        have := h
        unfold pseP at this
        rw [if_neg h1] at this
        exact this.2
      exact Or.inl ⟨h, (plain h hto (by unfold epB; simp [h1])).mp hs⟩
    · rintro (⟨h, g⟩ | ⟨h, e⟩)
      · have hto : msd (z.1 t) z.2.1 = false := by
          have := h
          unfold pseP at this
          rw [if_neg h1] at this
          exact this.2
        exact ⟨h, (plain h hto (by unfold epB; simp [h1])).mpr g⟩
      · exact absurd h nq
