/-! A legal move keeps what holds of every position. -/
/-- how many men a side has -/
def mnN (bd : Nat → Int32) (c : Nat) : Nat := cb (fun s => msd (bd s) c) 64
theorem cb_upd {p q : Nat → Bool} {k : Nat} (h : ∀ i, i ≠ k → q i = p i) : ∀ {n : Nat}, k < n → cb q n + b2n (p k) = cb p n + b2n (q k)
  | 0, hk => by omega
  | n + 1, hk => by
    rw [cb_s, cb_s]
    by_cases g : k < n
    · have := cb_upd h g
      rw [h n (by omega)]
      omega
    · have : k = n := by omega
      subst this
      have : cb q k = cb p k := cb_cong (fun i hi => h i (by omega))
      omega
theorem mnN_upd {bd : Nat → Int32} {k : Nat} (hk : k < 64) (x : Int32) (c : Nat) : mnN (upd bd k x) c + b2n (msd (bd k) c) = mnN bd c + b2n (msd x c) := by
  have := cb_upd (p := fun s => msd (bd s) c) (q := fun s => msd (upd bd k x s) c) (k := k) (fun i hi => by
    show msd (upd bd k x i) c = msd (bd i) c
    rw [pk_un hi]) hk
  have e : msd (upd bd k x k) c = msd x c := by rw [pk_us]
  unfold mnN
  simp only [e] at this
  exact this
/-- the three sorts of moves -/
def mvC (z : Pz) (f t u : Nat) : Prop :=
  (epB z.1 f t = false ∧ lpB z.1 f t = false) ∨
  (epB z.1 f t = true ∧ lpB z.1 f t = false ∧ u = 0 ∧ t = z.2.2.2.1 ∧ z.1 f = pmn z.2.1 ∧ pawB z.2.1 f t = true) ∨
  (epB z.1 f t = false ∧ lpB z.1 f t = true ∧ u = 0 ∧ f = 56 * z.2.1 + 4 ∧ z.1 f = kmn z.2.1 ∧ ∃ sh, rtB z.2.2.1 z.2.1 sh = true ∧ t = 56 * z.2.1 + (if sh then 6 else 2) ∧ z.1 t = 0 ∧ z.1 (56 * z.2.1 + (if sh then 5 else 3)) = 0 ∧ (f + t) / 2 = 56 * z.2.1 + (if sh then 5 else 3) ∧ lpq f t = 56 * z.2.1 + (if sh then 7 else 0) ∧ z.1 (56 * z.2.1 + (if sh then 7 else 0)) = rkm z.2.1)
theorem nlast_u {z : Pz} {f t u : Nat} (hu : u ∈ tuS z f t) (hl : lastS z f t = false) : u = 0 := by
  unfold tuS at hu
  rw [hl] at hu
  simpa using hu
theorem pn_ep {z : Pz} (hi : inv z) {f t : Nat} (hf : f < 64) (h1 : kd (z.1 f) = 1) (h : pnP z.1 z.2.1 f t) : msd (z.1 t) z.2.1 = false ∧ epB z.1 f t = false := by
  obtain ⟨g1, g2⟩ := hi.2.2.2.2.2.2.2.1 f hf h1
  have hc := hi.2.1
  rcases h with ⟨a, b⟩ | ⟨a, b⟩ | ⟨a, b, d, e⟩
  · have hno := msd_two (c := 1 - z.2.1) (by omega) b
    rw [show 1 - (1 - z.2.1) = z.2.1 by omega] at hno
    refine ⟨hno, ?_⟩
    unfold epB
    have : z.1 t ≠ 0 := occ_t.mp (msd_occ b)
    simp [this]
  · refine ⟨by rw [b]; exact msd_0, ?_⟩
    unfold epB
    have : f % 8 = t % 8 := by
      rw [a]
      unfold upS
      split <;> omega
    simp [this]
  · refine ⟨by rw [e]; exact msd_0, ?_⟩
    unfold epB
    have : f % 8 = t % 8 := by
      rw [a]
      unfold upS
      unfold rkS at b
      split
      · omega
      · rename_i g
        rw [if_neg g] at b
        omega
    simp [this]
theorem mv_cases {z : Pz} (hi : inv z) {m : Mv} (hm : m ∈ lmS z) : mvC z m.1 m.2.1 m.2.2 := by
  obtain ⟨f, t, u⟩ := m
  obtain ⟨hf, ht, ho, hg, hu, hs⟩ := lmS_mem.mp hm
  dsimp only at hf ht ho hg hu hs ⊢
  have hgk := inv_rgK hi
  have hi2 := hi
  obtain ⟨hb, hc, hr, hpp, hKK, h16, hR, hPw, hN, hE⟩ := hi
  have hmf := hb.1 f hf
  unfold mvC
  cases he : epB z.1 f t with
  | true =>
    right
    left
    have he2 := he
    unfold epB at he2
    simp only [Bool.and_eq_true, decide_eq_true_eq] at he2
    have hl : lpB z.1 f t = false := by
      unfold lpB
      simp [he2.1.1]
    have hq : pawB z.2.1 f t = true ∧ z.1 t = 0 ∧ t = z.2.2.2.1 := by
      rcases (pg_iff hi2 hf ht ho he2.1.1).mp hg with h | h
      · have := (pn_ep hi2 hf he2.1.1 h).2
        rw [he] at this
        cases this
      · exact h
    have hlast : lastS z f t = false := by
      unfold lastS
      have := (hE (by omega)).1
      rw [← hq.2.2] at this
      simp [this]
    exact ⟨rfl, hl, nlast_u hu hlast, hq.2.2, (pawn_man hmf hc).mp ⟨he2.1.1, ho⟩, hq.1⟩
  | false =>
    cases hl : lpB z.1 f t with
    | false => exact Or.inl ⟨rfl, rfl⟩
    | true =>
      right
      right
      have hl2 := hl
      unfold lpB at hl2
      simp only [Bool.and_eq_true, decide_eq_true_eq] at hl2
      have hkm := king_man hmf hc hl2.1 ho
      have hlast : lastS z f t = false := by
        unfold lastS
        simp [hl2.1]
      have hkl : klS z.1 z.2.1 z.2.2.1 f t = true := by
        unfold goS at hg
        rw [if_neg (by omega), if_pos hl2.1, Bool.and_eq_true, Bool.or_eq_true] at hg
        rcases hg.2 with h | h
        · unfold reachS at h
          simp only [hl2.1] at h
          have h : kinB f t = true := h
          unfold kinB at h
          simp [hl2.2] at h
        · exact h
      unfold klS at hkl
      simp only [Bool.and_eq_true, decide_eq_true_eq] at hkl
      obtain ⟨⟨⟨⟨⟨⟨b1, b2⟩, b3⟩, b4⟩, b5⟩, b6⟩, b7⟩ := hkl
      have ek := hgk f hf hkm _ b3
      refine ⟨rfl, rfl, nlast_u hu hlast, by omega, hkm, decide (f < t), b3, ?_⟩
      have hro := (hR z.2.1 hc _ b3).2
      by_cases g : f < t
      · simp only [g, decide_true, if_true] at hro ⊢
        rw [if_pos g, clr_e3] at b4
        unfold absD at b2
        rw [if_pos g] at b2
        refine ⟨by omega, ?_, ?_, by omega, ?_, hro⟩
        · have h := b4.2
          rw [show f + 2 = t by omega] at h
          exact h
        · have h := b4.1
          rw [show f + 1 = 56 * z.2.1 + 5 by omega] at h
          exact h
        · unfold lpq
          rw [if_pos g]
          omega
      · simp only [g, decide_false, Bool.false_eq_true, if_false] at hro ⊢
        rw [if_neg g, clr_w4] at b4
        unfold absD at b2
        rw [if_neg g] at b2
        refine ⟨by omega, ?_, ?_, by omega, ?_, hro⟩
        · have h := b4.2.1
          rw [show f - 2 = t by omega] at h
          exact h
        · have h := b4.1
          rw [show f - 1 = 56 * z.2.1 + 3 by omega] at h
          exact h
        · unfold lpq
          rw [if_neg g]
          omega
theorem mvS_ep {z : Pz} {f t : Nat} (hc : z.2.1 < 2) (he : epB z.1 f t = true) (hl : lpB z.1 f t = false) (hp : z.1 f = pmn z.2.1) : mvS z.1 f t 0 = upd (upd (upd z.1 (dnS z.2.1 t) 0) f 0) t (z.1 f) := by
  have hq : epq z.1 f t = dnS z.2.1 t := by
    unfold epq dnS
    rw [hp]
    have a3 := (pmn_ok hc).2.2
    by_cases g : z.2.1 = 0
    · rw [if_pos (a3.mpr g), if_pos g]
    · rw [if_neg (fun q => g (a3.mp q)), if_neg g]
  unfold mvS mvL mvE
  rw [he, hl, hq]
  rfl
theorem mvS_lp {bd : Nat → Int32} {f t mid cor : Nat} (he : epB bd f t = false) (hl : lpB bd f t = true) (em : (f + t) / 2 = mid) (ec : lpq f t = cor) : mvS bd f t 0 = upd (upd (upd (upd bd mid (bd cor)) cor 0) f 0) t (bd f) := by
  unfold mvS mvL mvE
  rw [he, hl]
  simp only [if_true, Bool.false_eq_true, if_false]
  rw [em, ec]
  rfl
/-- who takes a man reaches him -/
theorem go_reach {z : Pz} (hi : inv z) {f t : Nat} (hf : f < 64) (ht : t < 64) (ho : msd (z.1 f) z.2.1 = true) (hg : goS z f t = true) (hn : z.1 t ≠ 0) : reachS z.1 f t = true := by
  have hmf := hi.1.1 f hf
  have hgk := inv_rgK hi
  by_cases h1 : kd (z.1 f) = 1
  · rcases (pg_iff hi hf ht ho h1).mp hg with (⟨a, _⟩ | ⟨_, b⟩ | ⟨_, _, _, b⟩) | ⟨_, b, _⟩
    · unfold reachS
      rw [if_pos h1, msd_sd hi.2.1 ho]
      exact a
    · exact absurd b hn
    · exact absurd b hn
    · exact absurd b hn
  · unfold goS at hg
    rw [if_neg h1, Bool.and_eq_true] at hg
    by_cases h6 : kd (z.1 f) = 6
    · have hg := hg.2
      rw [if_pos h6, Bool.or_eq_true] at hg
      rcases hg with h | h
      · exact h
      · unfold klS at h
        simp only [Bool.and_eq_true, decide_eq_true_eq] at h
        obtain ⟨⟨⟨⟨⟨⟨b1, b2⟩, b3⟩, b4⟩, _⟩, _⟩, _⟩ := h
        have ek := hgk f hf (king_man hmf hi.2.1 h6 ho) _ b3
        have hc := hi.2.1
        by_cases g : f < t
        · rw [if_pos g, clr_e3] at b4
          unfold absD at b2
          rw [if_pos g] at b2
          have h := b4.2
          rw [show f + 2 = t by omega] at h
          exact absurd h hn
        · rw [if_neg g, clr_w4] at b4
          unfold absD at b2
          rw [if_neg g] at b2
          have h := b4.2.1
          rw [show f - 2 = t by omega] at h
          exact absurd h hn
    · rw [if_neg h6] at hg
      exact hg.2
theorem no_king_taken {z : Pz} (hi : inv z) {f t k' : Nat} (hf : f < 64) (ht : t < 64) (ho : msd (z.1 f) z.2.1 = true) (hg : goS z f t = true) (hK' : isK z.1 (1 - z.2.1) k') : t ≠ k' := by
  intro e
  subst e
  have hc := hi.2.1
  have hn : z.1 t ≠ 0 := by
    rw [hK'.2.1]
    intro e
    have := congrArg kd e
    rw [kmn_kd] at this
    exact absurd this (by decide)
  have hr := go_reach hi hf ht ho hg hn
  have hN := hi.2.2.2.2.2.2.2.2.1
  unfold chkS at hN
  rw [kgS_eq hK', show 1 - (1 - z.2.1) = z.2.1 by omega] at hN
  have : attS z.1 t z.2.1 = true := by
    unfold attS
    rw [anyB_iff]
    exact ⟨f, hf, by rw [ho, hr]; rfl⟩
  rw [this] at hN
  cases hN
theorem kr_tb : (List.range 64).all (fun s => (List.range 2).all (fun c => (!(rtB (krS s) c true) || (!(s == 56 * c + 4) && !(s == 56 * c + 7))) && (!(rtB (krS s) c false) || (!(s == 56 * c + 4) && !(s == 56 * c))))) = true := by decide +kernel
theorem kr_e {s c : Nat} (hs : s < 64) (hc : c < 2) {sh : Bool} (h : rtB (krS s) c sh = true) : s ≠ 56 * c + 4 ∧ s ≠ 56 * c + (if sh then 7 else 0) := by
  have := all_lt (all_lt kr_tb hs) hc
  rw [Bool.and_eq_true] at this
  cases sh with
  | true =>
    rw [h] at this
    simp at this
    exact ⟨this.1.1, this.1.2⟩
  | false =>
    rw [h] at this
    simp at this
    exact ⟨this.2.1, this.2.2⟩
theorem rtB_rg {r f t c : Nat} {sh : Bool} (h : rtB (rgS r f t) c sh = true) : rtB r c sh = true ∧ rtB (krS f) c sh = true ∧ rtB (krS t) c sh = true := by
  unfold rtB rgS at *
  rw [Nat.testBit_and, Nat.testBit_and, Bool.and_eq_true, Bool.and_eq_true] at h
  exact ⟨h.1.1, h.1.2, h.2⟩
theorem cmS_kd {m : Int32} {u : Nat} (hu : u ≤ 5) (h : u ≠ 0) : kd (cmS m u) = u := by
  have : u = 1 ∨ u = 2 ∨ u = 3 ∨ u = 4 ∨ u = 5 := by omega
  unfold cmS
  rw [if_neg h]
  split
  · rcases this with q | q | q | q | q <;> subst q <;> decide
  · rcases this with q | q | q | q | q <;> subst q <;> decide
/-- the board behind a legal move: what stands where -/
theorem mv_at {z : Pz} (hi : inv z) {m : Mv} (hm : m ∈ lmS z) (s : Nat) : mvS z.1 m.1 m.2.1 m.2.2 s = (if s = m.2.1 then cmS (z.1 m.1) m.2.2 else if s = m.1 then 0 else if epB z.1 m.1 m.2.1 = true ∧ s = dnS z.2.1 m.2.1 then 0 else if lpB z.1 m.1 m.2.1 = true ∧ s = lpq m.1 m.2.1 then 0 else if lpB z.1 m.1 m.2.1 = true ∧ s = (m.1 + m.2.1) / 2 then z.1 (lpq m.1 m.2.1) else z.1 s) := by
  have hC := mv_cases hi hm
  obtain ⟨f, t, u⟩ := m
  dsimp only at hC ⊢
  have hc := hi.2.1
  rcases hC with ⟨he, hl⟩ | ⟨he, hl, hu, hp, hpm, hw⟩ | ⟨he, hl, hu, hrest⟩
  · rw [mvS_plain he hl, he, hl]
    by_cases q1 : s = t
    · rw [if_pos q1, q1, pk_us]
    · rw [if_neg q1, pk_un q1]
      by_cases q2 : s = f
      · rw [if_pos q2, q2, pk_us]
      · rw [if_neg q2, pk_un q2]
        simp
  · subst hu
    rw [mvS_ep hc he hl hpm, he, hl]
    by_cases q1 : s = t
    · rw [if_pos q1, q1, pk_us]
      rfl
    · rw [if_neg q1, pk_un q1]
      by_cases q2 : s = f
      · rw [if_pos q2, q2, pk_us]
      · rw [if_neg q2, pk_un q2]
        by_cases q3 : s = dnS z.2.1 t
        · rw [if_pos ⟨rfl, q3⟩, q3, pk_us]
        · rw [if_neg (fun h => q3 h.2), pk_un q3]
          simp
  · subst hu
    rw [mvS_lp he hl rfl rfl, he, hl]
    by_cases q1 : s = t
    · rw [if_pos q1, q1, pk_us]
      rfl
    · rw [if_neg q1, pk_un q1]
      by_cases q2 : s = f
      · rw [if_pos q2, q2, pk_us]
      · rw [if_neg q2, pk_un q2, if_neg (fun h => by cases h.1)]
        by_cases q3 : s = lpq f t
        · rw [if_pos ⟨rfl, q3⟩, q3, pk_us]
        · rw [if_neg (fun h => q3 h.2), pk_un q3]
          by_cases q4 : s = (f + t) / 2
          · rw [if_pos ⟨rfl, q4⟩, q4, pk_us]
          · rw [if_neg (fun h => q4 h.2), pk_un q4]
theorem rkm_ok {c : Nat} (hc : c < 2) : msd (rkm c) c = true ∧ kd (rkm c) = 4 := by
  have : c = 0 ∨ c = 1 := by omega
  rcases this with q | q <;> subst q <;> decide
theorem inv_mk {z : Pz} (hi : inv z) {m : Mv} (hm : m ∈ lmS z) : inv (mkM z m) := by
  have hC := mv_cases hi hm
  have hat := mv_at hi hm
  have hgk := inv_rgK hi
  have hmem := lmS_mem.mp hm
  obtain ⟨f, t, u⟩ := m
  dsimp only at hC hat hmem
  obtain ⟨hf, ht, ho, hg, hu, hsf⟩ := hmem
  have hu5 := tuS_le hu
  have hmvK := goS_mvK hi.1 hi.2.1 hgk hf ht ho hg
  have hi2 := hi
  obtain ⟨hb, hc, hr, hpp, hKK, h16, hR, hPw, hN, hE⟩ := hi
  have hmf := hb.1 f hf
  obtain ⟨o1, o2⟩ := cmS_own hmf hc ho hu5
  have hto : msd (z.1 t) z.2.1 = false := by
    unfold goS at hg
    rw [Bool.and_eq_true, Bool.not_eq_true'] at hg
    exact hg.1
  have hft : f ≠ t := by
    intro e
    rw [e, hto] at ho
    cases ho
  have hbd' : gbd (mvS z.1 f t u) := gbd_mvS hb hf ht hu5 hmvK
  obtain ⟨k, hK⟩ := hKK z.2.1 hc
  obtain ⟨k', hK'⟩ := hKK (1 - z.2.1) (by omega)
  have htk' := no_king_taken hi2 hf ht ho hg hK'
  show inv (mvS z.1 f t u, 1 - z.2.1, rgS z.2.2.1 f t, psS z.1 z.2.1 f t u, _, _)
  refine ⟨hbd', by dsimp only; omega, rgS_lt hr f t, ?_, ?_, ?_, ?_, ?_, ?_, ?_⟩
  · dsimp only
    unfold psS
    split <;> omega
  · -- kings
    intro c' hc'
    dsimp only
    by_cases ec : c' = z.2.1
    · subst ec
      by_cases efk : f = k
      · -- the king moves
        have h6 : kd (z.1 f) = 6 := by rw [efk, hK.2.1]; exact kmn_kd
        have hu0 : u = 0 := by
          apply nlast_u hu
          unfold lastS
          simp [h6]
        refine ⟨t, ht, ?_, fun s hs e => ?_⟩
        · rw [hat t, if_pos rfl, hu0]
          show z.1 f = _
          rw [efk]
          exact hK.2.1
        · rw [hat s] at e
          apply Classical.byContradiction
          intro q
          rw [if_neg q] at e
          have z6 : ∀ x : Int32, x = kmn z.2.1 → kd x = 6 := fun x hx => by rw [hx]; exact kmn_kd
          split at e
          · exact absurd (z6 _ e) (by decide)
          · split at e
            · exact absurd (z6 _ e) (by decide)
            · split at e
              · exact absurd (z6 _ e) (by decide)
              · split at e
                · rename_i g
                  rcases hC with ⟨_, hl⟩ | ⟨_, hl, _⟩ | ⟨_, _, _, _, _, sh, _, _, _, _, _, x5, x6⟩
                  · rw [hl] at g; cases g.1
                  · rw [hl] at g; cases g.1
                  · rw [x5, x6] at e
                    have := z6 _ e
                    rw [(rkm_ok hc).2] at this
                    omega
                · rename_i h1 _ _ _
                  exact h1 ((hK.2.2 s hs e).trans efk.symm)
      · have h6 : kd (z.1 f) ≠ 6 := fun e => efk (hK.2.2 f hf (king_man hmf hc e ho))
        have hl : lpB z.1 f t = false := by
          unfold lpB
          simp [h6]
        have ktt : k ≠ t := by
          intro e
          rw [← e, hK.2.1, (kmn_own hc).1] at hto
          cases hto
        refine ⟨k, hK.1, ?_, fun s hs e => ?_⟩
        · rw [hat k, if_neg ktt, if_neg (fun e => efk e.symm), hl]
          rw [if_neg, if_neg (fun h => by cases h.1), if_neg (fun h => by cases h.1)]
          · exact hK.2.1
          · rintro ⟨h1, h2⟩
            rcases hC with ⟨he, _⟩ | ⟨_, _, _, hp, _, _⟩ | ⟨he, _⟩
            · rw [he] at h1; cases h1
            · have := (hE (by omega)).2.2
              rw [← hp, ← h2, hK.2.1] at this
              have := congrArg kd this
              rw [kmn_kd, (pmn_ok (c := 1 - z.2.1) (by omega)).1] at this
              omega
            · rw [he] at h1; cases h1
        · rw [hat s] at e
          have z6 : ∀ x : Int32, x = kmn z.2.1 → kd x = 6 := fun x hx => by rw [hx]; exact kmn_kd
          split at e
          · exact absurd (z6 _ e) (o2 h6)
          · split at e
            · exact absurd (z6 _ e) (by decide)
            · split at e
              · exact absurd (z6 _ e) (by decide)
              · rw [hl] at e
                rw [if_neg (fun h => by cases h.1), if_neg (fun h => by cases h.1)] at e
                exact hK.2.2 s hs e
    · have ec : c' = 1 - z.2.1 := by omega
      subst ec
      have kk := kmn_own (c := 1 - z.2.1) (by omega)
      have kf : k' ≠ f := by
        intro e
        have := hK'.2.1
        rw [e] at this
        rw [this] at ho
        have h2 := msd_two (c := 1 - z.2.1) (by omega) kk.1
        rw [show 1 - (1 - z.2.1) = z.2.1 by omega, ho] at h2
        cases h2
      refine ⟨k', hK'.1, ?_, fun s hs e => ?_⟩
      · rw [hat k', if_neg (fun e => htk' e.symm), if_neg kf]
        rcases hC with ⟨he, hl⟩ | ⟨he, hl, hu0, hp, hpm, hw⟩ | ⟨he, hl, hu0, x1, x2, sh, x3, x4, x5, x6, x7, x8, x9⟩
        · rw [he, hl]
          simp only [Bool.false_eq_true, false_and, if_false]
          exact hK'.2.1
        · rw [he, hl]
          simp only [Bool.false_eq_true, false_and, if_false, true_and]
          rw [if_neg]
          · exact hK'.2.1
          · intro e
            have := (hE (by omega)).2.2
            rw [← hp, ← e, hK'.2.1] at this
            have := congrArg kd this
            rw [kmn_kd, (pmn_ok (c := 1 - z.2.1) (by omega)).1] at this
            omega
        · rw [he, hl]
          simp only [Bool.false_eq_true, false_and, if_false, true_and]
          rw [x7, x8, if_neg, if_neg]
          · exact hK'.2.1
          · intro e
            have := hK'.2.1
            rw [e, x6] at this
            have := congrArg kd this
            rw [kmn_kd] at this
            exact absurd this (by decide)
          · intro e
            have := hK'.2.1
            rw [e, x9] at this
            have := congrArg kd this
            rw [kmn_kd, (rkm_ok hc).2] at this
            omega
      · rw [hat s] at e
        have z6 : ∀ x : Int32, x = kmn (1 - z.2.1) → kd x = 6 ∧ msd x (1 - z.2.1) = true := fun x hx => by rw [hx]; exact ⟨kmn_kd, kk.1⟩
        split at e
        · have := (z6 _ e).2
          rw [msd_two hc o1] at this
          cases this
        · split at e
          · exact absurd (z6 _ e).1 (by decide)
          · split at e
            · exact absurd (z6 _ e).1 (by decide)
            · split at e
              · exact absurd (z6 _ e).1 (by decide)
              · split at e
                · rename_i g
                  rcases hC with ⟨_, hl⟩ | ⟨_, hl, _⟩ | ⟨_, _, _, _, _, sh, _, _, _, _, _, x5, x6⟩
                  · rw [hl] at g; cases g.1
                  · rw [hl] at g; cases g.1
                  · rw [x5, x6] at e
                    have := (z6 _ e).1
                    rw [(rkm_ok hc).2] at this
                    omega
                · exact hK'.2.2 s hs e
  · -- men
    intro c' hc'
    dsimp only
    have h16c := h16 c' hc'
    show mnN (mvS z.1 f t u) c' ≤ 16
    have h16c : mnN z.1 c' ≤ 16 := h16c
    have b1 : ∀ b, b2n b ≤ 1 := fun b => by unfold b2n; split <;> omega
    have b0 : b2n false = 0 := rfl
    have b11 : b2n true = 1 := rfl
    rcases hC with ⟨he, hl⟩ | ⟨he, hl, hu0, hp, hpm, hw⟩ | ⟨he, hl, hu0, x1, x2, sh, x3, x4, x5, x6, x7, x8, x9⟩
    · rw [mvS_plain he hl]
      have e1 := mnN_upd (bd := z.1) hf 0 c'
      have e2 := mnN_upd (bd := upd z.1 f 0) ht (cmS (z.1 f) u) c'
      rw [pk_un (Ne.symm hft)] at e2
      rw [msd_0] at e1
      by_cases ec : c' = z.2.1
      · subst ec
        rw [ho] at e1
        rw [hto, o1] at e2
        omega
      · have ec : c' = 1 - z.2.1 := by omega
        subst ec
        rw [msd_two hc ho] at e1
        rw [msd_two hc o1] at e2
        omega
    · subst hu0
      rw [mvS_ep hc he hl hpm]
      have hdl : dnS z.2.1 t < 64 := dnS_lt hc ht (fun h => by
        have := (hE (by omega)).1
        unfold rkS at this
        rw [if_neg (by omega)] at this
        omega)
      have e0 := mnN_upd (bd := z.1) hdl 0 c'
      have e1 := mnN_upd (bd := upd z.1 (dnS z.2.1 t) 0) hf 0 c'
      have e2 := mnN_upd (bd := upd (upd z.1 (dnS z.2.1 t) 0) f 0) ht (z.1 f) c'
      rw [msd_0] at e0 e1
      have hdf : f ≠ dnS z.2.1 t := by
        intro e
        have := (hE (by omega)).2.2
        rw [← hp, ← e] at this
        rw [this] at ho
        have h2 := msd_two (c := 1 - z.2.1) (by omega) (pmn_ok (c := 1 - z.2.1) (by omega)).2.1
        rw [show 1 - (1 - z.2.1) = z.2.1 by omega, ho] at h2
        cases h2
      rw [pk_un hdf] at e1
      have := b1 (msd (upd (upd z.1 (dnS z.2.1 t) 0) f 0 t) c')
      by_cases ec : c' = z.2.1
      · subst ec
        rw [ho] at e1 e2
        omega
      · have ec : c' = 1 - z.2.1 := by omega
        subst ec
        rw [msd_two hc ho] at e1 e2
        omega
    · subst hu0
      rw [mvS_lp he hl x7 x8, x9]
      have hmid : 56 * z.2.1 + (if sh then 5 else 3) < 64 := by split <;> omega
      have hcor : 56 * z.2.1 + (if sh then 7 else 0) < 64 := by split <;> omega
      have d1 : 56 * z.2.1 + (if sh then 7 else 0) ≠ 56 * z.2.1 + (if sh then 5 else 3) := by cases sh <;> simp
      have d2 : f ≠ 56 * z.2.1 + (if sh then 7 else 0) := by rw [x1]; cases sh <;> simp
      have d3 : f ≠ 56 * z.2.1 + (if sh then 5 else 3) := by rw [x1]; cases sh <;> simp
      generalize 56 * z.2.1 + (if sh then 5 else 3) = mid at *
      generalize 56 * z.2.1 + (if sh then 7 else 0) = cor at *
      have e0 := mnN_upd (bd := z.1) hmid (rkm z.2.1) c'
      have e1 := mnN_upd (bd := upd z.1 mid (rkm z.2.1)) hcor 0 c'
      have e2 := mnN_upd (bd := upd (upd z.1 mid (rkm z.2.1)) cor 0) hf 0 c'
      have e3 := mnN_upd (bd := upd (upd (upd z.1 mid (rkm z.2.1)) cor 0) f 0) ht (z.1 f) c'
      rw [x6, msd_0] at e0
      rw [pk_un d1, x9, msd_0] at e1
      rw [pk_un d2, pk_un d3, msd_0] at e2
      have := b1 (msd (upd (upd (upd z.1 mid (rkm z.2.1)) cor 0) f 0 t) c')
      omega
  · -- rights
    intro c' hc' sh hrt
    dsimp only at hrt ⊢
    obtain ⟨r1, r2, r3⟩ := rtB_rg hrt
    obtain ⟨f1, f2⟩ := kr_e hf hc' r2
    obtain ⟨t1, t2⟩ := kr_e ht hc' r3
    obtain ⟨v1, v2⟩ := hR c' hc' sh r1
    have key : ∀ s, s ≠ f → s ≠ t → (8 ≤ s → 56 ≤ s) → (s / 8 = 7 * c') → mvS z.1 f t u s = z.1 s := by
      intro s s1 s2 s3 s4
      rw [hat s, if_neg s2, if_neg s1]
      rcases hC with ⟨he, hl⟩ | ⟨he, hl, hu0, hp, hpm, hw⟩ | ⟨he, hl, hu0, x1, x2, sh', x3, x4, x5, x6, x7, x8, x9⟩
      · rw [he, hl]
        simp
      · rw [he, hl]
        simp only [Bool.false_eq_true, false_and, if_false, true_and]
        rw [if_neg]
        intro e
        have := (hE (by omega)).1
        rw [← hp] at this
        unfold rkS at this
        unfold dnS at e
        by_cases q : z.2.1 = 0
        · rw [if_pos q] at this e
          omega
        · rw [if_neg q] at this e
          omega
      · have : c' ≠ z.2.1 := by
          intro e
          rw [e] at f1
          exact f1 x1
        rw [he, hl]
        simp only [Bool.false_eq_true, false_and, if_false, true_and]
        rw [x7, x8, if_neg, if_neg]
        · intro e
          have : s / 8 = 7 * z.2.1 := by rw [e]; cases sh' <;> simp <;> omega
          omega
        · intro e
          have : s / 8 = 7 * z.2.1 := by rw [e]; cases sh' <;> simp <;> omega
          omega
    have hc2 : c' = 0 ∨ c' = 1 := by omega
    refine ⟨?_, ?_⟩
    · rw [key _ (Ne.symm f1) (Ne.symm t1) (by omega) (by omega)]
      exact v1
    · rw [key _ (Ne.symm f2) (Ne.symm t2) (by cases sh <;> simp <;> omega) (by cases sh <;> simp <;> omega)]
      exact v2
  · -- pawns
    intro s hs h1
    dsimp only at h1
    rw [hat s] at h1
    have n1 : ¬ kd 0 = 1 := by decide
    by_cases q1 : s = t
    · rw [if_pos q1] at h1
      subst q1
      by_cases hu0 : u = 0
      · subst hu0
        have h1 : kd (z.1 f) = 1 := h1
        obtain ⟨g1, g2⟩ := hPw f hf h1
        have hlast : rkS z.2.1 s ≠ 7 := by
          intro e
          have : lastS z f s = true := by
            unfold lastS
            simp [h1, e]
          unfold tuS at hu
          rw [this] at hu
          simp at hu
        have hrf : 1 ≤ rkS z.2.1 f := by
          unfold rkS
          split <;> omega
        have hrs : 1 ≤ rkS z.2.1 s := by
          rcases (pg_iff hi2 hf hs ho h1).mp hg with (⟨a, _⟩ | ⟨a, _⟩ | ⟨a, b, _⟩) | ⟨a, _⟩
          · rw [rk_paw hc hf hs a]; omega
          · rw [a, rk_up hc g1 g2]; omega
          · rw [a, rk_up2 hc hf b]; omega
          · rw [rk_paw hc hf hs a]; omega
        unfold rkS at hlast hrs
        split at hlast <;> rename_i q
        · rw [if_pos q] at hrs
          omega
        · rw [if_neg q] at hrs
          omega
      · rw [cmS_kd hu5 hu0] at h1
        unfold tuS at hu
        split at hu
        · rw [List.mem_range'_1] at hu
          omega
        · rw [List.mem_range'_1] at hu
          omega
    · rw [if_neg q1] at h1
      split at h1
      · exact absurd h1 n1
      · split at h1
        · exact absurd h1 n1
        · split at h1
          · exact absurd h1 n1
          · split at h1
            · rename_i g
              rcases hC with ⟨_, hl⟩ | ⟨_, hl, _⟩ | ⟨_, _, _, _, _, sh, _, _, _, _, _, x5, x6⟩
              · rw [hl] at g; cases g.1
              · rw [hl] at g; cases g.1
              · rw [x5, x6, (rkm_ok hc).2] at h1
                omega
            · exact hPw s hs h1
  · -- not in check
    dsimp only
    rw [show 1 - (1 - z.2.1) = z.2.1 by omega]
    unfold safS at hsf
    simpa using hsf
  · -- the passed square
    dsimp only
    intro hp
    unfold psS at hp ⊢
    split at hp
    · rename_i g
      rw [if_pos g] at ⊢
      simp only [Bool.and_eq_true, decide_eq_true_eq] at g
      obtain ⟨⟨h1, h2⟩, h3⟩ := g
      obtain ⟨g1, g2⟩ := hPw f hf h1
      have hup2 : t = upS z.2.1 (upS z.2.1 f) ∧ rkS z.2.1 f = 1 ∧ z.1 (upS z.2.1 f) = 0 ∧ z.1 t = 0 := by
        rcases (pg_iff hi2 hf ht ho h1).mp hg with (⟨a, _⟩ | ⟨a, _⟩ | h) | ⟨a, _⟩
        · have := rk_paw hc hf ht a
          unfold pawB at a
          rw [Bool.and_eq_true, decide_eq_true_eq] at a
          have a := a.1
          unfold rkS at this
          unfold absD at a h2
          split at h2 <;> split at a <;> split at this <;> omega
        · rw [a] at h2
          unfold upS absD at h2
          split at h2 <;> split at h2 <;> omega
        · exact h
        · have := rk_paw hc hf ht a
          unfold pawB at a
          rw [Bool.and_eq_true, decide_eq_true_eq] at a
          have a := a.1
          unfold rkS at this
          unfold absD at a h2
          split at h2 <;> split at a <;> split at this <;> omega
      obtain ⟨y1, y2, y3, y4⟩ := hup2
      have hmid : (f + t) / 2 = upS z.2.1 f := by
        rw [y1]
        unfold rkS at y2
        unfold upS
        split
        · omega
        · rename_i q
          rw [if_neg q] at y2
          omega
      have hu0 : u = 0 := by
        apply nlast_u hu
        unfold lastS
        rw [y1, rk_up2 hc hf y2]
        simp
      rw [hmid]
      have nf : upS z.2.1 f ≠ f := by
        unfold upS
        split <;> omega
      have nt : upS z.2.1 f ≠ t := by
        rw [y1]
        unfold rkS at y2
        unfold upS
        split
        · omega
        · rename_i q
          rw [if_neg q] at y2
          omega
      have hep : epB z.1 f t = false := (pn_ep hi2 hf h1 (Or.inr (Or.inr ⟨y1, y2, y3, y4⟩))).2
      have hlp : lpB z.1 f t = false := by
        unfold lpB
        simp [h1]
      refine ⟨?_, ?_, ?_⟩
      · unfold rkS at y2 ⊢
        unfold upS
        have : z.2.1 = 0 ∨ z.2.1 = 1 := by omega
        rcases this with q | q
        · rw [q] at y2 ⊢
          simp at y2 ⊢
          omega
        · rw [q] at y2 ⊢
          simp at y2 ⊢
          omega
      · rw [hat, if_neg nt, if_neg nf, hep, hlp]
        simp only [Bool.false_eq_true, false_and, if_false]
        exact y3
      · have : dnS (1 - z.2.1) (upS z.2.1 f) = t := by
          rw [y1]
          unfold rkS at y2
          unfold dnS upS
          have : z.2.1 = 0 ∨ z.2.1 = 1 := by omega
          rcases this with q | q
          · rw [q]
            simp
          · rw [q] at y2 ⊢
            simp at y2 ⊢
        rw [this, hat, if_pos rfl, hu0, show 1 - (1 - z.2.1) = z.2.1 by omega]
        exact (pawn_man hmf hc).mp ⟨h1, ho⟩
    · omega
