/-! The class: whether a position stood here twice before. -/
/-- a weight that never grows, and falls when a pawn moves or a man is taken -/
def phM (m : Int32) (s : Nat) : Int := if m = 0 then 0 else if kd m = 1 then 9 - (rkS (sdM m) s : Int) else 1
def phi (bd : Nat → Int32) : Int := sumI (fun s => phM (bd s) s) 64
theorem phi_upd {bd : Nat → Int32} {s : Nat} (hs : s < 64) (m : Int32) : phi (upd bd s m) = phi bd - phM (bd s) s + phM m s := by
  unfold phi
  rw [sumI_upd (f := fun s => phM (bd s) s) (k := s) (fun i hi => by rw [pk_un hi]) hs, pk_us]
theorem phM_0 (s : Nat) : phM 0 s = 0 := if_pos rfl
theorem phM_pos {m : Int32} (hn : m ≠ 0) {s : Nat} (hs : s < 64) : 1 ≤ phM m s := by
  unfold phM
  rw [if_neg hn]
  split
  · have := rkS_lt (c := sdM m) hs
    omega
  · omega
theorem phM_nn (m : Int32) {s : Nat} (hs : s < 64) : 0 ≤ phM m s := by
  by_cases q : m = 0
  · rw [q, phM_0]
    omega
  · have := phM_pos q hs
    omega
theorem phM_man {m : Int32} (hn : m ≠ 0) (h1 : kd m ≠ 1) (s : Nat) : phM m s = 1 := by
  unfold phM
  rw [if_neg hn, if_neg h1]
theorem sdM_eq {m : Int32} {c : Nat} (hc : c < 2) (h : msd m c = true) : sdM m = c := msd_sd hc h
theorem phi_mk {z : Pz} (hi : inv z) {f t u : Nat} (hm : (f, t, u) ∈ lmS z) : phi (mvS z.1 f t u) ≤ phi z.1 ∧ ((kd (z.1 f) = 1 ∨ ¬ tkS z.1 f t = 0) → phi (mvS z.1 f t u) < phi z.1) := by
  have hCs := mv_cases hi hm
  have hon := tk_on hi hm
  have hmem := lmS_mem.mp hm
  dsimp only at hmem hCs
  obtain ⟨hf, ht, ho, hg, hu, hsf⟩ := hmem
  have hu5 := tuS_le hu
  have hi2 := hi
  obtain ⟨hb, hc, hr, hpp, hKK, h16, hR, hPw, hN, hE⟩ := hi
  have hmf := hb.1 f hf
  have hto : msd (z.1 t) z.2.1 = false := by
    unfold goS at hg
    rw [Bool.and_eq_true, Bool.not_eq_true'] at hg
    exact hg.1
  have hft : f ≠ t := by
    intro e
    rw [e, hto] at ho
    cases ho
  have hfn : z.1 f ≠ 0 := occ_t.mp (msd_occ ho)
  have hsd := sdM_eq hc ho
  -- a pawn that goes up
  have pup : kd (z.1 f) = 1 → phM (cmS (z.1 f) u) t < phM (z.1 f) f := by
    intro h1
    obtain ⟨g1, g2⟩ := hPw f hf h1
    have rf : rkS z.2.1 f ≤ 6 := by
      unfold rkS
      split <;> omega
    have rt : rkS z.2.1 f < rkS z.2.1 t := by
      rcases (pg_iff hi2 hf ht ho h1).mp hg with (⟨a, _⟩ | ⟨a, _⟩ | ⟨a, b, _⟩) | ⟨a, _⟩
      · rw [rk_paw hc hf ht a]; omega
      · rw [a, rk_up hc g1 g2]; omega
      · rw [a, rk_up2 hc hf b, b]; omega
      · rw [rk_paw hc hf ht a]; omega
    have e1 : phM (z.1 f) f = 9 - (rkS z.2.1 f : Int) := by
      unfold phM
      rw [if_neg hfn, if_pos h1, hsd]
    rw [e1]
    by_cases q : u = 0
    · have e2 : cmS (z.1 f) u = z.1 f := if_pos q
      have e3 : phM (z.1 f) t = 9 - (rkS z.2.1 t : Int) := by
        unfold phM
        rw [if_neg hfn, if_pos h1, hsd]
      rw [e2, e3]
      omega
    · have hk := cmS_kd (m := z.1 f) hu5 q
      have hu1 : u ≠ 1 := by
        intro e
        subst e
        unfold tuS at hu
        split at hu
        · rw [List.mem_range'_1] at hu
          omega
        · rw [List.mem_range'_1] at hu
          omega
      rw [phM_man (cm_ne hmf hc ho hu5) (by omega)]
      omega
  rcases hCs with ⟨he, hl⟩ | ⟨he, hl, hu0, hp, hpm, hw⟩ | ⟨he, hl, hu0, x1, x2, sh, x3, x4, x5, x6, x7, x8, x9⟩
  · have e : phi (mvS z.1 f t u) = phi z.1 - phM (z.1 f) f - phM (z.1 t) t + phM (cmS (z.1 f) u) t := by
      rw [mvS_plain he hl, phi_upd ht, phi_upd hf, pk_un (Ne.symm hft), phM_0]
      omega
    have htk : tkS z.1 f t = z.1 t := by
      rw [hon]
      unfold onQ
      rw [he]
      rfl
    have nn := phM_nn (z.1 t) ht
    by_cases h1 : kd (z.1 f) = 1
    · have := pup h1
      refine ⟨by omega, fun _ => by omega⟩
    · have hu0 : u = 0 := by
        apply nlast_u hu
        unfold lastS
        simp [h1]
      subst hu0
      have e2 : phM (cmS (z.1 f) 0) t = phM (z.1 f) f := by
        show phM (z.1 f) t = _
        rw [phM_man hfn h1, phM_man hfn h1]
      refine ⟨by omega, fun h => ?_⟩
      rcases h with h | h
      · exact absurd h h1
      · rw [htk] at h
        have := phM_pos h ht
        omega
  · subst hu0
    have hE := hE (by omega)
    have hdl : dnS z.2.1 t < 64 := dnS_lt hc ht (fun h => by
      have := hE.1
      rw [← hp] at this
      unfold rkS at this
      rw [if_neg (by omega)] at this
      omega)
    have hdf : f ≠ dnS z.2.1 t := by
      intro e
      have := hE.2.2
      rw [← hp, ← e] at this
      rw [this] at ho
      have h2 := msd_two (c := 1 - z.2.1) (by omega) (pmn_ok (c := 1 - z.2.1) (by omega)).2.1
      rw [show 1 - (1 - z.2.1) = z.2.1 by omega, ho] at h2
      cases h2
    have htd : t ≠ dnS z.2.1 t := by
      intro e
      have h3 := hE.2.2
      have h4 := hE.2.1
      rw [← hp] at h3 h4
      rw [← e, h4] at h3
      have t2 := congrArg kd h3
      rw [(pmn_ok (c := 1 - z.2.1) (by omega)).1] at t2
      exact absurd t2 (by decide)
    have ht0 : z.1 t = 0 := by rw [hp]; exact hE.2.1
    have h1 : kd (z.1 f) = 1 := by rw [hpm]; exact (pmn_ok hc).1
    have e : phi (mvS z.1 f t 0) = phi z.1 - phM (z.1 (dnS z.2.1 t)) (dnS z.2.1 t) - phM (z.1 f) f + phM (z.1 f) t := by
      rw [mvS_ep hc he hl hpm, phi_upd ht, phi_upd hf, phi_upd hdl, pk_un (Ne.symm hft), pk_un htd, pk_un hdf, ht0]
      simp only [phM_0]
      omega
    have nn := phM_nn (z.1 (dnS z.2.1 t)) hdl
    have pp := pup h1
    have pp : phM (z.1 f) t < phM (z.1 f) f := pp
    exact ⟨by omega, fun _ => by omega⟩
  · subst hu0
    have hmid : 56 * z.2.1 + (if sh then 5 else 3) < 64 := by split <;> omega
    have hcor : 56 * z.2.1 + (if sh then 7 else 0) < 64 := by split <;> omega
    have d1 : 56 * z.2.1 + (if sh then 7 else 0) ≠ 56 * z.2.1 + (if sh then 5 else 3) := by cases sh <;> simp
    have d2 : 56 * z.2.1 + (if sh then 7 else 0) ≠ f := by rw [x1]; cases sh <;> simp
    have d3 : 56 * z.2.1 + (if sh then 5 else 3) ≠ f := by rw [x1]; cases sh <;> simp
    have d4 : 56 * z.2.1 + (if sh then 7 else 0) ≠ t := by rw [x4]; cases sh <;> simp
    have d5 : 56 * z.2.1 + (if sh then 5 else 3) ≠ t := by rw [x4]; cases sh <;> simp
    have rk := rkm_ok hc
    have rkn : rkm z.2.1 ≠ 0 := by
      intro e
      rw [e, msd_0] at rk
      cases rk.1
    have htk : tkS z.1 f t = 0 := by
      rw [hon]
      unfold onQ
      rw [he]
      exact x5
    have h6 : kd (z.1 f) = 6 := by rw [x2]; exact kmn_kd
    have em := mvS_lp he hl x7 x8
    have r1 := phM_man rkn (by omega) (56 * z.2.1 + (if sh then 5 else 3))
    have r2 := phM_man rkn (by omega) (56 * z.2.1 + (if sh then 7 else 0))
    have k1 := phM_man hfn (by omega) f
    have k2 := phM_man hfn (by omega) t
    generalize 56 * z.2.1 + (if sh then 5 else 3) = mid at *
    generalize 56 * z.2.1 + (if sh then 7 else 0) = cor at *
    have e : phi (mvS z.1 f t 0) = phi z.1 := by
      rw [em, x9, phi_upd ht, phi_upd hf, phi_upd hcor, phi_upd hmid, pk_un (Ne.symm hft), pk_un (Ne.symm d4), pk_un (Ne.symm d5), pk_un (Ne.symm d2), pk_un (Ne.symm d3), pk_un d1, x9, x6, x5]
      simp only [phM_0]
      omega
    refine ⟨by omega, fun h => ?_⟩
    rcases h with h | h
    · omega
    · exact absurd htk h
/-- the moves that led here, and how the class has kept them -/
def hiP (hh : Nat → Pz) (top : Nat) (mv pb : Nat → Int32) : Prop := (∀ i, i ≤ top → inv (hh i) ∧ (hh i).2.2.2.2.1 < 65536) ∧ ∀ i, i < top → ∃ f t u, (f, t, u) ∈ lmS (hh i) ∧ hh (i + 1) = mkM (hh i) (f, t, u) ∧ mv i = nI (enM (f, t, u)) ∧ pb i = nI (goN (kd (tkS (hh i).1 f t)) (hh i))
theorem hi_phi {hh : Nat → Pz} {top : Nat} {mv pb : Nat → Int32} (h : hiP hh top mv pb) : ∀ d i, i + d ≤ top → phi (hh (i + d)).1 ≤ phi (hh i).1 := by
  intro d
  induction d with
  | zero => intro i _; exact Int.le_refl _
  | succ d ih =>
    intro i hi
    obtain ⟨f, t, u, a, b, _⟩ := h.2 (i + d) (by omega)
    have e := (phi_mk (h.1 (i + d) (by omega)).1 a).1
    have e2 : (hh (i + (d + 1))).1 = mvS (hh (i + d)).1 f t u := by
      rw [show i + (d + 1) = i + d + 1 by omega, b]
      rfl
    rw [e2]
    exact Int.le_trans e (ih i (by omega))
theorem hi_rights {hh : Nat → Pz} {top : Nat} {mv pb : Nat → Int32} (h : hiP hh top mv pb) : ∀ d i, i + d ≤ top → ∀ b, (hh (i + d)).2.2.1.testBit b = true → (hh i).2.2.1.testBit b = true := by
  intro d
  induction d with
  | zero => intro i _ b hb; exact hb
  | succ d ih =>
    intro i hi b hb
    obtain ⟨f, t, u, a, e, _⟩ := h.2 (i + d) (by omega)
    have e2 : (hh (i + (d + 1))).2.2.1 = rgS (hh (i + d)).2.2.1 f t := by
      rw [show i + (d + 1) = i + d + 1 by omega, e]
      rfl
    rw [e2] at hb
    unfold rgS at hb
    rw [Nat.testBit_and, Nat.testBit_and, Bool.and_eq_true, Bool.and_eq_true] at hb
    exact ih i (by omega) b hb.1.1
theorem rights_eq {hh : Nat → Pz} {top : Nat} {mv pb : Nat → Int32} (h : hiP hh top mv pb) {i k : Nat} (hik : i ≤ k) (hk : k ≤ top) (e : (hh i).2.2.1 = (hh top).2.2.1) : (hh k).2.2.1 = (hh top).2.2.1 := by
  apply Nat.eq_of_testBit_eq
  intro b
  apply bool_iff
  constructor
  · intro g
    have := hi_rights h (k - i) i (by omega) b (by rw [show i + (k - i) = k by omega]; exact g)
    rw [e] at this
    exact this
  · intro g
    exact hi_rights h (top - k) k (by omega) b (by rw [show k + (top - k) = top by omega]; exact g)
theorem hi_side {hh : Nat → Pz} {top : Nat} {mv pb : Nat → Int32} (h : hiP hh top mv pb) : ∀ j, j ≤ top → ((hh (top - j)).2.1 = (hh top).2.1 ↔ j % 2 = 0) := by
  intro j
  induction j with
  | zero => intro _; simp
  | succ j ih =>
    intro hj
    have ih := ih (by omega)
    obtain ⟨f, t, u, a, e, _⟩ := h.2 (top - (j + 1)) (by omega)
    rw [show top - (j + 1) + 1 = top - j by omega] at e
    have e2 : (hh (top - j)).2.1 = 1 - (hh (top - (j + 1))).2.1 := by
      rw [e]
      rfl
    have c1 := (h.1 (top - (j + 1)) (by omega)).1.2.1
    have c2 := (h.1 top (by omega)).1.2.1
    rw [e2] at ih
    omega
theorem hi_halves {hh : Nat → Pz} {top : Nat} {mv pb : Nat → Int32} (h : hiP hh top mv pb) : ∀ j, j ≤ top → j ≤ (hh top).2.2.2.2.1 → (hh (top - j)).2.2.2.2.1 + j = (hh top).2.2.2.2.1 := by
  intro j
  induction j with
  | zero => intro _ _; simp
  | succ j ih =>
    intro hj hh2
    have ih := ih (by omega) (by omega)
    obtain ⟨f, t, u, a, e, _⟩ := h.2 (top - (j + 1)) (by omega)
    rw [show top - (j + 1) + 1 = top - j by omega] at e
    have e2 : (hh (top - j)).2.2.2.2.1 = (if kd ((hh (top - (j + 1))).1 f) = 1 ∨ ¬ tkS (hh (top - (j + 1))).1 f t = 0 then 0 else (hh (top - (j + 1))).2.2.2.2.1 + 1) := by
      rw [e]
      rfl
    split at e2
    · omega
    · omega
theorem rgS_kills {z : Pz} (hi : inv z) {f t u : Nat} (hm : (f, t, u) ∈ lmS z) (hl : lpB z.1 f t = true) : rgS z.2.2.1 f t ≠ z.2.2.1 := by
  intro e
  have hC := mv_cases hi hm
  dsimp only at hC
  have hmem := lmS_mem.mp hm
  dsimp only at hmem
  rcases hC with ⟨_, h⟩ | ⟨_, h, _⟩ | ⟨_, _, _, x1, _, sh, x3, _⟩
  · rw [hl] at h; cases h
  · rw [hl] at h; cases h
  · rw [← e] at x3
    have := (rtB_rg x3).2.1
    exact (kr_e hmem.1 hi.2.1 this).1 x1
/-- a quiet move, undone -/
theorem quiet {z : Pz} (hi : inv z) {f t u : Nat} (hm : (f, t, u) ∈ lmS z) (hq : ¬ (kd (z.1 f) = 1 ∨ ¬ tkS z.1 f t = 0)) (hr : rgS z.2.2.1 f t = z.2.2.1) : u = 0 ∧ f ≠ t ∧ ∀ s, z.1 s = if s = t then 0 else if s = f then mvS z.1 f t u t else mvS z.1 f t u s := by
  have hC := mv_cases hi hm
  have hon := tk_on hi hm
  have hmem := lmS_mem.mp hm
  dsimp only at hmem hC
  obtain ⟨hf, ht, ho, hg, hu, hsf⟩ := hmem
  have h1 : kd (z.1 f) ≠ 1 := fun h => hq (Or.inl h)
  have htk : tkS z.1 f t = 0 := Classical.byContradiction (fun h => hq (Or.inr h))
  have hto : msd (z.1 t) z.2.1 = false := by
    unfold goS at hg
    rw [Bool.and_eq_true, Bool.not_eq_true'] at hg
    exact hg.1
  have hft : f ≠ t := by
    intro e
    rw [e, hto] at ho
    cases ho
  have hu0 : u = 0 := by
    apply nlast_u hu
    unfold lastS
    simp [h1]
  have he : epB z.1 f t = false := by
    unfold epB
    simp [h1]
  have hl : lpB z.1 f t = false := by
    cases q : lpB z.1 f t with
    | false => rfl
    | true => exact absurd hr (rgS_kills hi hm q)
  have ht0 : z.1 t = 0 := by
    rw [hon] at htk
    unfold onQ at htk
    rw [he] at htk
    exact htk
  refine ⟨hu0, hft, fun s => ?_⟩
  subst hu0
  rw [mvS_plain he hl]
  by_cases q1 : s = t
  · rw [if_pos q1, q1]; exact ht0
  · rw [if_neg q1]
    by_cases q2 : s = f
    · rw [if_pos q2, q2, pk_us]
      rfl
    · rw [if_neg q2, pk_un q1, pk_un q2]
theorem sub_add_of {X Y Z W : Int32} (h : W + Y = X + Z) : X - Y + Z = W := by
  apply Int32.toBitVec_inj.mp
  have e := congrArg Int32.toBitVec h
  simp only [Int32.toBitVec_add, Int32.toBitVec_sub] at e ⊢
  generalize X.toBitVec = x at *
  generalize Y.toBitVec = y at *
  generalize Z.toBitVec = z at *
  generalize W.toBitVec = w at *
  bv_omega
/-- how many squares are unlike -/
def unN (e men : Nat → Int32) : Nat := cb (fun s => !decide (e s = men s)) 64
theorem un_upd {e men : Nat → Int32} {f t : Nat} (hf : f < 64) (ht : t < 64) (hft : f ≠ t) (x : Int32) : nI (unN e men) - (nI (b2n (!decide (e f = men f))) + nI (b2n (!decide (e t = men t)))) + (nI (b2n (!decide (upd (upd e f x) t 0 f = men f))) + nI (b2n (!decide (upd (upd e f x) t 0 t = men t)))) = nI (unN (upd (upd e f x) t 0) men) := by
  have h1 := cb_upd (p := fun s => !decide (e s = men s)) (q := fun s => !decide (upd e f x s = men s)) (k := f) (fun i hi => by
    show (!decide (upd e f x i = men i)) = _
    rw [pk_un hi]) hf
  have h2 := cb_upd (p := fun s => !decide (upd e f x s = men s)) (q := fun s => !decide (upd (upd e f x) t 0 s = men s)) (k := t) (fun i hi => by
    show (!decide (upd (upd e f x) t 0 i = men i)) = _
    rw [pk_un hi]) ht
  have e1 : upd (upd e f x) t 0 f = upd e f x f := pk_un hft
  have e2 : upd e f x t = e t := pk_un (Ne.symm hft)
  rw [e2] at h2
  rw [e1]
  unfold unN
  generalize cb (fun s => !decide (e s = men s)) 64 = A at *
  generalize cb (fun s => !decide (upd e f x s = men s)) 64 = B at *
  generalize cb (fun s => !decide (upd (upd e f x) t 0 s = men s)) 64 = C at *
  generalize b2n (!decide (e f = men f)) = a at *
  generalize b2n (!decide (e t = men t)) = b at *
  generalize b2n (!decide (upd e f x f = men f)) = c at *
  generalize b2n (!decide (upd (upd e f x) t 0 t = men t)) = d at *
  have e3 : nI C + (nI a + nI b) = nI A + (nI c + nI d) := by
    rw [nI_add, nI_add, nI_add, nI_add]
    congr 1
    omega
  exact sub_add_of e3
theorem un_0 {e men : Nat → Int32} : unN e men = 0 ↔ ∀ s, s < 64 → e s = men s := by
  unfold unN
  constructor
  · intro h s hs
    apply Classical.byContradiction
    intro q
    have := cb_drop1 (p := fun s => !decide (e s = men s)) (q := fun j => (!decide (e j = men j)) && decide (j ≠ s)) (k := s) (by simp [q]) (fun _ => rfl) hs
    omega
  · intro h
    have : cb (fun s => !decide (e s = men s)) 64 = cb (fun _ => false) 64 := cb_cong (fun s hs => by simp [h s hs])
    rw [this]
    decide
theorem x4_unlikeAt {e men : Nat → Int32} {s : Nat} (hs : s < 64) : m_X4_unlikeAt e men (nI s) = some (nI (b2n (!decide (e s = men s)))) := by
  unfold m_X4_unlikeAt m_X4_unlikeAt_b23
  rw [oin_n (by omega) (by omega), oin_n (by omega) (by omega), nI_clamp (by omega)]
  by_cases q : e s = men s
  · simp [q, b2n, nI_0]
  · simp [q, b2n]
    rfl
theorem cb_rev (p : Nat → Bool) : ∀ n, cb (fun i => p (n - (i + 1))) n = cb p n
  | 0 => rfl
  | n + 1 => by
    have h : ∀ m, cb (fun i => p (n + 1 - (i + 1))) (m + 1) = b2n (p n) + cb (fun i => p (n - (i + 1))) m := by
      intro m
      induction m with
      | zero =>
        show 0 + b2n (p (n + 1 - (0 + 1))) = b2n (p n) + 0
        rw [show n + 1 - (0 + 1) = n by omega]
        omega
      | succ m ih =>
        rw [cb_s, ih, cb_s, show n + 1 - (m + 1 + 1) = n - (m + 1) by omega]
        omega
    rw [h n, cb_rev p n, cb_s]
    omega
theorem cb_tail {p : Nat → Bool} {a : Nat} : ∀ {n : Nat}, a ≤ n → (∀ i, a ≤ i → i < n → p i = false) → cb p n = cb p a
  | 0, h, _ => by
    have : a = 0 := by omega
    rw [this]
  | n + 1, h, hp => by
    by_cases q : a = n + 1
    · rw [q]
    · rw [cb_s, cb_tail (n := n) (by omega) (fun i h1 h2 => hp i h1 (by omega)), hp n (by omega) (by omega)]
      rfl
theorem sm_rights {y z : Pz} (h : y.2.2.1 ≠ z.2.2.1) : smS y z = false := by
  unfold smS
  simp [h]
theorem sm_phi {y z : Pz} (h : phi z.1 < phi y.1) : smS y z = false := by
  cases q : smS y z with
  | false => rfl
  | true =>
    unfold smS at q
    rw [Bool.and_eq_true, allB_iff] at q
    have : phi y.1 = phi z.1 := by
      unfold phi
      apply sumI_cong
      intro i hi
      rw [of_decide_eq_true (q.2 i hi)]
    omega
theorem isThrice_cl {hh : Nat → Pz} {top : Nat} (htop : top < 1027) {mv pb : Nat → Int32} (h : hiP hh top mv pb) : ∀ (d j n : Nat) (er : Nat → Int32), j + d = min top (hh top).2.2.2.2.1 → (∀ s, s < 64 → er s = (hh (top - j)).1 s) → (∀ i, i ≤ j → (hh (top - i)).2.2.1 = (hh top).2.2.1) → ∃ er', m_X4_isThrice_l40 (nI top) mv pb (nI (hh top).2.2.1) (pI (hh top).2.2.2.1) (nI (hh top).2.2.2.2.1) (hh top).1 (n + d + 1) er (nI (min top (hh top).2.2.2.2.1)) (nI (unN er (hh top).1)) (nI (cb (fun i => smS (hh (top - (i + 1))) (hh top)) j)) (nI (j + 1)) = some (bI (decide (1 < thN hh top (hh top))), er') := by
  have hz := h.1 top (Nat.le_refl _)
  -- the end
  have fin : ∀ (j : Nat) (er : Nat → Int32), j ≤ top → (∀ i, j ≤ i → i < top → smS (hh (top - (i + 1))) (hh top) = false) → m_X4_isThrice_b195 (nI top) mv pb er (nI (hh top).2.2.1) (pI (hh top).2.2.2.1) (nI (hh top).2.2.2.2.1) (hh top).1 (nI (cb (fun i => smS (hh (top - (i + 1))) (hh top)) j)) = some (bI (decide (1 < thN hh top (hh top))), er) := by
    intro j er hj hf
    have e : thN hh top (hh top) = cb (fun i => smS (hh (top - (i + 1))) (hh top)) j := by
      unfold thN
      rw [← cb_rev, cb_tail hj hf]
    have l := cb_le (fun i => smS (hh (top - (i + 1))) (hh top)) j
    unfold m_X4_isThrice_b195 m_X4_isThrice_b205
    rw [e]
    have c : nI (cb (fun i => smS (hh (top - (i + 1))) (hh top)) j) < 2 ↔ cb (fun i => smS (hh (top - (i + 1))) (hh top)) j < 2 := nI_ltI (b := 2) (by omega) (by omega)
    by_cases q : cb (fun i => smS (hh (top - (i + 1))) (hh top)) j < 2
    · rw [if_pos (c.mpr q)]
      have : ¬ 1 < cb (fun i => smS (hh (top - (i + 1))) (hh top)) j := by omega
      simp [this, bI, obl_0]
    · rw [if_neg (fun g => q (c.mp g))]
      have : 1 < cb (fun i => smS (hh (top - (i + 1))) (hh top)) j := by omega
      simp [this, bI, obl_1]
  intro d
  induction d with
  | zero =>
    intro j n er e her hri
    refine ⟨er, ?_⟩
    rw [m_X4_isThrice_l40_s]
    unfold m_X4_isThrice_b40
    rw [if_pos (nI_lt (by omega) (by omega))]
    apply fin j er (by omega)
    intro i h1 h2
    -- behind the halves a pawn moved or a man was taken
    have hj : j = (hh top).2.2.2.2.1 := by omega
    have h0 := hi_halves h j (by omega) (by omega)
    obtain ⟨f, t, u, a, b, _⟩ := h.2 (top - (j + 1)) (by omega)
    rw [show top - (j + 1) + 1 = top - j by omega] at b
    have e2 : (hh (top - j)).2.2.2.2.1 = (if kd ((hh (top - (j + 1))).1 f) = 1 ∨ ¬ tkS (hh (top - (j + 1))).1 f t = 0 then 0 else (hh (top - (j + 1))).2.2.2.2.1 + 1) := by
      rw [b]
      rfl
    split at e2
    · rename_i g
      have p1 := (phi_mk (h.1 (top - (j + 1)) (by omega)).1 a).2 g
      have e3 : (hh (top - j)).1 = mvS (hh (top - (j + 1))).1 f t u := by
        rw [b]
        rfl
      rw [← e3] at p1
      have p2 := hi_phi h j (top - j) (by omega)
      rw [show top - j + j = top by omega] at p2
      have p3 := hi_phi h (i - j) (top - (i + 1)) (by omega)
      rw [show top - (i + 1) + (i - j) = top - (j + 1) by omega] at p3
      exact sm_phi (by omega)
    · omega
  | succ d ih =>
    intro j n er e her hri
    have hjt : j < top := by omega
    obtain ⟨f, t, u, a, b, c1, c2⟩ := h.2 (top - (j + 1)) (by omega)
    rw [show top - (j + 1) + 1 = top - j by omega] at b
    have hy := h.1 (top - (j + 1)) (by omega)
    have hmem := lmS_mem.mp a
    dsimp only at hmem
    obtain ⟨hf, ht, ho, hg, hu, hsf⟩ := hmem
    have hu5 := tuS_le hu
    have hmt : mOK (tkS (hh (top - (j + 1))).1 f t) := by rw [tk_on hy.1 a]; exact mOK_all hy.1.1 _
    have kt := kd_le hmt
    have ei : nI top - nI (j + 1) = nI (top - (j + 1)) := pk_sub (by omega)
    have er1 := x4_rightsIn (k := kd (tkS (hh (top - (j + 1))).1 f t)) (z := hh (top - (j + 1))) (by omega) hy.1.2.2.1 hy.1.2.2.2.1 hy.2
    have ep1 := x4_passedIn (k := kd (tkS (hh (top - (j + 1))).1 f t)) (z := hh (top - (j + 1))) (by omega) hy.1.2.2.1 hy.1.2.2.2.1 hy.2
    have cr : nI (hh (top - (j + 1))).2.2.1 = nI (hh top).2.2.1 ↔ (hh (top - (j + 1))).2.2.1 = (hh top).2.2.1 := nI_eq (by have := hy.1.2.2.1; omega) (by have := hz.1.2.2.1; omega)
    rw [show n + (d + 1) + 1 = n + d + 1 + 1 from rfl, m_X4_isThrice_l40_s]
    unfold m_X4_isThrice_b40
    rw [if_neg (nI_nlt (by omega) (by omega)), ei, oin_n (by omega) (by omega), nI_clamp (by omega), ol_r, oin_n (by omega) (by omega), ol_r, c1, c2, ob_s er1]
    by_cases q : (hh (top - (j + 1))).2.2.1 = (hh top).2.2.1
    · rw [if_pos (cr.mpr q), ob_s (x9_fromOf hf ht hu5), ob_s (x9_toOf hf ht hu5), ob_s (x4_unlikeAt hf), ob_s (x4_unlikeAt ht), ol_r, oin_n (by omega) (by omega), nI_clamp (by omega), ol_r, oin_n (by omega) (by omega), nI_clamp (by omega), ol_r, oin_n (by omega) (by omega), ol_r, ob_s (x4_unlikeAt hf), ob_s (x4_unlikeAt ht), ol_r]
      -- the move was quiet
      have hq : ¬ (kd ((hh (top - (j + 1))).1 f) = 1 ∨ ¬ tkS (hh (top - (j + 1))).1 f t = 0) := by
        intro g
        have h0 := hi_halves h j (by omega) (by omega)
        have e2 : (hh (top - j)).2.2.2.2.1 = (if kd ((hh (top - (j + 1))).1 f) = 1 ∨ ¬ tkS (hh (top - (j + 1))).1 f t = 0 then 0 else (hh (top - (j + 1))).2.2.2.2.1 + 1) := by
          rw [b]
          rfl
        rw [if_pos g] at e2
        omega
      have hr2 : rgS (hh (top - (j + 1))).2.2.1 f t = (hh (top - (j + 1))).2.2.1 := by
        have e3 : (hh (top - j)).2.2.1 = rgS (hh (top - (j + 1))).2.2.1 f t := by
          rw [b]
          rfl
        rw [← e3, hri j (Nat.le_refl _), q]
      obtain ⟨hu0, hft, hun⟩ := quiet hy.1 a hq hr2
      have e3 : (hh (top - j)).1 = mvS (hh (top - (j + 1))).1 f t u := by
        rw [b]
        rfl
      have her2 : ∀ s, s < 64 → upd (upd er f (er t)) t 0 s = (hh (top - (j + 1))).1 s := by
        intro s hs
        rw [hun s]
        by_cases q1 : s = t
        · rw [if_pos q1, q1, pk_us]
        · rw [if_neg q1, pk_un q1]
          by_cases q2 : s = f
          · rw [if_pos q2, q2, pk_us, her t ht, e3]
          · rw [if_neg q2, pk_un q2, her s hs, e3]
      rw [un_upd hf ht hft]
      have hri2 : ∀ i, i ≤ j + 1 → (hh (top - i)).2.2.1 = (hh top).2.2.1 := by
        intro i hi
        by_cases g : i = j + 1
        · rw [g]; exact q
        · exact hri i (by omega)
      obtain ⟨er', ih⟩ := ih (j + 1) n (upd (upd er f (er t)) t 0) (by omega) her2 hri2
      refine ⟨er', ?_⟩
      rw [← ih]
      unfold m_X4_isThrice_b189
      have l := cb_le (fun s => !decide (upd (upd er f (er t)) t 0 s = (hh top).1 s)) 64
      have c0 : nI (unN (upd (upd er f (er t)) t 0) (hh top).1) = 0 ↔ unN (upd (upd er f (er t)) t 0) (hh top).1 = 0 := nI_eq0 (by unfold unN; omega)
      have em : nI (j + 1) - nI (j + 1) / 2 * 2 = nI ((j + 1) % 2) := pk_rem (d := 2) (by omega) (by omega) (by omega)
      have c2' : nI ((j + 1) % 2) = 0 ↔ (j + 1) % 2 = 0 := nI_eq0 (by omega)
      rw [em, ob_s ep1]
      simp only [ol_r, c0, c2', pI_inj hy.1.2.2.2.1 hz.1.2.2.2.1, nI_1]
      have hsd := hi_side h (j + 1) (by omega)
      have hcb : cb (fun i => smS (hh (top - (i + 1))) (hh top)) (j + 1) = cb (fun i => smS (hh (top - (i + 1))) (hh top)) j + b2n (smS (hh (top - (j + 1))) (hh top)) := rfl
      have hsm : smS (hh (top - (j + 1))) (hh top) = (decide (unN (upd (upd er f (er t)) t 0) (hh top).1 = 0) && decide ((j + 1) % 2 = 0) && decide ((hh (top - (j + 1))).2.2.2.1 = (hh top).2.2.2.1)) := by
        apply bool_iff
        unfold smS
        simp only [Bool.and_eq_true, decide_eq_true_eq, allB_iff]
        rw [un_0, hsd]
        constructor
        · rintro ⟨⟨⟨y1, y2⟩, y3⟩, y4⟩
          exact ⟨⟨fun s hs => by rw [her2 s hs]; exact y4 s hs, y1⟩, y3⟩
        · rintro ⟨⟨y1, y2⟩, y3⟩
          exact ⟨⟨⟨y2, q⟩, y3⟩, fun s hs => by rw [← her2 s hs]; exact y1 s hs⟩
      rw [hcb, hsm]
      by_cases w1 : unN (upd (upd er f (er t)) t 0) (hh top).1 = 0
      · by_cases w2 : (j + 1) % 2 = 0
        · by_cases w3 : (hh (top - (j + 1))).2.2.2.1 = (hh top).2.2.2.1
          · simp only [w1, w2, w3, if_true, decide_true, Bool.and_self]
            rfl
          · simp only [w1, w2, w3, if_true, if_false, decide_true, decide_false, Bool.and_false]
            rfl
        · simp only [w1, w2, if_true, if_false, decide_true, decide_false, Bool.and_false, Bool.false_and]
          rfl
      · simp only [w1, if_false, decide_false, Bool.false_and]
        rfl
    · rw [if_neg (fun g => q (cr.mp g))]
      refine ⟨er, fin j er (by omega) (fun i h1 h2 => sm_rights (fun g => q ?_))⟩
      exact rights_eq h (i := top - (i + 1)) (k := top - (j + 1)) (by omega) (by omega) g
theorem x4_isThrice {hh : Nat → Pz} {top : Nat} (htop : top < 1027) {mv pb : Nat → Int32} (h : hiP hh top mv pb) (er : Nat → Int32) : ∃ er', m_X4_isThrice (nI top) mv pb er (nI (hh top).2.2.1) (pI (hh top).2.2.2.1) (nI (hh top).2.2.2.2.1) (hh top).1 = some (bI (decide (1 < thN hh top (hh top))), er') := by
  have hz := h.1 top (Nat.le_refl _)
  have e0 : ∀ s, s < 64 → va_cpy (hh top).1 er 0 0 64 s = (hh (top - 0)).1 s := by
    intro s hs
    rw [pk_cpy_in (by omega) (by omega)]
    simp
  obtain ⟨er', e1⟩ := isThrice_cl htop h (min top (hh top).2.2.2.2.1) 0 (kF - 1 - min top (hh top).2.2.2.2.1) (va_cpy (hh top).1 er 0 0 64) (by omega) e0 (fun i hi => by rw [show i = 0 by omega]; rfl)
  refine ⟨er', ?_⟩
  have e : kF - 1 - min top (hh top).2.2.2.2.1 + min top (hh top).2.2.2.2.1 + 1 = kF := by unfold kF; omega
  rw [e] at e1
  have u0 : unN (va_cpy (hh top).1 er 0 0 64) (hh top).1 = 0 := un_0.mpr (fun s hs => e0 s hs)
  rw [u0] at e1
  unfold m_X4_isThrice
  have em : m_J9_min_7cf53 (nI top) (nI (hh top).2.2.2.2.1) = some (nI (min top (hh top).2.2.2.2.1)) := by
    unfold m_J9_min_7cf53 m_J9_min_7cf53_b10
    by_cases q : (hh top).2.2.2.2.1 < top
    · rw [if_pos (nI_lt q (by omega)), Nat.min_eq_right (by omega)]
    · rw [if_neg (nI_nlt (by omega) (by have := hz.2; omega)), Nat.min_eq_left (by omega)]
  rw [ol_r, ob_s em]
  exact e1
