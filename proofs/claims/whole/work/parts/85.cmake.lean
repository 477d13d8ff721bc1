/-! The class: men are put and lifted; a move is made and taken back. -/
def tbP (tab : Nat → Int32) : Prop := ∀ i, i < 448 → tab i = Int32.ofInt (worthS (i / 64) (i % 64 / 8) (i % 8))
def clP (bd : Nat → Int32) (bal : Int32) (kinds sides : Nat → Int64) : Prop := brP bd kinds sides ∧ bal = iI (balS bd)
theorem xor56 : ∀ s, s < 64 → nI s ^^^ 56 = nI ((7 - s / 8) * 8 + s % 8) := by decide +kernel
theorem m_pos {m : Int32} (h : mOK m) (hn : ¬ m < 0) : m = nI (kd m) := by
  rcases mOK_cases h with q | q | q | q | q | q | q | q | q | q | q | q | q <;> subst q <;> first | (exfalso; revert hn; decide) | decide
theorem m_neg {m : Int32} (h : mOK m) : m < 0 → -m = nI (kd m) := by
  rcases mOK_cases h with q | q | q | q | q | q | q | q | q | q | q | q | q <;> subst q <;> decide
theorem x7_forWhite {tab : Nat → Int32} (hB : tbP tab) {m : Int32} (hm : mOK m) {s : Nat} (hs : s < 64) : m_X7_forWhite tab m (nI s) = some (iI (fwS m s)) := by
  have hk := kd_le hm
  unfold m_X7_forWhite m_X7_forWhite_b34
  by_cases g : m < 0
  · rw [if_pos g, m_neg hm g, xor56 s hs]
    have e : nI (kd m) * 64 = nI (kd m * 64) := pk_mul _ 64
    rw [e, nI_add, oin_n (by omega) (by omega), nI_clamp (by omega), hB _ (by omega)]
    have g2 : ¬ 0 < m := Int32.not_lt.mpr (Int32.le_of_lt g)
    unfold fwS wmS
    rw [if_neg g2]
    have e1 : (kd m * 64 + ((7 - s / 8) * 8 + s % 8)) / 64 = kd m := by omega
    have e2 : (kd m * 64 + ((7 - s / 8) * 8 + s % 8)) % 64 / 8 = 7 - s / 8 := by omega
    have e3 : (kd m * 64 + ((7 - s / 8) * 8 + s % 8)) % 8 = s % 8 := by omega
    have e4 : rkS (sdM m) s = 7 - s / 8 := by
      unfold rkS sdM
      rw [if_neg g2]
      rfl
    rw [e1, e2, e3, e4, ← iI_neg]
    rfl
  · rw [if_neg g]
    have e0 := m_pos hm g
    have e : m * 64 = nI (kd m * 64) := by
      rw [e0, show kd (nI (kd m)) = kd m by rw [← e0]]
      exact pk_mul _ 64
    rw [e, nI_add, oin_n (by omega) (by omega), nI_clamp (by omega), hB _ (by omega)]
    have e1 : (kd m * 64 + s) / 64 = kd m := by omega
    have e2 : (kd m * 64 + s) % 64 / 8 = s / 8 := by omega
    have e3 : (kd m * 64 + s) % 8 = s % 8 := by omega
    rw [e1, e2, e3]
    unfold fwS wmS
    by_cases g2 : 0 < m
    · rw [if_pos g2]
      unfold rkS sdM
      rw [if_pos g2]
      rfl
    · have : m = 0 := Int32.le_antisymm (Int32.not_lt.mp g2) (Int32.not_lt.mp g)
      subst this
      rw [if_neg g2]
      rfl
theorem sumI_upd {f g : Nat → Int} {k : Nat} (h : ∀ i, i ≠ k → g i = f i) : ∀ {n : Nat}, k < n → sumI g n = sumI f n - f k + g k
  | 0, hk => by omega
  | n + 1, hk => by
    show sumI g n + g n = sumI f n + f n - f k + g k
    by_cases q : k < n
    · rw [sumI_upd h q, h n (by omega)]
      omega
    · have : k = n := by omega
      subst this
      rw [sumI_cong (f := g) (g := f) (fun i hi => h i (by omega))]
      omega
theorem balS_upd {bd : Nat → Int32} {s : Nat} (hs : s < 64) (m : Int32) : balS (upd bd s m) = balS bd - fwS (bd s) s + fwS m s := by
  unfold balS
  rw [sumI_upd (f := fun s => fwS (bd s) s) (k := s) (fun i hi => by rw [pk_un hi]) hs, pk_us]
theorem kd_0 {m : Int32} (h : kd m = 0) : m = 0 := by
  unfold kd at h
  have : m.toInt = 0 := by omega
  exact Int32.toInt_inj.mp this
theorem sdM_ok {m : Int32} (hn : m ≠ 0) {c : Nat} (hc : c < 2) : msd m c = decide (sdM m = c) := by
  unfold msd sdM
  have : c = 0 ∨ c = 1 := by omega
  by_cases g : 0 < m
  · have g2 : ¬ m < 0 := Int32.not_lt.mpr (Int32.le_of_lt g)
    rcases this with q | q <;> subst q <;> simp [g, g2]
  · have g2 : m < 0 := by
      rcases Int32.lt_or_eq_of_le (Int32.not_lt.mp g) with q | q
      · exact q
      · exact absurd q hn
    rcases this with q | q <;> subst q <;> simp [g, g2]
theorem x0_put {bd : Nat → Int32} {bal : Int32} {kinds sides : Nat → Int64} {tab : Nat → Int32} (hB : tbP tab) (hC : clP bd bal kinds sides) {s : Nat} (hs : s < 64) (h0 : bd s = 0) {m : Int32} (hm : mOK m) (hn : m ≠ 0) : ∃ (bal' : Int32) (kinds' sides' : Nat → Int64), m_X0_put bal bd kinds sides tab (nI s) m = some (bal', upd bd s m, kinds', sides') ∧ clP (upd bd s m) bal' kinds' sides' := by
  have hk := kd_le hm
  have hk0 : kd m ≠ 0 := fun e => hn (kd_0 e)
  obtain ⟨⟨hb1, hb2⟩, hbal⟩ := hC
  have key : ∀ (c : Nat), c = sdM m → ∃ (bal' : Int32) (sides' : Nat → Int64), m_X0_put_b37 bal (upd bd s m) (vp_updL kinds (kd m) (kinds (kd m) ||| ((1 : Int64) <<< ((nI s).toInt64 &&& 63)))) sides tab (nI s) m ((1 : Int64) <<< ((nI s).toInt64 &&& 63)) (nI c) = some (bal', upd bd s m, vp_updL kinds (kd m) (kinds (kd m) ||| ((1 : Int64) <<< ((nI s).toInt64 &&& 63))), sides') ∧ clP (upd bd s m) bal' (vp_updL kinds (kd m) (kinds (kd m) ||| ((1 : Int64) <<< ((nI s).toInt64 &&& 63)))) sides' := by
    intro c hc
    have hc2 : c < 2 := by
      rw [hc]
      unfold sdM
      split <;> omega
    unfold m_X0_put_b37
    rw [oin_n (by omega) (by omega), nI_clamp (by omega), ol_r, oin_n (by omega) (by omega), ol_r, ob_s (x7_forWhite hB hm hs), ol_r]
    refine ⟨_, _, rfl, ⟨⟨fun k s' k1 k6 hs' => ?_, fun c' s' hc' hs' => ?_⟩, ?_⟩⟩
    · by_cases q : k = kd m
      · subst q
        rw [pk_uLs, bt_or, bt_bit hs hs', hb1 _ s' k1 k6 hs']
        by_cases g : s' = s
        · subst g
          rw [pk_us]
          simp
        · rw [pk_un g]
          simp [g]
      · rw [pk_uLn q, hb1 k s' k1 k6 hs']
        by_cases g : s' = s
        · subst g
          rw [pk_us, h0]
          have e1 : ¬ kd 0 = k := by
            have : kd 0 = 0 := by decide
            omega
          have e2 : ¬ kd m = k := fun e => q e.symm
          simp [e1, e2]
        · rw [pk_un g]
    · have sd := sdM_ok hn hc'
      by_cases q : c' = c
      · subst q
        rw [pk_uLs, bt_or, bt_bit hs hs', hb2 _ s' hc' hs']
        by_cases g : s' = s
        · subst g
          rw [pk_us, sd, ← hc]
          simp
        · rw [pk_un g]
          simp [g]
      · rw [pk_uLn q, hb2 c' s' hc' hs']
        by_cases g : s' = s
        · subst g
          rw [pk_us, h0, msd_0, sd, ← hc]
          have : ¬ c = c' := fun e => q e.symm
          simp [this]
        · rw [pk_un g]
    · rw [hbal, iI_add, balS_upd hs, h0, fwS_0]
      congr 1
      omega
  unfold m_X0_put
  rw [ol_r, oin_n (by omega) (by omega), nI_clamp (by omega), ol_r, ob_s (j9_abs hm), oin_n (by omega) (by omega), nI_clamp (by omega), ol_r, oin_n (by omega) (by omega), ol_r]
  by_cases g : m ≤ 0
  · rw [if_pos g]
    obtain ⟨b', s', e1, e2⟩ := key 1 (by unfold sdM; rw [if_neg (Int32.not_lt.mpr g)])
    exact ⟨b', _, s', e1, e2⟩
  · rw [if_neg g]
    obtain ⟨b', s', e1, e2⟩ := key 0 (by unfold sdM; rw [if_pos (Int32.not_le.mp g)])
    exact ⟨b', _, s', e1, e2⟩
theorem x0_lift {bd : Nat → Int32} {bal : Int32} {kinds sides : Nat → Int64} {tab : Nat → Int32} (hB : tbP tab) (hC : clP bd bal kinds sides) {s : Nat} (hs : s < 64) (hm : mOK (bd s)) (hn : bd s ≠ 0) : ∃ (bal' : Int32) (kinds' sides' : Nat → Int64), m_X0_lift bal bd kinds sides tab (nI s) = some (bd s, bal', upd bd s 0, kinds', sides') ∧ clP (upd bd s 0) bal' kinds' sides' := by
  have hk := kd_le hm
  have hk0 : kd (bd s) ≠ 0 := fun e => hn (kd_0 e)
  obtain ⟨⟨hb1, hb2⟩, hbal⟩ := hC
  have key : ∀ (c : Nat), c = sdM (bd s) → ∃ (bal' : Int32) (sides' : Nat → Int64), m_X0_lift_b51 bal (upd bd s 0) (vp_updL kinds (kd (bd s)) (kinds (kd (bd s)) &&& (((1 : Int64) <<< ((nI s).toInt64 &&& 63)) ^^^ (-1)))) sides tab (nI s) (((1 : Int64) <<< ((nI s).toInt64 &&& 63)) ^^^ (-1)) (bd s) (nI c) = some (bd s, bal', upd bd s 0, vp_updL kinds (kd (bd s)) (kinds (kd (bd s)) &&& (((1 : Int64) <<< ((nI s).toInt64 &&& 63)) ^^^ (-1))), sides') ∧ clP (upd bd s 0) bal' (vp_updL kinds (kd (bd s)) (kinds (kd (bd s)) &&& (((1 : Int64) <<< ((nI s).toInt64 &&& 63)) ^^^ (-1)))) sides' := by
    intro c hc
    have hc2 : c < 2 := by
      rw [hc]
      unfold sdM
      split <;> omega
    unfold m_X0_lift_b51
    rw [oin_n (by omega) (by omega), nI_clamp (by omega), ol_r, oin_n (by omega) (by omega), ol_r, ob_s (x7_forWhite hB hm hs), ol_r]
    refine ⟨_, _, rfl, ⟨⟨fun k s' k1 k6 hs' => ?_, fun c' s' hc' hs' => ?_⟩, ?_⟩⟩
    · have e00 : ¬ kd 0 = k := by
        have : kd 0 = 0 := by decide
        omega
      by_cases q : k = kd (bd s)
      · subst q
        rw [pk_uLs, bt_and, bt_not _ hs', bt_bit hs hs', hb1 _ s' k1 k6 hs']
        by_cases g : s' = s
        · subst g
          rw [pk_us]
          simp [e00]
        · rw [pk_un g]
          simp [g]
      · rw [pk_uLn q, hb1 k s' k1 k6 hs']
        by_cases g : s' = s
        · subst g
          rw [pk_us]
          have e2 : ¬ kd (bd s') = k := fun e => q e.symm
          simp [e00, e2]
        · rw [pk_un g]
    · have sd := sdM_ok hn hc'
      by_cases q : c' = c
      · subst q
        rw [pk_uLs, bt_and, bt_not _ hs', bt_bit hs hs', hb2 _ s' hc' hs']
        by_cases g : s' = s
        · subst g
          rw [pk_us, msd_0]
          simp
        · rw [pk_un g]
          simp [g]
      · rw [pk_uLn q, hb2 c' s' hc' hs']
        by_cases g : s' = s
        · subst g
          rw [pk_us, msd_0, sd, ← hc]
          have : ¬ c = c' := fun e => q e.symm
          simp [this]
        · rw [pk_un g]
    · rw [hbal, iI_sub, balS_upd hs, fwS_0]
      congr 1
      omega
  unfold m_X0_lift
  rw [ol_r, oin_n (by omega) (by omega), nI_clamp (by omega), ol_r, oin_n (by omega) (by omega), ol_r, ob_s (j9_abs hm), oin_n (by omega) (by omega), nI_clamp (by omega), ol_r, oin_n (by omega) (by omega), ol_r]
  by_cases g : bd s ≤ 0
  · rw [if_pos g]
    obtain ⟨b', s', e1, e2⟩ := key 1 (by unfold sdM; rw [if_neg (Int32.not_lt.mpr g)])
    exact ⟨b', _, s', e1, e2⟩
  · rw [if_neg g]
    obtain ⟨b', s', e1, e2⟩ := key 0 (by unfold sdM; rw [if_pos (Int32.not_le.mp g)])
    exact ⟨b', _, s', e1, e2⟩
theorem enM_lt {f t u : Nat} (hf : f < 64) (ht : t < 64) (hu : u ≤ 5) : enM (f, t, u) < 2 ^ 15 := by
  show f + 64 * t + 4096 * u < 2 ^ 15
  omega
theorem x9_fromOf {f t u : Nat} (hf : f < 64) (ht : t < 64) (hu : u ≤ 5) : m_X9_fromOf (nI (enM (f, t, u))) = some (nI f) := by
  have hl := enM_lt hf ht hu
  unfold m_X9_fromOf
  have : nI (enM (f, t, u)) &&& 63 = nI (enM (f, t, u) % 2 ^ 6) := pk_andN (by omega) 6 (by decide)
  rw [this]
  have e : enM (f, t, u) % 2 ^ 6 = f := by
    show (f + 64 * t + 4096 * u) % 2 ^ 6 = f
    omega
  rw [e]
theorem x9_toOf {f t u : Nat} (hf : f < 64) (ht : t < 64) (hu : u ≤ 5) : m_X9_toOf (nI (enM (f, t, u))) = some (nI t) := by
  have hl := enM_lt hf ht hu
  unfold m_X9_toOf
  have e1 : nI (enM (f, t, u)) >>> ((6 : Int32) &&& 31) = nI (enM (f, t, u) / 2 ^ 6) := pk_shrN (by omega) _ 6 (by decide)
  have e2 : nI (enM (f, t, u) / 2 ^ 6) &&& 63 = nI (enM (f, t, u) / 2 ^ 6 % 2 ^ 6) := pk_andN (by omega) 6 (by decide)
  rw [e1, e2]
  have e : enM (f, t, u) / 2 ^ 6 % 2 ^ 6 = t := by
    show (f + 64 * t + 4096 * u) / 2 ^ 6 % 2 ^ 6 = t
    omega
  rw [e]
theorem x9_becomesOf {f t u : Nat} (hf : f < 64) (ht : t < 64) (hu : u ≤ 5) : m_X9_becomesOf (nI (enM (f, t, u))) = some (nI u) := by
  have hl := enM_lt hf ht hu
  unfold m_X9_becomesOf
  have e1 : nI (enM (f, t, u)) >>> ((12 : Int32) &&& 31) = nI (enM (f, t, u) / 2 ^ 12) := pk_shrN (by omega) _ 12 (by decide)
  rw [e1]
  have e : enM (f, t, u) / 2 ^ 12 = u := by
    show (f + 64 * t + 4096 * u) / 2 ^ 12 = u
    omega
  rw [e]
/-- where a move takes -/
def onQ (z : Pz) (f t : Nat) : Nat := if epB z.1 f t then dnS z.2.1 t else t
theorem x0_takesOn {b : Nat → Int32} {c p f t u : Nat} (hc : c < 2) (hp : p ≤ 64) (hf : f < 64) (ht : t < 64) (hu : u ≤ 5) (hm : mOK (b f)) (h8 : t = p → c = 0 → 8 ≤ t) : m_X0_takesOn (nI c) (pI p) b (nI (enM (f, t, u))) = some (nI (if t = p ∧ kd (b f) = 1 then dnS c t else t)) := by
  have c1 : nI (kd (b f)) = 1 ↔ kd (b f) = 1 := nI_eq1 (by have := kd_le hm; omega)
  unfold m_X0_takesOn m_X0_takesOn_b33 m_X0_takesOn_b34 m_X0_takesOn_b52
  rw [ob_s (x9_toOf hf ht hu), ob_s (x9_fromOf hf ht hu), oin_n (by omega) (by omega), nI_clamp (by omega), ob_s (j9_abs hm), ob_s (x9_upOf hc)]
  simp only [c1, pI_eq hp ht]
  by_cases q1 : t = p
  · rw [if_pos q1]
    by_cases q2 : kd (b f) = 1
    · rw [if_pos q2, if_neg (by decide), dnS_eq hc (h8 q1), if_pos ⟨q1, q2⟩]
    · rw [if_neg q2, if_pos (by decide), if_neg (fun h => q2 h.2)]
  · rw [if_neg q1, if_pos (by decide), if_neg (fun h => q1 h.1)]
/-- what a move does away with, as the class writes it -/
def p1N (p : Nat) : Nat := if p < 64 then p + 1 else 0
def goN (k : Nat) (z : Pz) : Nat := k + 8 * z.2.2.1 + 128 * p1N z.2.2.2.1 + 16384 * z.2.2.2.2.1
theorem pI_p1 {p : Nat} (hp : p ≤ 64) : pI p + 1 = nI (p1N p) := by
  unfold p1N
  by_cases q : p < 64
  · rw [pI_lt q, if_pos q, nI_1]
  · have : p = 64 := by omega
    subst this
    rw [if_neg q]
    decide
theorem p1_pI {p : Nat} (hp : p ≤ 64) : nI (p1N p) - 1 = pI p := by
  unfold p1N
  by_cases q : p < 64
  · rw [pI_lt q, if_pos q, nI_pred]
  · have : p = 64 := by omega
    subst this
    rw [if_neg q]
    decide
theorem p1N_lt {p : Nat} (hp : p ≤ 64) : p1N p ≤ 64 := by
  unfold p1N
  split <;> omega
theorem goN_eq {k : Nat} {z : Pz} (hk : k < 8) (hr : z.2.2.1 < 16) (hp : z.2.2.2.1 ≤ 64) (hh : z.2.2.2.2.1 < 65536) : ((nI k ||| (nI z.2.2.1 <<< ((3 : Int32) &&& 31))) ||| ((pI z.2.2.2.1 + 1) <<< ((7 : Int32) &&& 31))) ||| (nI z.2.2.2.2.1 <<< ((14 : Int32) &&& 31)) = nI (goN k z) := by
  have l1 := p1N_lt hp
  rw [pI_p1 hp]
  have e1 : nI z.2.2.1 <<< ((3 : Int32) &&& 31) = nI (z.2.2.1 * 2 ^ 3) := pk_shlN _ 3 (by decide) (by omega)
  have e2 : nI (p1N z.2.2.2.1) <<< ((7 : Int32) &&& 31) = nI (p1N z.2.2.2.1 * 2 ^ 7) := pk_shlN _ 7 (by decide) (by omega)
  have e3 : nI z.2.2.2.2.1 <<< ((14 : Int32) &&& 31) = nI (z.2.2.2.2.1 * 2 ^ 14) := pk_shlN _ 14 (by decide) (by omega)
  rw [e1, e2, e3, nI_or (by omega) (by omega)]
  have f1 : k ||| z.2.2.1 * 2 ^ 3 = 8 * z.2.2.1 + k := by
    have := Nat.two_pow_add_eq_or_of_lt (i := 3) (b := k) (by omega) z.2.2.1
    rw [Nat.or_comm, Nat.mul_comm z.2.2.1, ← this]
  rw [f1, nI_or (by omega) (by omega)]
  have f2 : (8 * z.2.2.1 + k) ||| p1N z.2.2.2.1 * 2 ^ 7 = 128 * p1N z.2.2.2.1 + (8 * z.2.2.1 + k) := by
    have := Nat.two_pow_add_eq_or_of_lt (i := 7) (b := 8 * z.2.2.1 + k) (by omega) (p1N z.2.2.2.1)
    rw [Nat.or_comm, Nat.mul_comm (p1N z.2.2.2.1), ← this]
  rw [f2, nI_or (by omega) (by omega)]
  have f3 : (128 * p1N z.2.2.2.1 + (8 * z.2.2.1 + k)) ||| z.2.2.2.2.1 * 2 ^ 14 = 16384 * z.2.2.2.2.1 + (128 * p1N z.2.2.2.1 + (8 * z.2.2.1 + k)) := by
    have := Nat.two_pow_add_eq_or_of_lt (i := 14) (b := 128 * p1N z.2.2.2.1 + (8 * z.2.2.1 + k)) (by omega) z.2.2.2.2.1
    rw [Nat.or_comm, Nat.mul_comm z.2.2.2.2.1, ← this]
  rw [f3]
  unfold goN
  congr 1
  omega
theorem goN_lt {k : Nat} {z : Pz} (hk : k < 8) (hr : z.2.2.1 < 16) (hp : z.2.2.2.1 ≤ 64) (hh : z.2.2.2.2.1 < 65536) : goN k z < 2 ^ 31 := by
  have l1 := p1N_lt hp
  unfold goN
  omega
theorem x4_rightsIn {k : Nat} {z : Pz} (hk : k < 8) (hr : z.2.2.1 < 16) (hp : z.2.2.2.1 ≤ 64) (hh : z.2.2.2.2.1 < 65536) : m_X4_rightsIn (nI (goN k z)) = some (nI z.2.2.1) := by
  have l1 := p1N_lt hp
  have l := goN_lt hk hr hp hh
  unfold m_X4_rightsIn
  have e1 : nI (goN k z) >>> ((3 : Int32) &&& 31) = nI (goN k z / 2 ^ 3) := pk_shrN (by omega) _ 3 (by decide)
  have e2 : nI (goN k z / 2 ^ 3) &&& 15 = nI (goN k z / 2 ^ 3 % 2 ^ 4) := pk_andN (by omega) 4 (by decide)
  rw [e1, e2]
  congr 2
  unfold goN
  omega
theorem x4_passedIn {k : Nat} {z : Pz} (hk : k < 8) (hr : z.2.2.1 < 16) (hp : z.2.2.2.1 ≤ 64) (hh : z.2.2.2.2.1 < 65536) : m_X4_passedIn (nI (goN k z)) = some (pI z.2.2.2.1) := by
  have l1 := p1N_lt hp
  have l := goN_lt hk hr hp hh
  unfold m_X4_passedIn
  have e1 : nI (goN k z) >>> ((7 : Int32) &&& 31) = nI (goN k z / 2 ^ 7) := pk_shrN (by omega) _ 7 (by decide)
  have e2 : nI (goN k z / 2 ^ 7) &&& 127 = nI (goN k z / 2 ^ 7 % 2 ^ 7) := pk_andN (by omega) 7 (by decide)
  have e3 : goN k z / 2 ^ 7 % 2 ^ 7 = p1N z.2.2.2.1 := by
    unfold goN
    omega
  rw [e1, e2, e3, p1_pI hp]
theorem x4_halvesIn {k : Nat} {z : Pz} (hk : k < 8) (hr : z.2.2.1 < 16) (hp : z.2.2.2.1 ≤ 64) (hh : z.2.2.2.2.1 < 65536) : nI (goN k z) >>> ((14 : Int32) &&& 31) = nI z.2.2.2.2.1 ∧ nI (goN k z) &&& 7 = nI k := by
  have l1 := p1N_lt hp
  have l := goN_lt hk hr hp hh
  have e1 : nI (goN k z) >>> ((14 : Int32) &&& 31) = nI (goN k z / 2 ^ 14) := pk_shrN (by omega) _ 14 (by decide)
  have e2 : nI (goN k z) &&& 7 = nI (goN k z % 2 ^ 3) := pk_andN (by omega) 3 (by decide)
  refine ⟨?_, ?_⟩
  · rw [e1]
    congr 1
    unfold goN
    omega
  · rw [e2]
    congr 1
    unfold goN
    omega
theorem x4_remember {z : Pz} {k made x : Nat} (hk : k < 8) (hr : z.2.2.1 < 16) (hp : z.2.2.2.1 ≤ 64) (hh : z.2.2.2.2.1 < 65536) (hm : made < 1027) (mv pb : Nat → Int32) : m_X4_remember (nI made) mv pb (nI z.2.2.1) (pI z.2.2.2.1) (nI z.2.2.2.2.1) (nI x) (nI k) = some (nI (made + 1), upd mv made (nI x), upd pb made (nI (goN k z))) := by
  unfold m_X4_remember
  rw [oin_n (by omega) (by omega), nI_clamp (by omega), ol_r, ol_r, goN_eq hk hr hp hh, oin_n (by omega) (by omega), ol_r, ol_r, nI_1]
theorem x4_keptBy : ∀ s, s < 64 → m_X4_keptBy (nI s) = some (nI (krS s)) := by decide +kernel
set_option maxRecDepth 100000 in
theorem rk_tb : (List.range 16).all (fun r => (List.range 16).all (fun a => (List.range 16).all (fun b => decide (nI r &&& (nI a &&& nI b) = nI (r &&& a &&& b))))) = true := by decide +kernel
theorem rk_eq {r a b : Nat} (hr : r < 16) (ha : a < 16) (hb : b < 16) : nI r &&& (nI a &&& nI b) = nI (r &&& a &&& b) := of_decide_eq_true (all_lt (all_lt (all_lt rk_tb hr) ha) hb)
theorem x4_isByRight {f t : Nat} (hf : f < 64) (ht : t < 64) : m_X4_isByRight (nI f) (nI t) = some (bI (decide (absD f t = 2))) := by
  have e : m_J9_abs_0f7a4 (nI f - nI t) = some (nI (absD t f)) := x10_size f hf t ht
  have l := absD_lt ht hf
  have e2 : nI (absD t f) = 2 ↔ absD t f = 2 := nI_eq2 (by omega)
  unfold m_X4_isByRight m_X4_isByRight_b15
  rw [ob_s e, absD_sym f t]
  by_cases q : absD t f = 2
  · rw [if_pos (e2.mpr q)]
    simp [q, bI, obl_1]
  · rw [if_neg (fun h => q (e2.mp h))]
    simp [q, bI, obl_0]
