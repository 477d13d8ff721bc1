/-! Both write the same characters. -/
def wrP (l : List Nat) (arr : Nat → Int32) : Prop := ∀ i c, l[i]? = some c → arr i = nI c
theorem wrP_add {l : List Nat} {arr : Nat → Int32} (h : wrP l arr) (c : Nat) : wrP (l ++ [c]) (upd arr l.length (nI c)) := by
  intro i c' e
  by_cases q : i < l.length
  · rw [List.getElem?_append_left q] at e
    rw [pk_un (by omega)]
    exact h i c' e
  · rw [List.getElem?_append_right (by omega)] at e
    have : i = l.length := by
      by_cases g : i - l.length = 0
      · omega
      · rw [List.getElem?_eq_none (by simp; omega)] at e
        cases e
    subst this
    rw [Nat.sub_self] at e
    have : c = c' := by simpa using e
    subst this
    exact pk_us
theorem x10_put {l : List Nat} {arr : Nat → Int32} (h : wrP l arr) (hl : l.length < 128) (c : Nat) : ∃ arr', m_X10_put (nI l.length) arr (nI c) = some (nI (l ++ [c]).length, arr') ∧ wrP (l ++ [c]) arr' := by
  refine ⟨_, ?_, wrP_add h c⟩
  unfold m_X10_put
  rw [oin_n (by omega) (by omega), nI_clamp (by omega), ol_r, ol_r, nI_1, List.length_append, List.length_singleton]
theorem ch_nar {q : Nat} (h : q < 65536) : ((nI q).toUInt32 % 65536).toInt32 = nI q := by
  rw [pk_char, pk_tn (by omega), Nat.mod_eq_of_lt h]
theorem vp_ch {q : Nat} (h : q < 65536) : vp_nar .char (nI q) = nI q := by
  have := pk_vc (nI q)
  rw [ch_nar h] at this
  exact this
theorem x8_add {l : List Nat} {arr : Nat → Int32} (h : wrP l arr) (hl : l.length < 128) {c : Nat} (hc : c < 65536) : ∃ arr', m_X8_add (nI l.length) arr (nI c) = some (nI (l ++ [c]).length, arr') ∧ wrP (l ++ [c]) arr' := by
  refine ⟨_, ?_, wrP_add h c⟩
  unfold m_X8_add m_X8_add_b32
  have e : ¬ (128 : Int32) ≤ nI l.length := nI_ge (b := 128) (by omega) (by omega)
  rw [if_neg e, oin_n (by omega) (by omega), nI_clamp (by omega), ol_r, ol_r, nI_1, vp_ch hc, List.length_append, List.length_singleton]
/-- the letter of a man -/
def ltS (m : Int32) : Nat := (if kd m = 1 then 80 else if kd m = 2 then 78 else if kd m = 3 then 66 else if kd m = 4 then 82 else if kd m = 5 then 81 else 75) + (if m ≤ 0 then 32 else 0)
theorem x10_letterOf {m : Int32} (h : mOK m) : m_X10_letterOf m = some (nI (ltS m)) := by
  rcases mOK_cases h with q | q | q | q | q | q | q | q | q | q | q | q | q <;> subst q <;> decide
theorem x8_letter {m : Int32} (h : mOK m) (hn : m ≠ 0) : (m ≤ 0 → m_J0_charAt_5068e [32, 112, 110, 98, 114, 113, 107] (-m) = some (nI (ltS m))) ∧ (¬ m ≤ 0 → m_J0_charAt_5068e [32, 80, 78, 66, 82, 81, 75] m = some (nI (ltS m))) := by
  rcases mOK_cases h with q | q | q | q | q | q | q | q | q | q | q | q | q <;> subst q <;> first | (exact absurd rfl hn) | (constructor <;> decide)
theorem ltS_lt (m : Int32) : ltS m < 65536 := by
  unfold ltS
  split
  · split <;> omega
  · split
    · split <;> omega
    · split
      · split <;> omega
      · split
        · split <;> omega
        · split
          · split <;> omega
          · split <;> omega
def frC (free : Nat) : List Nat := if free = 0 then [] else [48 + free]
def rwS (bd : Nat → Int32) (r : Nat) : Nat → Nat → Nat → List Nat
  | 0, _, free => frC free
  | d + 1, c, free => if bd (8 * r + c) = 0 then rwS bd r d (c + 1) (free + 1) else frC free ++ (ltS (bd (8 * r + c)) :: rwS bd r d (c + 1) 0)
theorem frC_len (free : Nat) : (frC free).length ≤ 1 := by
  unfold frC
  split <;> simp
theorem frC_0 : frC 0 = [] := rfl
theorem rwS_len (bd : Nat → Int32) (r : Nat) : ∀ d c free, (rwS bd r d c free).length ≤ d + (frC free).length
  | 0, c, free => by
    unfold rwS
    omega
  | d + 1, c, free => by
    unfold rwS
    split
    · have := rwS_len bd r d (c + 1) (free + 1)
      have h1 : (frC (free + 1)).length = 1 := by unfold frC; simp
      omega
    · have := rwS_len bd r d (c + 1) 0
      rw [List.length_append, List.length_cons]
      rw [frC_0] at this
      simp at this
      omega
theorem x10_free {l : List Nat} {arr : Nat → Int32} (h : wrP l arr) {free : Nat} (hf : free < 10) (hl : l.length + (frC free).length ≤ 128) : ∃ arr', (if nI free ≤ 0 then some (nI l.length, arr) else m_X10_put (nI l.length) arr (48 + nI free)) = some (nI (l ++ frC free).length, arr') ∧ wrP (l ++ frC free) arr' := by
  unfold frC at hl ⊢
  by_cases q : free = 0
  · subst q
    refine ⟨arr, ?_, by simpa using h⟩
    rw [if_pos (by decide)]
    simp
  · rw [if_neg q] at hl ⊢
    have e : (48 : Int32) + nI free = nI (48 + free) := nI_add 48 free
    rw [if_neg (nI_nle (by omega) (by omega)), e]
    simp at hl
    exact x10_put h (by omega) _
theorem x8_addFree {l : List Nat} {arr : Nat → Int32} (h : wrP l arr) {free : Nat} (hf : free < 10) (hl : l.length + (frC free).length ≤ 128) : ∃ arr', m_X8_addFree (nI l.length) arr (nI free) = some (nI (l ++ frC free).length, arr') ∧ wrP (l ++ frC free) arr' := by
  unfold m_X8_addFree m_X8_addFree_b13
  unfold frC at hl ⊢
  by_cases q : free = 0
  · subst q
    refine ⟨arr, ?_, by simpa using h⟩
    rw [if_pos (by decide)]
    simp
  · rw [if_neg q] at hl ⊢
    have e : (48 : Int32) + nI free = nI (48 + free) := nI_add 48 free
    rw [if_neg (nI_nle (by omega) (by omega)), e, ch_nar (by omega)]
    simp at hl
    obtain ⟨arr', e1, e2⟩ := x8_add h (by omega) (c := 48 + free) (by omega)
    rw [ob_s e1]
    exact ⟨arr', rfl, e2⟩
theorem putRow_l {bd : Nat → Int32} (hb : gbd bd) {r : Nat} (hr : r < 8) : ∀ (d c n free : Nat) (l : List Nat) (arr : Nat → Int32), c + d = 8 → free ≤ c → wrP l arr → l.length + d + (frC free).length ≤ 128 → ∃ arr', m_X10_putRow_l4 bd (n + d + 1) (nI l.length) arr (nI r) (nI free) (nI c) = some (nI (l ++ rwS bd r d c free).length, arr') ∧ wrP (l ++ rwS bd r d c free) arr' := by
  intro d
  induction d with
  | zero =>
    intro c n free l arr e hf h hl
    have e : c = 8 := by omega
    subst e
    obtain ⟨arr', e1, e2⟩ := x10_free h (by omega) (free := free) (by omega)
    refine ⟨arr', ?_, e2⟩
    rw [m_X10_putRow_l4_s]
    unfold m_X10_putRow_b4 m_X10_putRow_b85
    rw [if_pos (by decide)]
    show _ = some (nI (l ++ frC free).length, arr')
    have e48 : (48 : Int32) + nI free = nI (48 + free) := nI_add 48 free
    rw [e48] at e1 ⊢
    by_cases q : nI free ≤ 0
    · rw [if_pos q] at e1 ⊢
      exact e1
    · rw [if_neg q] at e1 ⊢
      rw [ob_s e1]
  | succ d ih =>
    intro c n free l arr e hf h hl
    have hn : ¬ (8 : Int32) ≤ nI c := nI_ge (b := 8) (by omega) (by omega)
    have ei : 8 * nI r + nI c = nI (8 * r + c) := by
      have : 8 * nI r = nI (8 * r) := pk_mul 8 r
      rw [this, nI_add]
    have hm := hb.1 (8 * r + c) (by omega)
    rw [show n + (d + 1) + 1 = n + d + 1 + 1 from rfl, m_X10_putRow_l4_s]
    unfold m_X10_putRow_b4 m_X10_putRow_b40 m_X10_putRow_b52 m_X10_putRow_b67
    rw [if_neg hn, ei, oin_n (by omega) (by omega), nI_clamp (by omega), ol_r]
    unfold rwS
    by_cases q : bd (8 * r + c) = 0
    · simp only [q, if_true, ol_r, nI_1]
      have h1 : (frC (free + 1)).length = 1 := by unfold frC; simp
      exact ih (c + 1) n (free + 1) l arr (by omega) (by omega) h (by omega)
    · simp only [q, if_false, ol_r]
      obtain ⟨arr1, e1, e2⟩ := x10_free h (by omega) (free := free) (by omega)
      obtain ⟨arr2, p1, p2⟩ := x10_put e2 (by rw [List.length_append]; omega) (ltS (bd (8 * r + c)))
      obtain ⟨arr3, i1, i2⟩ := ih (c + 1) n 0 (l ++ frC free ++ [ltS (bd (8 * r + c))]) arr2 (by omega) (by omega) p2 (by rw [List.length_append, List.length_append, frC_0]; simp; omega)
      refine ⟨arr3, ?_, by simpa using i2⟩
      have e48 : (48 : Int32) + nI free = nI (48 + free) := nI_add 48 free
      rw [e48] at e1 ⊢
      have ee : (l ++ frC free ++ [ltS (bd (8 * r + c))]) ++ rwS bd r d (c + 1) 0 = l ++ (frC free ++ ltS (bd (8 * r + c)) :: rwS bd r d (c + 1) 0) := by simp
      rw [ee] at i1
      by_cases g : nI free ≤ 0
      · rw [if_pos g] at e1 ⊢
        have e1 := Option.some.inj e1
        have e3 := congrArg Prod.fst e1
        have e4 := congrArg Prod.snd e1
        dsimp only at e3 e4
        rw [e3, e4, ob_s (x10_letterOf hm), ob_s p1]
        try dsimp only
        rw [nI_1]
        exact i1
      · rw [if_neg g] at e1 ⊢
        rw [ob_s e1]
        try dsimp only
        rw [ob_s (x10_letterOf hm), ob_s p1]
        try dsimp only
        rw [nI_1]
        exact i1
theorem addRow_l {bd : Nat → Int32} (hb : gbd bd) {r : Nat} (hr : r < 8) : ∀ (d c n free : Nat) (l : List Nat) (arr : Nat → Int32), c + d = 8 → free ≤ c → wrP l arr → l.length + d + (frC free).length ≤ 128 → ∃ arr', m_X8_addRow_l5 bd (n + d + 1) (nI l.length) arr (nI r) (nI free) (nI c) = some (nI (l ++ rwS bd r d c free).length, arr') ∧ wrP (l ++ rwS bd r d c free) arr' := by
  intro d
  induction d with
  | zero =>
    intro c n free l arr e hf h hl
    have e : c = 8 := by omega
    subst e
    obtain ⟨arr', e1, e2⟩ := x8_addFree h (by omega) (free := free) (by omega)
    refine ⟨arr', ?_, e2⟩
    rw [m_X8_addRow_l5_s]
    unfold m_X8_addRow_b5
    rw [if_pos (by decide), ob_s e1]
    rfl
  | succ d ih =>
    intro c n free l arr e hf h hl
    have hn : ¬ (8 : Int32) ≤ nI c := nI_ge (b := 8) (by omega) (by omega)
    have ei : (8 : Int32) * nI r + nI c = nI (8 * r + c) := by
      have : 8 * nI r = nI (8 * r) := pk_mul 8 r
      rw [this, nI_add]
    have hm := hb.1 (8 * r + c) (by omega)
    rw [show n + (d + 1) + 1 = n + d + 1 + 1 from rfl, m_X8_addRow_l5_s]
    unfold m_X8_addRow_b5 m_X8_addRow_b68 m_X8_addRow_b71
    rw [if_neg hn, ei, oin_n (by omega) (by omega), nI_clamp (by omega), ol_r]
    unfold rwS
    by_cases q : bd (8 * r + c) = 0
    · simp only [q, if_true, ol_r, nI_1]
      have h1 : (frC (free + 1)).length = 1 := by unfold frC; simp
      exact ih (c + 1) n (free + 1) l arr (by omega) (by omega) h (by omega)
    · rw [if_neg q, if_neg q]
      obtain ⟨arr1, e1, e2⟩ := x8_addFree h (by omega) (free := free) (by omega)
      obtain ⟨arr2, p1, p2⟩ := x8_add e2 (by rw [List.length_append]; omega) (ltS_lt (bd (8 * r + c)))
      obtain ⟨arr3, i1, i2⟩ := ih (c + 1) n 0 (l ++ frC free ++ [ltS (bd (8 * r + c))]) arr2 (by omega) (by omega) p2 (by rw [List.length_append, List.length_append, frC_0]; simp; omega)
      refine ⟨arr3, ?_, by simpa using i2⟩
      have ee : (l ++ frC free ++ [ltS (bd (8 * r + c))]) ++ rwS bd r d (c + 1) 0 = l ++ (frC free ++ ltS (bd (8 * r + c)) :: rwS bd r d (c + 1) 0) := by simp
      rw [ee] at i1
      obtain ⟨t1, t2⟩ := x8_letter hm q
      rw [ob_s e1]
      try dsimp only
      by_cases g : bd (8 * r + c) ≤ 0
      · rw [if_pos g, ob_s (t1 g), ob_s p1]
        try dsimp only
        rw [ol_r, nI_1]
        exact i1
      · rw [if_neg g, ob_s (t2 g), ob_s p1]
        try dsimp only
        rw [ol_r, nI_1]
        exact i1
theorem x10_putRow {bd : Nat → Int32} (hb : gbd bd) {r : Nat} (hr : r < 8) {l : List Nat} {arr : Nat → Int32} (h : wrP l arr) (hl : l.length + 8 ≤ 128) : ∃ arr', m_X10_putRow (nI l.length) bd arr (nI r) = some (nI (l ++ rwS bd r 8 0 0).length, arr') ∧ wrP (l ++ rwS bd r 8 0 0) arr' := putRow_l hb hr 8 0 (kF - 9) 0 l arr (by omega) (by omega) h (by rw [frC_0]; simp; omega)
theorem x8_addRow {bd : Nat → Int32} (hb : gbd bd) {r : Nat} (hr : r < 8) {l : List Nat} {arr : Nat → Int32} (h : wrP l arr) (hl : l.length + 8 ≤ 128) : ∃ arr', m_X8_addRow (nI l.length) arr bd (nI r) = some (nI (l ++ rwS bd r 8 0 0).length, arr') ∧ wrP (l ++ rwS bd r 8 0 0) arr' := addRow_l hb hr 8 0 (kF - 9) 0 l arr (by omega) (by omega) h (by rw [frC_0]; simp; omega)
/-- digits -/
def unF : Nat → Nat → Nat → Nat
  | 0, _, u => u
  | f + 1, v, u => if v / 10 < u then u else unF f v (u * 10)
def dgF : Nat → Nat → Nat → List Nat
  | 0, _, _ => []
  | f + 1, v, u => if u = 0 then [] else (48 + v / u % 10) :: dgF f v (u / 10)
def nmS (v : Nat) : List Nat := dgF 6 v (unF 5 v 1)
theorem dgF_len : ∀ f v u, (dgF f v u).length ≤ f
  | 0, _, _ => Nat.le_refl _
  | f + 1, v, u => by
    unfold dgF
    split
    · simp
    · have := dgF_len f v (u / 10)
      rw [List.length_cons]
      omega
theorem unF_le : ∀ f v u, u * 10 ^ f ≤ 100000 → unF f v u ≤ 100000
  | 0, v, u, h => by
    unfold unF
    omega
  | f + 1, v, u, h => by
    unfold unF
    split
    · have : 0 < 10 ^ (f + 1) := Nat.pow_pos (by omega)
      have := Nat.le_mul_of_pos_right u this
      omega
    · apply unF_le f v (u * 10)
      rw [Nat.pow_succ] at h
      rw [Nat.mul_assoc, Nat.mul_comm 10]
      exact h
theorem putNum_l18 {v : Nat} (hv : v < 1000000) : ∀ (f u n : Nat) (l : List Nat) (arr : Nat → Int32), u < 10 ^ f → u ≤ 100000 → wrP l arr → l.length + f ≤ 128 → ∃ arr', m_X10_putNumber_l18 (n + f + 1) (nI l.length) arr (nI v) (nI u) = some (nI (l ++ dgF f v u).length, arr') ∧ wrP (l ++ dgF f v u) arr' := by
  intro f
  induction f with
  | zero =>
    intro u n l arr hu hu2 h hl
    have : u = 0 := by simpa using hu
    subst this
    refine ⟨arr, ?_, by simpa [dgF] using h⟩
    rw [m_X10_putNumber_l18_s]
    unfold m_X10_putNumber_b18
    rw [if_pos (by decide)]
    simp [dgF]
  | succ f ih =>
    intro u n l arr hu hu2 h hl
    rw [show n + (f + 1) + 1 = n + f + 1 + 1 from rfl, m_X10_putNumber_l18_s]
    unfold m_X10_putNumber_b18 dgF
    by_cases q : u = 0
    · subst q
      rw [if_pos (by decide), if_pos rfl]
      exact ⟨arr, by simp, by simpa using h⟩
    · rw [if_neg q]
      have e1 : nI v / nI u = nI (v / u) := pk_div (by omega) (by omega) (by omega)
      have hvu : v / u ≤ v := Nat.div_le_self v u
      have e2 : nI (v / u) - nI (v / u) / 10 * 10 = nI (v / u % 10) := pk_rem (d := 10) (by omega) (by omega) (by omega)
      have e3 : (48 : Int32) + nI (v / u % 10) = nI (48 + v / u % 10) := nI_add 48 _
      have e4 : nI u / 10 = nI (u / 10) := pk_div (d := 10) (by omega) (by omega) (by omega)
      rw [if_neg (nI_nle (by omega) (by omega)), odz_t (nI_ne0 (by omega) (by omega)), ol_r, e1, e2, e3, e4]
      obtain ⟨arr1, p1, p2⟩ := x10_put h (by omega) (48 + v / u % 10)
      rw [ob_s p1]
      try dsimp only
      rw [ol_r]
      obtain ⟨arr2, i1, i2⟩ := ih (u / 10) n (l ++ [48 + v / u % 10]) arr1 (by rw [Nat.pow_succ] at hu; omega) (by omega) p2 (by rw [List.length_append]; simp; omega)
      refine ⟨arr2, ?_, by simpa using i2⟩
      have ee : (l ++ [48 + v / u % 10]) ++ dgF f v (u / 10) = l ++ (48 + v / u % 10) :: dgF f v (u / 10) := by simp
      rw [ee] at i1
      exact i1
theorem addNum_l18 {v : Nat} (hv : v < 1000000) : ∀ (f u n : Nat) (l : List Nat) (arr : Nat → Int32), u < 10 ^ f → u ≤ 100000 → wrP l arr → l.length + f ≤ 128 → ∃ arr', m_X8_addNumber_l18 (n + f + 1) (nI l.length) arr (nI v) (nI u) = some (nI (l ++ dgF f v u).length, arr') ∧ wrP (l ++ dgF f v u) arr' := by
  intro f
  induction f with
  | zero =>
    intro u n l arr hu hu2 h hl
    have : u = 0 := by simpa using hu
    subst this
    refine ⟨arr, ?_, by simpa [dgF] using h⟩
    rw [m_X8_addNumber_l18_s]
    unfold m_X8_addNumber_b18
    rw [if_pos (by decide)]
    simp [dgF]
  | succ f ih =>
    intro u n l arr hu hu2 h hl
    rw [show n + (f + 1) + 1 = n + f + 1 + 1 from rfl, m_X8_addNumber_l18_s]
    unfold m_X8_addNumber_b18 dgF
    by_cases q : u = 0
    · subst q
      rw [if_pos (by decide), if_pos rfl]
      exact ⟨arr, by simp, by simpa using h⟩
    · rw [if_neg q]
      have e1 : nI v / nI u = nI (v / u) := pk_div (by omega) (by omega) (by omega)
      have hvu : v / u ≤ v := Nat.div_le_self v u
      have e2 : nI (v / u) - nI (v / u) / 10 * 10 = nI (v / u % 10) := pk_rem (d := 10) (by omega) (by omega) (by omega)
      have e3 : (48 : Int32) + nI (v / u % 10) = nI (48 + v / u % 10) := nI_add 48 _
      have e4 : nI u / 10 = nI (u / 10) := pk_div (d := 10) (by omega) (by omega) (by omega)
      rw [if_neg (nI_nle (by omega) (by omega)), odz_t (nI_ne0 (by omega) (by omega)), ol_r, e1, e2, e3, e4, ch_nar (by omega)]
      obtain ⟨arr1, p1, p2⟩ := x8_add h (by omega) (c := 48 + v / u % 10) (by omega)
      rw [ob_s p1]
      try dsimp only
      rw [ol_r]
      obtain ⟨arr2, i1, i2⟩ := ih (u / 10) n (l ++ [48 + v / u % 10]) arr1 (by rw [Nat.pow_succ] at hu; omega) (by omega) p2 (by rw [List.length_append]; simp; omega)
      refine ⟨arr2, ?_, by simpa using i2⟩
      have ee : (l ++ [48 + v / u % 10]) ++ dgF f v (u / 10) = l ++ (48 + v / u % 10) :: dgF f v (u / 10) := by simp
      rw [ee] at i1
      exact i1
theorem num_exit {v u : Nat} (hu : 0 < u) : v / u ≤ 9 ↔ v / 10 < u := by
  have h1 : v / u ≤ 9 ↔ v < 10 * u := by
    rw [← Nat.lt_succ_iff, Nat.div_lt_iff_lt_mul hu]
  have h2 : v / 10 < u ↔ v < 10 * u := by
    rw [Nat.div_lt_iff_lt_mul (by omega), Nat.mul_comm]
  rw [h1, h2]
theorem putNum_l2 {v : Nat} (hv : v < 1000000) {l : List Nat} {arr : Nat → Int32} (h : wrP l arr) (hl : l.length + 6 ≤ 128) : ∀ (f u n : Nat), 0 < u → u * 10 ^ (f + 1) = 1000000 → ∃ arr', m_X10_putNumber_l2 (n + f + 1) (nI l.length) arr (nI v) (nI u) = some (nI (l ++ dgF 6 v (unF f v u)).length, arr') ∧ wrP (l ++ dgF 6 v (unF f v u)) arr' := by
  have fin : ∀ u, 0 < u → u ≤ 100000 → ∃ arr', m_X10_putNumber_l18 kF (nI l.length) arr (nI v) (nI u) = some (nI (l ++ dgF 6 v u).length, arr') ∧ wrP (l ++ dgF 6 v u) arr' := fun u h1 h2 => putNum_l18 hv 6 u (kF - 7) l arr (by omega) h2 h hl
  intro f
  induction f with
  | zero =>
    intro u n hu he
    have : u = 100000 := by omega
    subst this
    rw [m_X10_putNumber_l2_s]
    unfold m_X10_putNumber_b2 unF
    have e1 : nI v / nI 100000 = nI (v / 100000) := pk_div (by omega) (by omega) (by omega)
    have e9 : nI (v / 100000) ≤ 9 := nI_le (b := 9) (by omega) (by omega)
    rw [odz_t (nI_ne0 (by omega) (by omega)), e1, if_pos e9]
    exact fin 100000 (by omega) (by omega)
  | succ f ih =>
    intro u n hu he
    have hu5 : u ≤ 100000 := by
      have h1 : 10 ≤ 10 ^ (f + 1 + 1) := by
        rw [Nat.pow_succ]
        have : 0 < 10 ^ (f + 1) := Nat.pow_pos (by omega)
        omega
      have := Nat.mul_le_mul_left u h1
      omega
    rw [show n + (f + 1) + 1 = n + f + 1 + 1 from rfl, m_X10_putNumber_l2_s]
    unfold m_X10_putNumber_b2 unF
    have e1 : nI v / nI u = nI (v / u) := pk_div (by omega) (by omega) (by omega)
    have hvu : v / u ≤ v := Nat.div_le_self v u
    have c9 : nI (v / u) ≤ 9 ↔ v / u ≤ 9 := nI_leI (b := 9) (by omega) (by omega)
    have e10 : 10 * nI u = nI (u * 10) := by
      have := pk_mul 10 u
      rw [Nat.mul_comm 10 u] at this
      exact this
    rw [odz_t (nI_ne0 (by omega) (by omega)), e1]
    by_cases q : v / 10 < u
    · rw [if_pos (c9.mpr ((num_exit hu).mpr q)), if_pos q]
      exact fin u hu hu5
    · rw [if_neg (fun g => q ((num_exit hu).mp (c9.mp g))), if_neg q, ol_r, e10]
      apply ih (u * 10) n (by omega)
      rw [← he, Nat.pow_succ 10 (f + 1), Nat.mul_assoc, Nat.mul_comm 10]
theorem addNum_l2 {v : Nat} (hv : v < 1000000) {l : List Nat} {arr : Nat → Int32} (h : wrP l arr) (hl : l.length + 6 ≤ 128) : ∀ (f u n : Nat), 0 < u → u * 10 ^ (f + 1) = 1000000 → ∃ arr', m_X8_addNumber_l2 (n + f + 1) (nI l.length) arr (nI v) (nI u) = some (nI (l ++ dgF 6 v (unF f v u)).length, arr') ∧ wrP (l ++ dgF 6 v (unF f v u)) arr' := by
  have fin : ∀ u, 0 < u → u ≤ 100000 → ∃ arr', m_X8_addNumber_l18 kF (nI l.length) arr (nI v) (nI u) = some (nI (l ++ dgF 6 v u).length, arr') ∧ wrP (l ++ dgF 6 v u) arr' := fun u h1 h2 => addNum_l18 hv 6 u (kF - 7) l arr (by omega) h2 h hl
  have ev : nI v / 10 = nI (v / 10) := pk_div (d := 10) (by omega) (by omega) (by omega)
  intro f
  induction f with
  | zero =>
    intro u n hu he
    have : u = 100000 := by omega
    subst this
    rw [m_X8_addNumber_l2_s]
    unfold m_X8_addNumber_b2 unF
    rw [ev, if_pos (nI_lt (by omega) (by omega))]
    exact fin 100000 (by omega) (by omega)
  | succ f ih =>
    intro u n hu he
    have hu5 : u ≤ 100000 := by
      have h1 : 10 ≤ 10 ^ (f + 1 + 1) := by
        rw [Nat.pow_succ]
        have : 0 < 10 ^ (f + 1) := Nat.pow_pos (by omega)
        omega
      have := Nat.mul_le_mul_left u h1
      omega
    rw [show n + (f + 1) + 1 = n + f + 1 + 1 from rfl, m_X8_addNumber_l2_s]
    unfold m_X8_addNumber_b2 unF
    have e10 : nI u * 10 = nI (u * 10) := pk_mul u 10
    have c9 : nI (v / 10) < nI u ↔ v / 10 < u := nI_ltI (by omega) (by omega)
    rw [ev]
    by_cases q : v / 10 < u
    · rw [if_pos (c9.mpr q), if_pos q]
      exact fin u hu hu5
    · rw [if_neg (fun g => q (c9.mp g)), if_neg q, ol_r, e10]
      apply ih (u * 10) n (by omega)
      rw [← he, Nat.pow_succ 10 (f + 1), Nat.mul_assoc, Nat.mul_comm 10]
theorem x10_putNumber {v : Nat} (hv : v < 1000000) {l : List Nat} {arr : Nat → Int32} (h : wrP l arr) (hl : l.length + 6 ≤ 128) : ∃ arr', m_X10_putNumber (nI l.length) arr (nI v) = some (nI (l ++ nmS v).length, arr') ∧ wrP (l ++ nmS v) arr' := putNum_l2 hv h hl 5 1 (kF - 6) (by omega) (by decide)
theorem x8_addNumber {v : Nat} (hv : v < 1000000) {l : List Nat} {arr : Nat → Int32} (h : wrP l arr) (hl : l.length + 6 ≤ 128) : ∃ arr', m_X8_addNumber (nI l.length) arr (nI v) = some (nI (l ++ nmS v).length, arr') ∧ wrP (l ++ nmS v) arr' := addNum_l2 hv h hl 5 1 (kF - 6) (by omega) (by decide)
theorem nmS_len (v : Nat) : (nmS v).length ≤ 6 := dgF_len 6 v _
