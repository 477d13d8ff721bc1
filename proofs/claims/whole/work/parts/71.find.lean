/-! The reference: the legal moves are found. -/
abbrev Mv := Nat × Nat × Nat
def lastS (z : Pz) (f t : Nat) : Bool := decide (kd (z.1 f) = 1) && decide (rkS z.2.1 t = 7)
def tuS (z : Pz) (f t : Nat) : List Nat := if lastS z f t then List.range' 2 4 else List.range' 0 1
def onS (z : Pz) (f t : Nat) : List Mv := if goS z f t then ((tuS z f t).filter (fun u => safS z.1 f t u z.2.1)).map (fun u => (f, t, u)) else []
def frS (z : Pz) (f : Nat) : List Mv := if msd (z.1 f) z.2.1 then (List.range' 0 64).flatMap (onS z f) else []
/-- the legal moves, in their order -/
def lmS (z : Pz) : List Mv := (List.range' 0 64).flatMap (frS z)
/-- row d of the lists holds l; all else is as it was -/
def stP (F T U C : Nat → Int32) (d : Nat) (l : List Mv) (fr to tu co : Nat → Int32) : Prop :=
  co d = nI l.length ∧ (∀ i m, l[i]? = some m → fr (512 * d + i) = nI m.1 ∧ to (512 * d + i) = nI m.2.1 ∧ tu (512 * d + i) = nI m.2.2) ∧ (∀ e, e ≠ d → co e = C e) ∧ ∀ j, j < 512 * d ∨ 512 * d + 512 ≤ j → fr j = F j ∧ to j = T j ∧ tu j = U j
theorem stP_add {F T U C fr to tu co : Nat → Int32} {d : Nat} {l : List Mv} (h : stP F T U C d l fr to tu co) (hl : l.length < 512) (m : Mv) : stP F T U C d (l ++ [m]) (upd fr (512 * d + l.length) (nI m.1)) (upd to (512 * d + l.length) (nI m.2.1)) (upd tu (512 * d + l.length) (nI m.2.2)) (upd co d (nI (l.length + 1))) := by
  obtain ⟨h1, h2, h3, h4⟩ := h
  refine ⟨?_, fun i m' e => ?_, fun e he => ?_, fun j hj => ?_⟩
  · rw [pk_us, List.length_append, List.length_singleton]
  · by_cases q : i < l.length
    · rw [List.getElem?_append_left q] at e
      rw [pk_un (by omega), pk_un (by omega), pk_un (by omega)]
      exact h2 i m' e
    · rw [List.getElem?_append_right (by omega)] at e
      have : i = l.length := by
        by_cases g : i - l.length = 0
        · omega
        · rw [List.getElem?_eq_none (by simp; omega)] at e
          cases e
      subst this
      rw [Nat.sub_self] at e
      have : m = m' := by simpa using e
      subst this
      exact ⟨pk_us, pk_us, pk_us⟩
  · rw [pk_un he]; exact h3 e he
  · rw [pk_un (by omega), pk_un (by omega), pk_un (by omega)]
    exact h4 j hj
theorem x10_tell {bd : Nat → Int32} (hb : gbd bd) (v : Int32) (cs cm : Nat → Int32) {f t u c d : Nat} (hf : f < 64) (ht : t < 64) (hu : u ≤ 5) (hk : mvK bd f t) (hc : c < 2) (hs : msd (bd f) c = true) (hd : d < 5) {F T U C fr to tu co : Nat → Int32} {l : List Mv} (h : stP F T U C d l fr to tu co) (hl : l.length < 512) : ∃ (v' : Int32) (cs' cm' fr' to' tu' co' : Nat → Int32), m_X10_tell v bd fr to tu co cs cm (nI d) (nI f) (nI t) (nI u) = some (v', bd, fr', to', tu', co', cs', cm') ∧ stP F T U C d (l ++ (if safS bd f t u c then [(f, t, u)] else [])) fr' to' tu' co' := by
  obtain ⟨v1, cs1, cm1, e1⟩ := x10_isSafe hb v cs cm hf ht hu hk hc hs
  unfold m_X10_tell
  rw [ob_s e1]
  try dsimp only
  rw [bI_if]
  cases safS bd f t u c with
  | false =>
    simp only [Bool.false_eq_true, if_false, List.append_nil]
    exact ⟨v1, cs1, cm1, fr, to, tu, co, rfl, h⟩
  | true =>
    simp only [if_true]
    have e2 : 512 * nI d = nI (512 * d) := pk_mul 512 d
    rw [oin_t (pk_in d 5 hd), nI_clamp (by omega), h.1, e2, nI_add]
    simp only [ol_r]
    try dsimp only
    rw [oin_n (by omega) (by omega), nI_clamp (by omega), oin_n (by omega) (by omega), oin_n (by omega) (by omega), oin_t (pk_in d 5 hd), nI_1, oin_t (pk_in d 5 hd)]
    exact ⟨v1, cs1, cm1, _, _, _, _, rfl, stP_add h hl (f, t, u)⟩
theorem find_l93 {z : Pz} (hb : gbd z.1) (hc : z.2.1 < 2) {f t d : Nat} (hf : f < 64) (ht : t < 64) (hk : mvK z.1 f t) (hs : msd (z.1 f) z.2.1 = true) (hd : d < 5) {F T U C : Nat → Int32} (lst : Bool) (k9 : Int32 → (Nat → Int32) → (Nat → Int32) → (Nat → Int32) → (Nat → Int32) → (Nat → Int32) → (Nat → Int32) → (Nat → Int32) → Int32 → Int32 → Option (Int32 × (Nat → Int32) × (Nat → Int32) × (Nat → Int32) × (Nat → Int32) × (Nat → Int32) × (Nat → Int32) × (Nat → Int32))) (k17 : Int32 → (Nat → Int32) → (Nat → Int32) → (Nat → Int32) → (Nat → Int32) → (Nat → Int32) → (Nat → Int32) → (Nat → Int32) → Int32 → Int32 → Int32 → Option (Int32 × (Nat → Int32) × (Nat → Int32) × (Nat → Int32) × (Nat → Int32) × (Nat → Int32) × (Nat → Int32) × (Nat → Int32))) (s1 s2 s3 : Int32) : ∀ (dd u n : Nat) (l : List Mv) (v : Int32) (fr to tu co cs cm : Nat → Int32), u + dd = (if lst then 6 else 1) → stP F T U C d l fr to tu co → l.length + dd ≤ 512 → ∃ (v' : Int32) (fr' to' tu' co' cs' cm' : Nat → Int32), m_X10_find_l93 k9 k17 s1 s2 s3 (n + dd + 1) v z.1 fr to tu co cs cm (nI d) (nI f) (nI t) (bI lst) (nI u) = k17 v' z.1 fr' to' tu' co' cs' cm' (nI d) (nI f) (nI (t + 1)) ∧ stP F T U C d (l ++ ((List.range' u dd).filter (fun u => safS z.1 f t u z.2.1)).map (fun u => (f, t, u))) fr' to' tu' co' := by
  intro dd
  induction dd with
  | zero =>
    intro u n l v fr to tu co cs cm e h hl
    refine ⟨v, fr, to, tu, co, cs, cm, ?_, by simpa using h⟩
    rw [m_X10_find_l93_s]
    unfold m_X10_find_b93 m_X10_find_b105 m_X10_find_b123
    simp only [ol_r]
    try dsimp only
    rw [nI_1, bI_if]
    cases lst with
    | false =>
      have : u = 1 := by simpa using e
      subst this
      rfl
    | true =>
      have : u = 6 := by simpa using e
      subst this
      rfl
  | succ dd ih =>
    intro u n l v fr to tu co cs cm e h hl
    have hu : u ≤ 5 := by split at e <;> omega
    obtain ⟨v1, cs1, cm1, fr1, to1, tu1, co1, e1, h1⟩ := x10_tell hb v cs cm hf ht hu hk hc hs hd h (by omega)
    obtain ⟨v2, fr2, to2, tu2, co2, cs2, cm2, e2, h2⟩ := ih (u + 1) n _ v1 fr1 to1 tu1 co1 cs1 cm1 (by omega) h1 (by
      rw [List.length_append]
      split <;> simp <;> omega)
    refine ⟨v2, fr2, to2, tu2, co2, cs2, cm2, ?_, ?_⟩
    · rw [← e2]
      rw [show n + (dd + 1) + 1 = n + dd + 1 + 1 from rfl, m_X10_find_l93_s]
      unfold m_X10_find_b93 m_X10_find_b105
      simp only [ol_r]
      try dsimp only
      rw [bI_if, ob_s e1]
      try dsimp only
      rw [nI_1]
      cases lst with
      | false =>
        have : u = 0 := by simp at e; omega
        subst this
        rfl
      | true =>
        have hn : ¬ (5 : Int32) < nI u := nI_nlt (a := 5) (by omega) (by omega)
        simp only [if_true]
        rw [if_neg hn]
    · rw [List.range'_succ, List.filter_cons]
      rw [List.append_assoc] at h2
      by_cases q : safS z.1 f t u z.2.1 = true
      · rw [if_pos q] at h2 ⊢
        simpa using h2
      · rw [if_neg q] at h2 ⊢
        simpa using h2
theorem find_l17 {z : Pz} (hb : gbd z.1) (hc : z.2.1 < 2) (hr : z.2.2.1 < 16) (hp : z.2.2.2.1 ≤ 64) (hk : rgK z.1 z.2.1 z.2.2.1) {f d : Nat} (hf : f < 64) (hd : d < 5) {F T U C : Nat → Int32} (k9 : Int32 → (Nat → Int32) → (Nat → Int32) → (Nat → Int32) → (Nat → Int32) → (Nat → Int32) → (Nat → Int32) → (Nat → Int32) → Int32 → Int32 → Option (Int32 × (Nat → Int32) × (Nat → Int32) × (Nat → Int32) × (Nat → Int32) × (Nat → Int32) × (Nat → Int32) × (Nat → Int32))) : ∀ (dd t n : Nat) (l : List Mv) (v : Int32) (fr to tu co cs cm : Nat → Int32), t + dd = 64 → stP F T U C d l fr to tu co → l.length + (if msd (z.1 f) z.2.1 then (List.range' t dd).flatMap (onS z f) else []).length ≤ 508 → ∃ (v' : Int32) (fr' to' tu' co' cs' cm' : Nat → Int32), m_X10_find_l17 k9 (nI z.2.1) (nI z.2.2.1) (pI z.2.2.2.1) (n + dd + 1) v z.1 fr to tu co cs cm (nI d) (nI f) (nI t) = k9 v' z.1 fr' to' tu' co' cs' cm' (nI d) (nI (f + 1)) ∧ stP F T U C d (l ++ (if msd (z.1 f) z.2.1 then (List.range' t dd).flatMap (onS z f) else [])) fr' to' tu' co' := by
  intro dd
  induction dd with
  | zero =>
    intro t n l v fr to tu co cs cm e h hl
    have e : t = 64 := by omega
    subst e
    refine ⟨v, fr, to, tu, co, cs, cm, ?_, by simpa using h⟩
    rw [m_X10_find_l17_s]
    unfold m_X10_find_b17 m_X10_find_b129
    simp only [ol_r]
    try dsimp only
    rw [if_pos (by decide), nI_1]
  | succ dd ih =>
    intro t n l v fr to tu co cs cm e h hl
    have hn : ¬ (64 : Int32) ≤ nI t := nI_ge (b := 64) (by omega) (by omega)
    have hm := hb.1 f hf
    have st : ∀ X, m_X10_find_b17 k9 (m_X10_find_l17 k9 (nI z.2.1) (nI z.2.2.1) (pI z.2.2.2.1) (n + dd + 1)) (nI z.2.1) (nI z.2.2.1) (pI z.2.2.2.1) v z.1 fr to tu co cs cm (nI d) (nI f) (nI t) = X → m_X10_find_l17 k9 (nI z.2.1) (nI z.2.2.1) (pI z.2.2.2.1) (n + (dd + 1) + 1) v z.1 fr to tu co cs cm (nI d) (nI f) (nI t) = X := fun X hX => hX
    cases hs : msd (z.1 f) z.2.1 with
    | false =>
      refine ⟨v, fr, to, tu, co, cs, cm, st _ ?_, by simpa using h⟩
      unfold m_X10_find_b17 m_X10_find_b129
      simp only [ol_r]
      try dsimp only
      rw [if_neg hn, oin_t (pk_in f 64 hf), nI_clamp (by omega), ob_s (x10_isSide hm hc), hs, if_pos (by rfl), nI_1]
    | true =>
      rw [hs] at ih hl
      simp only [if_true] at ih hl ⊢
      rw [List.range'_succ, List.flatMap_cons, List.length_append] at hl
      rw [List.range'_succ, List.flatMap_cons]
      have go := x10_goes hb hc hr hp hk hf (t := t) (by omega) hs
      cases hg : goS z f t with
      | false =>
        have e0 : onS z f t = [] := by
          unfold onS
          rw [hg]
          rfl
        rw [e0] at hl ⊢
        obtain ⟨v1, fr1, to1, tu1, co1, cs1, cm1, e1, h1⟩ := ih (t + 1) n l v fr to tu co cs cm (by omega) h (by simpa using hl)
        refine ⟨v1, fr1, to1, tu1, co1, cs1, cm1, st _ ?_, by simpa using h1⟩
        rw [← e1]
        unfold m_X10_find_b17 m_X10_find_b123
        simp only [ol_r]
        try dsimp only
        rw [if_neg hn, oin_t (pk_in f 64 hf), nI_clamp (by omega), ob_s (x10_isSide hm hc), hs, if_neg (by decide), ob_s go, hg, if_pos (by rfl), nI_1]
      | true =>
        have e0 : onS z f t = ((tuS z f t).filter (fun u => safS z.1 f t u z.2.1)).map (fun u => (f, t, u)) := by
          unfold onS
          rw [hg]
          rfl
        have hK := goS_mvK hb hc hk hf (t := t) (by omega) hs hg
        have c1 : nI (kd (z.1 f)) = 1 ↔ kd (z.1 f) = 1 := nI_eq1 (by have := kd_le hm; omega)
        have hr7 : rkS z.2.1 t < 8 := by unfold rkS; split <;> omega
        have c7 : nI (rkS z.2.1 t) = 7 ↔ rkS z.2.1 t = 7 := nI_eq (b := 7) (by omega) (by omega)
        have e4 : ∀ Y, m_X10_find_b79 k9 (m_X10_find_l17 k9 (nI z.2.1) (nI z.2.2.1) (pI z.2.2.2.1) (n + dd + 1)) (nI z.2.1) (nI z.2.2.1) (pI z.2.2.2.1) v z.1 fr to tu co cs cm (nI d) (nI f) (nI t) (bI (lastS z f t)) = Y → m_X10_find_b17 k9 (m_X10_find_l17 k9 (nI z.2.1) (nI z.2.2.1) (pI z.2.2.2.1) (n + dd + 1)) (nI z.2.1) (nI z.2.2.1) (pI z.2.2.2.1) v z.1 fr to tu co cs cm (nI d) (nI f) (nI t) = Y := by
          intro Y hY
          rw [← hY]
          unfold m_X10_find_b17 m_X10_find_b78
          rw [if_neg hn, oin_t (pk_in f 64 hf), nI_clamp (by omega), ob_s (x10_isSide hm hc), hs, if_neg (by decide), ob_s go, hg, if_neg (by decide), oin_t (pk_in f 64 hf), ob_s (x10_kindOf hm)]
          unfold lastS
          by_cases q1 : kd (z.1 f) = 1
          · rw [if_pos (c1.mpr q1), ob_s (x10_rankOf hc (by omega))]
            by_cases q2 : rkS z.2.1 t = 7
            · rw [if_pos (c7.mpr q2)]
              simp [q1, q2, bI]
            · rw [if_neg (fun q => q2 (c7.mp q))]
              simp [q1, q2, bI]
          · rw [if_neg (fun q => q1 (c1.mp q))]
            simp [q1, bI]
        -- the turns
        have e5 : ∃ (v' : Int32) (fr' to' tu' co' cs' cm' : Nat → Int32), m_X10_find_b79 k9 (m_X10_find_l17 k9 (nI z.2.1) (nI z.2.2.1) (pI z.2.2.2.1) (n + dd + 1)) (nI z.2.1) (nI z.2.2.1) (pI z.2.2.2.1) v z.1 fr to tu co cs cm (nI d) (nI f) (nI t) (bI (lastS z f t)) = m_X10_find_l17 k9 (nI z.2.1) (nI z.2.2.1) (pI z.2.2.2.1) (n + dd + 1) v' z.1 fr' to' tu' co' cs' cm' (nI d) (nI f) (nI (t + 1)) ∧ stP F T U C d (l ++ onS z f t) fr' to' tu' co' := by
          unfold m_X10_find_b79 m_X10_find_b91
          rw [bI_if]
          rw [e0]
          unfold tuS
          cases hL : lastS z f t with
          | false =>
            obtain ⟨v1, fr1, to1, tu1, co1, cs1, cm1, e6, h6⟩ := find_l93 hb hc hf (t := t) (by omega) hK hs hd false k9 (m_X10_find_l17 k9 (nI z.2.1) (nI z.2.2.1) (pI z.2.2.2.1) (n + dd + 1)) (nI z.2.1) (nI z.2.2.1) (pI z.2.2.2.1) 1 0 (kF - 2) l v fr to tu co cs cm rfl h (by omega)
            exact ⟨v1, fr1, to1, tu1, co1, cs1, cm1, e6, h6⟩
          | true =>
            obtain ⟨v1, fr1, to1, tu1, co1, cs1, cm1, e6, h6⟩ := find_l93 hb hc hf (t := t) (by omega) hK hs hd true k9 (m_X10_find_l17 k9 (nI z.2.1) (nI z.2.2.1) (pI z.2.2.2.1) (n + dd + 1)) (nI z.2.1) (nI z.2.2.1) (pI z.2.2.2.1) 4 2 (kF - 5) l v fr to tu co cs cm rfl h (by omega)
            exact ⟨v1, fr1, to1, tu1, co1, cs1, cm1, e6, h6⟩
        obtain ⟨v1, fr1, to1, tu1, co1, cs1, cm1, e6, h6⟩ := e5
        obtain ⟨v2, fr2, to2, tu2, co2, cs2, cm2, e7, h7⟩ := ih (t + 1) n (l ++ onS z f t) v1 fr1 to1 tu1 co1 cs1 cm1 (by omega) h6 (by rw [List.length_append]; omega)
        refine ⟨v2, fr2, to2, tu2, co2, cs2, cm2, st _ (e4 _ (e6.trans e7)), ?_⟩
        rw [← List.append_assoc]
        exact h7
theorem find_l9 {z : Pz} (hb : gbd z.1) (hc : z.2.1 < 2) (hr : z.2.2.1 < 16) (hp : z.2.2.2.1 ≤ 64) (hk : rgK z.1 z.2.1 z.2.2.1) {d : Nat} (hd : d < 5) {F T U C : Nat → Int32} : ∀ (dd f n : Nat) (l : List Mv) (v : Int32) (fr to tu co cs cm : Nat → Int32), f + dd = 64 → stP F T U C d l fr to tu co → l.length + ((List.range' f dd).flatMap (frS z)).length ≤ 508 → ∃ (v' : Int32) (fr' to' tu' co' cs' cm' : Nat → Int32), m_X10_find_l9 (nI z.2.1) (nI z.2.2.1) (pI z.2.2.2.1) (n + dd + 1) v z.1 fr to tu co cs cm (nI d) (nI f) = some (v', z.1, fr', to', tu', co', cs', cm') ∧ stP F T U C d (l ++ (List.range' f dd).flatMap (frS z)) fr' to' tu' co' := by
  intro dd
  induction dd with
  | zero =>
    intro f n l v fr to tu co cs cm e h hl
    have e : f = 64 := by omega
    subst e
    refine ⟨v, fr, to, tu, co, cs, cm, ?_, by simpa using h⟩
    rw [m_X10_find_l9_s]
    unfold m_X10_find_b9
    rw [if_pos (by decide)]
  | succ dd ih =>
    intro f n l v fr to tu co cs cm e h hl
    have hn : ¬ (64 : Int32) ≤ nI f := nI_ge (b := 64) (by omega) (by omega)
    rw [List.range'_succ, List.flatMap_cons, List.length_append] at hl
    rw [List.range'_succ, List.flatMap_cons]
    obtain ⟨v1, fr1, to1, tu1, co1, cs1, cm1, e1, h1⟩ := find_l17 hb hc hr hp hk (f := f) (by omega) hd (m_X10_find_l9 (nI z.2.1) (nI z.2.2.1) (pI z.2.2.2.1) (n + dd + 1)) 64 0 (kF - 65) l v fr to tu co cs cm rfl h (by
      have : (frS z f).length = (if msd (z.1 f) z.2.1 then (List.range' 0 64).flatMap (onS z f) else []).length := rfl
      omega)
    have h1 : stP F T U C d (l ++ frS z f) fr1 to1 tu1 co1 := h1
    obtain ⟨v2, fr2, to2, tu2, co2, cs2, cm2, e2, h2⟩ := ih (f + 1) n _ v1 fr1 to1 tu1 co1 cs1 cm1 (by omega) h1 (by rw [List.length_append]; omega)
    refine ⟨v2, fr2, to2, tu2, co2, cs2, cm2, ?_, by rw [← List.append_assoc]; exact h2⟩
    rw [← e2, ← e1]
    rw [show n + (dd + 1) + 1 = n + dd + 1 + 1 from rfl, m_X10_find_l9_s]
    unfold m_X10_find_b9
    rw [if_neg hn]
    rfl
theorem x10_find {z : Pz} (hb : gbd z.1) (hc : z.2.1 < 2) (hr : z.2.2.1 < 16) (hp : z.2.2.2.1 ≤ 64) (hk : rgK z.1 z.2.1 z.2.2.1) (hL : (lmS z).length ≤ 508) {d : Nat} (hd : d < 5) (v : Int32) (fr to tu co cs cm : Nat → Int32) : ∃ (v' : Int32) (fr' to' tu' co' cs' cm' : Nat → Int32), m_X10_find (nI z.2.1) (nI z.2.2.1) (pI z.2.2.2.1) v z.1 fr to tu co cs cm (nI d) = some (v', z.1, fr', to', tu', co', cs', cm') ∧ stP fr to tu co d (lmS z) fr' to' tu' co' := by
  have h0 : stP fr to tu co d [] fr to tu (upd co d 0) := by
    refine ⟨pk_us, fun i m e => by simp at e, fun e he => pk_un he, fun j _ => ⟨rfl, rfl, rfl⟩⟩
  obtain ⟨v1, fr1, to1, tu1, co1, cs1, cm1, e1, h1⟩ := find_l9 hb hc hr hp hk hd 64 0 (kF - 65) [] v fr to tu (upd co d 0) cs cm rfl h0 (by
    unfold lmS at hL
    rw [List.length_nil]
    omega)
  rw [List.nil_append] at h1
  refine ⟨v1, fr1, to1, tu1, co1, cs1, cm1, ?_, h1⟩
  have e : kF - 65 + 64 + 1 = kF := by unfold kF; omega
  rw [e] at e1
  unfold m_X10_find
  rw [oin_t (pk_in d 5 hd), nI_clamp (by omega), ol_r]
  exact e1
