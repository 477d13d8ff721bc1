/-! The class: survey, list, count, hasNone. -/
def biL (x : Int64) : List Nat := (List.range 64).filter (bt x)
theorem filter_least {p q : Nat → Bool} {a : Nat} (hp : p a = true) (hl : ∀ j, j < a → p j = false) (hq : ∀ i, q i = (p i && decide (i ≠ a))) : ∀ {n : Nat}, a < n → (List.range n).filter p = a :: (List.range n).filter q
  | 0, h => by omega
  | n + 1, h => by
    rw [List.range_succ, List.filter_append, List.filter_append]
    by_cases g : a < n
    · rw [filter_least hp hl hq g, List.cons_append]
      congr 2
      have e : q n = p n := by
        rw [hq n]
        have : n ≠ a := by omega
        simp [this]
      simp [List.filter_cons, e]
    · have : a = n := by omega
      subst this
      have e1 : (List.range a).filter p = [] := by
        rw [List.filter_eq_nil_iff]
        intro x hx
        rw [List.mem_range] at hx
        rw [hl x hx]
        decide
      have e2 : (List.range a).filter q = [] := by
        rw [List.filter_eq_nil_iff]
        intro x hx
        rw [List.mem_range] at hx
        rw [hq x, hl x hx]
        simp
      have e3 : q a = false := by
        rw [hq a]
        simp
      rw [e1, e2]
      simp [List.filter_cons, hp, e3]
theorem biL_cons {x : Int64} {a : Nat} (h : leastB x a) : biL x = a :: biL (x &&& (x - 1)) := by
  unfold biL
  rw [filter_least (q := fun i => bt x i && decide (i ≠ a)) h.2.1 h.2.2 (fun _ => rfl) h.1]
  congr 1
  apply List.filter_congr
  intro i hi
  rw [List.mem_range] at hi
  rw [bt_drop h hi]
theorem biL_nil {x : Int64} (h : cb (bt x) 64 = 0) : biL x = [] := by
  unfold biL
  rw [List.filter_eq_nil_iff]
  intro i hi
  rw [List.mem_range] at hi
  rw [eq0_cb h i hi]
  decide
theorem biL_len (x : Int64) : (biL x).length = cb (bt x) 64 := filter_len _ _
/-- stands and goals hold the men of l and where they go -/
def svP (z : Pz) (l : List Nat) (st : Nat → Int32) (go : Nat → Int64) : Prop := ∀ i f, l[i]? = some f → st i = nI f ∧ ∀ t, t < 64 → bt (go i) t = leS z f t
theorem svP_add {z : Pz} {l : List Nat} {st : Nat → Int32} {go : Nat → Int64} (h : svP z l st go) {f : Nat} {G : Int64} (hG : ∀ t, t < 64 → bt G t = leS z f t) : svP z (l ++ [f]) (upd st l.length (nI f)) (vp_updL go l.length G) := by
  intro i f' e
  by_cases q : i < l.length
  · rw [List.getElem?_append_left q] at e
    rw [pk_un (by omega), pk_uLn (by omega)]
    exact h i f' e
  · rw [List.getElem?_append_right (by omega)] at e
    have : i = l.length := by
      by_cases g : i - l.length = 0
      · omega
      · rw [List.getElem?_eq_none (by simp; omega)] at e
        cases e
    subst this
    rw [Nat.sub_self] at e
    have : f = f' := by simpa using e
    subst this
    rw [pk_us, pk_uLs]
    exact ⟨rfl, hG⟩
theorem survey_l {z : Pz} (hi : inv z) {kinds sides rays kns kgs pws : Nat → Int64} (hT : lnT rays kns kgs pws) (hB : brP z.1 kinds sides) {k : Nat} (hK : isK z.1 z.2.1 k) {own all S P Q : Int64} (hown : ∀ s, s < 64 → bt own s = msd (z.1 s) z.2.1) (hall : ∀ s, s < 64 → bt all s = occ z.1 s) (hS : ∀ t, t < 64 → (bt S t = true ↔ (∀ s, s < 64 → msd (z.1 s) (1 - z.2.1) = true → knpB (z.1 s) s k = true → s = t) ∧ ∀ w, w < 8 → farG z.1 (occ z.1) k (1 - z.2.1) w → seenP z.1 k w t)) (hP : ∀ f, f < 64 → (bt P f = true ↔ msd (z.1 f) z.2.1 = true ∧ ∃ w, w < 8 ∧ pinP z.1 k (1 - z.2.1) w f)) (hQ : ∀ f, f < 64 → (bt Q f = true ↔ z.2.2.2.1 < 64 ∧ z.1 f = pmn z.2.1 ∧ pawB z.2.1 f z.2.2.2.1 = true ∧ ¬ attG z.1 (epO z.1 z.2.1 z.2.2.2.1 f) k (1 - z.2.1))) (vst : Int32) (cnt : Nat) (hcnt : cnt ≤ 16) : ∀ (d n : Nat) (left : Int64) (dn : List Nat) (st : Nat → Int32) (go : Nat → Int64), cb (bt left) 64 = d → dn.length + d = cnt → (∀ f, f < 64 → bt left f = true → msd (z.1 f) z.2.1 = true) → svP z dn st go → ∃ (st' : Nat → Int32) (go' : Nat → Int64), m_X2_survey_l36 (nI z.2.1) (nI z.2.2.1) (pI z.2.2.2.1) z.1 kinds sides rays kns kgs pws (n + d + 1) vst own all (nI k) S P Q st go left (nI cnt) (nI dn.length) = some (nI cnt, own, all, nI k, S, P, Q, st', go') ∧ svP z (dn ++ biL left) st' go' := by
  intro d
  induction d with
  | zero =>
    intro n left dn st go e e2 hl h
    refine ⟨st, go, ?_, by rw [biL_nil e, List.append_nil]; exact h⟩
    rw [m_X2_survey_l36_s]
    unfold m_X2_survey_b36
    rw [if_pos (nI_le (by omega) (by omega))]
  | succ d ih =>
    intro n left dn st go e e2 hl h
    obtain ⟨a, ha⟩ := leastB_ex (ne0_cb e)
    have hd := cb_drop_least ha
    have h64 := cb_le (bt left) 64
    have hao := hl a ha.1 ha.2.1
    have ka := ha.1
    -- the goals
    have goal : ∃ G, (∀ t, t < 64 → bt G t = leS z a t) ∧ (if nI a = nI k then m_X2_kingGoals own all (nI k) S (nI z.2.1) (nI z.2.2.1) kinds sides rays kns kgs pws = some G else m_X2_goalsOf own all (nI k) S P Q (nI z.2.1) (pI z.2.2.2.1) z.1 sides rays kns pws (nI a) = some G) := by
      have hc := hi.2.1
      have hk := hK.1
      by_cases q : a = k
      · subst q
        obtain ⟨X, stp, x1, x2, x3⟩ := x2_kingGoals hT hB hc hk hi.2.2.1 (S := S) hown hall
        refine ⟨X, fun t ht => ?_, by rw [if_pos rfl]; exact x1⟩
        apply bool_iff
        rw [x3 t ht, leg_king hi hK ht hS x2]
      · have hm := hi.1.1 a ka
        have h6 : kd (z.1 a) ≠ 6 := fun e => q (hK.2.2 a ka (king_man hm hc e hao))
        have h0 : kd (z.1 a) ≠ 0 := by
          intro e
          have hz := occ_t.mp (msd_occ hao)
          apply hz
          unfold kd at e
          have : (z.1 a).toInt = 0 := by omega
          exact Int32.toInt_inj.mp this
        obtain ⟨X, x1, x2⟩ := x2_goalsOf hi.1 hT hB (p := z.2.2.2.1) (S := S) (P := P) (Q := Q) hc hk ka h6 h0 (hi.2.2.2.2.2.2.2.1 a ka) hown hall (fun g => by
          obtain ⟨_, w, hw, hp⟩ := (hP a ka).mp g
          obtain ⟨j, y1, y2, y3, _⟩ := hp.1
          exact ⟨w, hw, (ray_iff hw hk ka).mpr ⟨j, y1, y2, y3⟩⟩) (fun g => ((hQ a ka).mp g).1)
        refine ⟨X, fun t ht => ?_, ?_⟩
        · apply bool_iff
          rw [x2 t ht, leg_man hi hK ka ht q hao hS hP hQ]
        · rw [if_neg (fun g => q ((nI_eq (by omega) (by omega)).mp g))]
          exact x1
    obtain ⟨G, hG, eG⟩ := goal
    have hsv := svP_add h hG
    obtain ⟨st', go', i1, i2⟩ := ih n (left &&& (left - 1)) (dn ++ [a]) _ _ (by omega) (by rw [List.length_append, List.length_singleton]; omega) (fun f hf g => by
      rw [bt_drop ha hf, Bool.and_eq_true] at g
      exact hl f hf g.1) hsv
    refine ⟨st', go', ?_, by rw [biL_cons ha]; simpa using i2⟩
    rw [← i1]
    rw [show n + (d + 1) + 1 = n + d + 1 + 1 from rfl, m_X2_survey_l36_s]
    unfold m_X2_survey_b36 m_X2_survey_b91
    rw [if_neg (nI_ge (by omega) (by omega)), ob_s (leastOf_eq ha), ol_r, oin_n (by omega) (by omega), nI_clamp (by omega), ol_r]
    rw [List.length_append, List.length_singleton]
    by_cases q : nI a = nI k
    · rw [if_pos q] at eG
      rw [if_pos q, ob_s eG, oin_n (by omega) (by omega), ol_r, ol_r, nI_1]
    · rw [if_neg q] at eG
      rw [if_neg q, ob_s eG, oin_n (by omega) (by omega), ol_r, ol_r, nI_1]
theorem x2_survey {z : Pz} (hi : inv z) {kinds sides rays kns kgs pws : Nat → Int64} (hT : lnT rays kns kgs pws) (hB : brP z.1 kinds sides) (v1 v4 : Int32) (v2 v3 v5 v6 v7 : Int64) (st : Nat → Int32) (go : Nat → Int64) : ∃ (own all S P Q : Int64) (k : Nat) (st' : Nat → Int32) (go' : Nat → Int64), m_X2_survey v1 v2 v3 v4 v5 v6 v7 st go (nI z.2.1) (nI z.2.2.1) (pI z.2.2.2.1) z.1 kinds sides rays kns kgs pws = some (nI (owL z).length, own, all, nI k, S, P, Q, st', go') ∧ svP z (owL z) st' go' := by
  obtain ⟨k, hK⟩ := hi.2.2.2.2.1 z.2.1 hi.2.1
  obtain ⟨own, all, S, P, e1, hown, hall, hS, hP⟩ := x2_lookAround hi.1 hT hB hi.2.1 hK v2 v3 v5 v6 v4
  have hE := hi.2.2.2.2.2.2.2.2.2
  obtain ⟨Q, e2, hQ⟩ := x0_passers hi.1 hT hB (p := z.2.2.2.1) hi.2.1 hK hi.2.2.2.1 (fun h h0 => by
    have := (hE h).1
    unfold rkS at this
    rw [if_pos h0] at this
    omega) (fun h h1 => by
    have := (hE h).1
    unfold rkS at this
    rw [if_neg (by omega)] at this
    omega)
  have hlen : (owL z).length = cb (bt own) 64 := by
    unfold owL
    rw [filter_len]
    exact cb_cong (fun i hi => (hown i hi).symm)
  have hbi : biL own = owL z := by
    unfold biL owL
    apply List.filter_congr
    intro i hi
    rw [List.mem_range] at hi
    exact hown i hi
  have h16 : cb (bt own) 64 ≤ 16 := by
    rw [← hlen]
    unfold owL
    rw [filter_len]
    exact hi.2.2.2.2.2.1 z.2.1 hi.2.1
  obtain ⟨st', go', i1, i2⟩ := survey_l hi hT hB hK hown hall hS hP hQ v1 (cb (bt own) 64) h16 (cb (bt own) 64) (kF - 1 - cb (bt own) 64) own [] st go rfl (by simp) (fun f hf g => by rw [← hown f hf]; exact g) (fun i f e => by simp at e)
  have e : kF - 1 - cb (bt own) 64 + cb (bt own) 64 + 1 = kF := by unfold kF; omega
  rw [e] at i1
  rw [hbi, List.nil_append] at i2
  refine ⟨own, all, S, P, Q, k, st', go', ?_, i2⟩
  unfold m_X2_survey
  rw [ob_s e1]
  try dsimp only
  have em : m_J9_min_7cf53 (nI (cb (bt own) 64)) 16 = some (nI (cb (bt own) 64)) := by
    unfold m_J9_min_7cf53 m_J9_min_7cf53_b10
    have z16 : ¬ (16 : Int32) < nI (cb (bt own) 64) := nI_nlt (a := 16) (by omega) (by omega)
    rw [if_neg z16]
  rw [ob_s e2, ob_s (bitCount_eq _), ob_s em, hlen]
  exact i1
/-- the moves that men of l have to squares with p -/
def lsQ (z : Pz) (p : Nat → Bool) (l : List Nat) : List Mv := l.flatMap (fun f => (gtL z p f).flatMap (fun t => (tbS z f).map (fun u => (f, t, u))))
theorem flatMap_nil_iff {A B : Type} {g : A → List B} : ∀ {l : List A}, l.flatMap g = [] ↔ ∀ a ∈ l, g a = []
  | [] => by simp
  | a :: l => by
    rw [List.flatMap_cons, List.append_eq_nil_iff, flatMap_nil_iff]
    simp
theorem tbS_ne (z : Pz) (f : Nat) : (tbS z f).length ≠ 0 := by
  rw [tbS_len]
  split <;> omega
theorem hasNone_l {z : Pz} {go : Nat → Int64} {L : List Nat} (hL : L.length ≤ 16) (hsv : ∀ i f, L[i]? = some f → ∀ t, t < 64 → bt (go i) t = leS z f t) : ∀ (d i n : Nat) (X : Int64), i + d = L.length → (∀ t, t < 64 → (bt X t = true ↔ ∃ j f, j < i ∧ L[j]? = some f ∧ leS z f t = true)) → m_X2_hasNone_l4 (nI L.length) go (n + d + 1) X (nI i) = some (bI (decide (lsQ z (fun _ => true) L = []))) := by
  intro d
  induction d with
  | zero =>
    intro i n X e hX
    have e : i = L.length := by omega
    subst e
    rw [m_X2_hasNone_l4_s]
    unfold m_X2_hasNone_b4 m_X2_hasNone_b38
    rw [if_pos (nI_le (Nat.le_refl _) (by omega))]
    simp only [lg0]
    have key : X = 0 ↔ lsQ z (fun _ => true) L = [] := by
      unfold lsQ
      rw [flatMap_nil_iff]
      constructor
      · intro h f hf
        obtain ⟨j, hj⟩ := List.mem_iff_getElem?.mp hf
        rw [flatMap_nil_iff]
        intro t ht
        unfold gtL at ht
        rw [List.mem_filter, List.mem_range, Bool.and_true] at ht
        have hjl : j < L.length := by
          apply Classical.byContradiction
          intro q
          rw [List.getElem?_eq_none (by omega)] at hj
          cases hj
        have := (hX t ht.1).mpr ⟨j, f, hjl, hj, ht.2⟩
        rw [h, bt_zero] at this
        cases this
      · intro h
        apply Classical.byContradiction
        intro q
        obtain ⟨t, ht, hb⟩ := bt_ne0.mp q
        obtain ⟨j, f, h1, h2, h3⟩ := (hX t ht).mp hb
        have := h f (List.mem_iff_getElem?.mpr ⟨j, h2⟩)
        rw [flatMap_nil_iff] at this
        have := this t (by unfold gtL; rw [List.mem_filter, List.mem_range, Bool.and_true]; exact ⟨ht, h3⟩)
        have := congrArg List.length this
        rw [List.length_map] at this
        exact tbS_ne z f this
    by_cases q : X = 0
    · rw [if_pos q]
      simp [key.mp q, bI, obl_1]
    · rw [if_neg q]
      have : ¬ lsQ z (fun _ => true) L = [] := fun g => q (key.mpr g)
      simp [this, bI, obl_0]
  | succ d ih =>
    intro i n X e hX
    have hi : i < L.length := by omega
    rw [show n + (d + 1) + 1 = n + d + 1 + 1 from rfl, m_X2_hasNone_l4_s]
    unfold m_X2_hasNone_b4
    rw [if_neg (nI_ge (by omega) (by omega)), oin_n (by omega) (by omega), nI_clamp (by omega), ol_r, ol_r, nI_1]
    apply ih (i + 1) n _ (by omega)
    intro t ht
    rw [bt_or, Bool.or_eq_true, hX t ht, hsv i L[i] (by simp [hi]) t ht]
    constructor
    · rintro (⟨j, f, h1, h2, h3⟩ | h)
      · exact ⟨j, f, by omega, h2, h3⟩
      · exact ⟨i, L[i], by omega, by simp [hi], h⟩
    · rintro ⟨j, f, h1, h2, h3⟩
      by_cases q : j = i
      · subst q
        have : L[j] = f := by simpa [hi] using h2
        rw [this]
        exact Or.inr h3
      · exact Or.inl ⟨j, f, by omega, h2, h3⟩
theorem owL_len {z : Pz} (hi : inv z) : (owL z).length ≤ 16 := by
  unfold owL
  rw [filter_len]
  exact hi.2.2.2.2.2.1 z.2.1 hi.2.1
theorem x2_hasNone {z : Pz} (hi : inv z) {st : Nat → Int32} {go : Nat → Int64} (h : svP z (owL z) st go) : m_X2_hasNone (nI (owL z).length) go = some (bI (lmS z).isEmpty) := by
  have hl := owL_len hi
  have := hasNone_l hl (fun i f e => (h i f e).2) (owL z).length 0 (kF - 1 - (owL z).length) 0 (by omega) (fun t ht => by
    rw [bt_zero]
    exact ⟨fun g => (by cases g), fun ⟨j, f, g, _⟩ => by omega⟩)
  have e : kF - 1 - (owL z).length + (owL z).length + 1 = kF := by unfold kF; omega
  rw [e] at this
  have this : m_X2_hasNone_l4 (nI (owL z).length) go kF 0 0 = _ := this
  unfold m_X2_hasNone
  rw [this, lmS_eq hi]
  have e2 : lsP z (fun _ => true) = lsQ z (fun _ => true) (owL z) := rfl
  rw [e2]
  cases lsQ z (fun _ => true) (owL z) <;> rfl
theorem x2_becomes {z : Pz} (hi : inv z) {f : Nat} (hf : f < 64) : m_X2_becomesAnother (nI z.2.1) z.1 (nI f) = some (bI (baS z f)) := by
  have hm := hi.1.1 f hf
  have hc := hi.2.1
  have c1 : nI (kd (z.1 f)) = 1 ↔ kd (z.1 f) = 1 := nI_eq1 (by have := kd_le hm; omega)
  have e8 : nI f / 8 = nI (f / 8) := pk_div (d := 8) (by omega) (by omega) (by omega)
  unfold m_X2_becomesAnother m_X2_becomesAnother_b36 m_X2_becomesAnother_b43 m_X2_becomesAnother_b44
  rw [oin_n (by omega) (by omega), nI_clamp (by omega), ob_s (j9_abs hm), e8]
  unfold baS rkS
  have e6 : nI (f / 8) = 6 ↔ f / 8 = 6 := nI_eq (b := 6) (by omega) (by omega)
  have e1 : nI (f / 8) = 1 ↔ f / 8 = 1 := nI_eq1 (by omega)
  simp only [c1, e6, e1, obl_0, obl_1]
  by_cases q : kd (z.1 f) = 1
  · have : z.2.1 = 0 ∨ z.2.1 = 1 := by omega
    have n1 : ¬ nI 1 = 0 := by decide
    have n0 : nI 0 = 0 := by decide
    rcases this with g | g
    · by_cases p : f / 8 = 6 <;> simp [q, g, n0, p, bI]
    · by_cases p : f / 8 = 1
      · simp [q, g, n1, p, bI]
      · have : ¬ 7 - f / 8 = 6 := by omega
        simp [q, g, n1, p, this, bI]
  · simp [q, bI]
theorem lsQ_app (z : Pz) (p : Nat → Bool) (a b : List Nat) : lsQ z p (a ++ b) = lsQ z p a ++ lsQ z p b := List.flatMap_append
theorem flatMap_clen {A B : Type} {g : A → List B} {n : Nat} : ∀ {l : List A}, (∀ a ∈ l, (g a).length = n) → (l.flatMap g).length = l.length * n
  | [], _ => by simp
  | a :: l, h => by
    rw [List.flatMap_cons, List.length_append, List.length_cons, flatMap_clen (fun b hb => h b (List.mem_cons_of_mem _ hb)), h a List.mem_cons_self, Nat.add_mul]
    omega
theorem drop_snoc {A : Type} {l : List A} {i : Nat} (h : i < l.length) : l.take (i + 1) = l.take i ++ [l[i]] := by
  rw [List.take_succ]
  simp [h]
theorem count_l {z : Pz} (hi : inv z) {st : Nat → Int32} {go : Nat → Int64} (hsv : svP z (owL z) st go) : ∀ (d i n : Nat), i + d = (owL z).length → m_X2_count_l4 (nI (owL z).length) st go (nI z.2.1) z.1 (n + d + 1) (nI (lsQ z (fun _ => true) ((owL z).take i)).length) (nI i) = some (nI (lsP z (fun _ => true)).length) := by
  have hl := owL_len hi
  intro d
  induction d with
  | zero =>
    intro i n e
    have e : i = (owL z).length := by omega
    subst e
    rw [m_X2_count_l4_s]
    unfold m_X2_count_b4
    rw [if_pos (nI_le (Nat.le_refl _) (by omega)), List.take_length]
    rfl
  | succ d ih =>
    intro i n e
    have hil : i < (owL z).length := by omega
    obtain ⟨h1, h2⟩ := hsv i (owL z)[i] (by simp [hil])
    have hmem : (owL z)[i] ∈ owL z := List.getElem_mem hil
    have hf : (owL z)[i] < 64 := by
      unfold owL at hmem
      rw [List.mem_filter, List.mem_range] at hmem
      exact hmem.1
    have ih := ih (i + 1) n (by omega)
    rw [drop_snoc hil, lsQ_app, List.length_append] at ih
    rw [show n + (d + 1) + 1 = n + d + 1 + 1 from rfl, m_X2_count_l4_s, ← ih]
    unfold m_X2_count_b4 m_X2_count_b40
    rw [if_neg (nI_ge (by omega) (by omega)), oin_n (by omega) (by omega), nI_clamp (by omega), ob_s (bitCount_eq _), oin_n (by omega) (by omega), h1, ob_s (x2_becomes hi hf), bI_if, ol_r, ol_r, ol_r, ol_r, nI_1]
    have ec : cb (bt (go i)) 64 = (gtL z (fun _ => true) (owL z)[i]).length := by
      unfold gtL
      rw [filter_len]
      exact cb_cong (fun t ht => by rw [h2 t ht, Bool.and_true])
    have el : (lsQ z (fun _ => true) [(owL z)[i]]).length = cb (bt (go i)) 64 * (if baS z (owL z)[i] then 4 else 1) := by
      unfold lsQ
      rw [List.flatMap_cons, List.flatMap_nil, List.append_nil, flatMap_clen (n := (tbS z (owL z)[i]).length) (fun a _ => by simp), ec, tbS_len]
    rw [el]
    have m4 : nI (cb (bt (go i)) 64) * 4 = nI (cb (bt (go i)) 64 * 4) := pk_mul _ 4
    have m1 : nI (cb (bt (go i)) 64) * 1 = nI (cb (bt (go i)) 64 * 1) := pk_mul _ 1
    cases baS z (owL z)[i] with
    | true => simp only [if_true]; rw [m4, nI_add]
    | false => simp only [Bool.false_eq_true, if_false]; rw [m1, nI_add]
theorem x2_count {z : Pz} (hi : inv z) {st : Nat → Int32} {go : Nat → Int64} (hsv : svP z (owL z) st go) : m_X2_count (nI (owL z).length) st go (nI z.2.1) z.1 = some (nI (lmS z).length) := by
  have hl := owL_len hi
  have := count_l hi hsv (owL z).length 0 (kF - 1 - (owL z).length) (by omega)
  have e : kF - 1 - (owL z).length + (owL z).length + 1 = kF := by unfold kF; omega
  rw [e] at this
  rw [lmS_eq hi]
  unfold m_X2_count
  exact this
/-- a move as the class writes it -/
def enM (m : Mv) : Nat := m.1 + 64 * m.2.1 + 4096 * m.2.2
theorem nI_or {a b : Nat} (ha : a < 2 ^ 31) (hb : b < 2 ^ 31) : nI a ||| nI b = nI (a ||| b) := by
  apply Int32.toBitVec_inj.mp
  rw [Int32.toBitVec_or]
  apply BitVec.eq_of_toNat_eq
  rw [BitVec.toNat_or, pk_tn (by omega), pk_tn (by omega)]
  have : a ||| b < 2 ^ 31 := Nat.or_lt_two_pow ha hb
  rw [pk_tn (by omega)]
theorem x9_moveOf {f t u : Nat} (hf : f < 64) (ht : t < 64) (hu : u ≤ 5) : m_X9_moveOf (nI f) (nI t) (nI u) = some (nI (enM (f, t, u))) := by
  unfold m_X9_moveOf enM
  have e1 : nI t <<< ((6 : Int32) &&& 31) = nI (t * 2 ^ 6) := pk_shlN _ 6 (by decide) (by omega)
  have e2 : nI u <<< ((12 : Int32) &&& 31) = nI (u * 2 ^ 12) := pk_shlN _ 12 (by decide) (by omega)
  rw [e1, e2, nI_or (by omega) (by omega)]
  have e3 : f ||| t * 2 ^ 6 = 64 * t + f := by
    have := Nat.two_pow_add_eq_or_of_lt (i := 6) (b := f) (by omega) t
    rw [Nat.or_comm, Nat.mul_comm t]
    rw [← this]
  rw [e3, nI_or (by omega) (by omega)]
  have e4 : (64 * t + f) ||| u * 2 ^ 12 = 4096 * u + (64 * t + f) := by
    have := Nat.two_pow_add_eq_or_of_lt (i := 12) (b := 64 * t + f) (by omega) u
    rw [Nat.or_comm, Nat.mul_comm u]
    rw [← this]
  rw [e4]
  have e5 : 4096 * u + (64 * t + f) = f + 64 * t + 4096 * u := by omega
  rw [e5]
/-- a row of the class holds l -/
def rwC (l : List Mv) (row : Nat → Int32) : Prop := ∀ i m, l[i]? = some m → row i = nI (enM m)
theorem rwC_add {l : List Mv} {row : Nat → Int32} (h : rwC l row) (m : Mv) : rwC (l ++ [m]) (upd row l.length (nI (enM m))) := by
  intro i m' e
  by_cases q : i < l.length
  · rw [List.getElem?_append_left q] at e
    rw [pk_un (by omega)]
    exact h i m' e
  · rw [List.getElem?_append_right (by omega)] at e
    have : i = l.length := by
      by_cases g : i - l.length = 0
      · omega
      · rw [List.getElem?_eq_none (by simp; omega)] at e
        cases e
    subst this
    rw [Nat.sub_self] at e
    have : m = m' := by simpa using e
    subst this
    exact pk_us
theorem list_l99 {st : Nat → Int32} {go : Nat → Int64} (k6 : (Nat → Int32) → Int64 → Int32 → Int32 → Option (Int32 × (Nat → Int32))) (k74 : (Nat → Int32) → Int64 → Int32 → Int32 → Int32 → Int32 → Int32 → Int64 → Int32 → Option (Int32 × (Nat → Int32))) (vs vm : Int32) (bd : Nat → Int32) {f t hi : Nat} (hf : f < 64) (ht : t < 64) (hh : hi ≤ 5) (x3 x11 : Int64) (x6 x9 x13 : Int32) : ∀ (d u n : Nat) (l : List Mv) (row : Nat → Int32), u + d = hi + 1 → rwC l row → l.length + d ≤ 432 → ∃ row', m_X2_list_l99 k6 k74 vs st go vm bd (n + d + 1) row x3 (nI l.length) x6 (nI f) x9 (nI hi) x11 x13 (nI t) (nI u) = k74 row' x3 (nI (l.length + d)) x6 (nI f) x9 (nI hi) x11 (x13 + (-1)) ∧ rwC (l ++ (List.range' u d).map (fun u => (f, t, u))) row' := by
  intro d
  induction d with
  | zero =>
    intro u n l row e h hl
    refine ⟨row, ?_, by simpa using h⟩
    rw [m_X2_list_l99_s]
    unfold m_X2_list_b99 m_X2_list_b135
    rw [if_pos (nI_lt (by omega) (by omega)), ol_r]
    rfl
  | succ d ih =>
    intro u n l row e h hl
    obtain ⟨row', i1, i2⟩ := ih (u + 1) n (l ++ [(f, t, u)]) _ (by omega) (rwC_add h (f, t, u)) (by rw [List.length_append, List.length_singleton]; omega)
    refine ⟨row', ?_, by rw [List.range'_succ]; simpa using i2⟩
    rw [List.length_append, List.length_singleton] at i1
    rw [show l.length + (d + 1) = l.length + 1 + d by omega, ← i1]
    rw [show n + (d + 1) + 1 = n + d + 1 + 1 from rfl, m_X2_list_l99_s]
    unfold m_X2_list_b99
    have h432 : ¬ (432 : Int32) ≤ nI l.length := nI_ge (b := 432) (by omega) (by omega)
    rw [if_neg (nI_nlt (by omega) (by omega)), if_neg h432, ob_s (x9_moveOf hf ht (by omega)), oin_n (by omega) (by omega), nI_clamp (by omega), ol_r, ol_r, ol_r, nI_1, nI_1]
theorem list_l74 {st : Nat → Int32} {go : Nat → Int64} (k6 : (Nat → Int32) → Int64 → Int32 → Int32 → Option (Int32 × (Nat → Int32))) (vs vm : Int32) (bd : Nat → Int32) {f lo hi : Nat} (hf : f < 64) (hlo : lo ≤ hi) (hh : hi ≤ 5) (x3 : Int64) (i : Nat) : ∀ (d n : Nat) (left : Int64) (l : List Mv) (row : Nat → Int32), cb (bt left) 64 = d → rwC l row → l.length + ((biL left).flatMap (fun t => (List.range' lo (hi + 1 - lo)).map (fun u => (f, t, u)))).length ≤ 432 → ∃ row', m_X2_list_l74 k6 vs st go vm bd (n + d + 1) row x3 (nI l.length) (nI i) (nI f) (nI lo) (nI hi) left (nI d) = k6 row' x3 (nI (l ++ (biL left).flatMap (fun t => (List.range' lo (hi + 1 - lo)).map (fun u => (f, t, u)))).length) (nI (i + 1)) ∧ rwC (l ++ (biL left).flatMap (fun t => (List.range' lo (hi + 1 - lo)).map (fun u => (f, t, u)))) row' := by
  intro d
  induction d with
  | zero =>
    intro n left l row e h hl
    rw [biL_nil e, List.flatMap_nil, List.append_nil]
    refine ⟨row, ?_, h⟩
    rw [m_X2_list_l74_s]
    unfold m_X2_list_b74
    rw [if_pos (by decide), ol_r, nI_1]
  | succ d ih =>
    intro n left l row e h hl
    obtain ⟨a, ha⟩ := leastB_ex (ne0_cb e)
    have hd := cb_drop_least ha
    have h64 := cb_le (bt left) 64
    rw [biL_cons ha, List.flatMap_cons] at hl ⊢
    rw [List.length_append, List.length_map, List.length_range'] at hl
    obtain ⟨row1, j1, j2⟩ := list_l99 (st := st) (go := go) k6 (m_X2_list_l74 k6 vs st go vm bd (n + d + 1)) vs vm bd hf ha.1 hh x3 (left &&& (left - 1)) (nI i) (nI lo) (nI (d + 1)) (hi + 1 - lo) lo (kF - 1 - (hi + 1 - lo)) l row (by omega) h (by omega)
    have e1 : kF - 1 - (hi + 1 - lo) + (hi + 1 - lo) + 1 = kF := by unfold kF; omega
    rw [e1, nI_m1'] at j1
    obtain ⟨row2, i1, i2⟩ := ih n (left &&& (left - 1)) (l ++ (List.range' lo (hi + 1 - lo)).map (fun u => (f, a, u))) row1 (by omega) j2 (by
      rw [List.length_append, List.length_map, List.length_range']
      omega)
    refine ⟨row2, ?_, by rw [← List.append_assoc]; exact i2⟩
    rw [← List.append_assoc, ← i1, List.length_append, List.length_map, List.length_range', ← j1]
    rw [show n + (d + 1) + 1 = n + d + 1 + 1 from rfl, m_X2_list_l74_s]
    unfold m_X2_list_b74
    rw [if_neg (nI_nle (by omega) (by omega)), ob_s (leastOf_eq ha), ol_r]
theorem list_l6 {z : Pz} (hi : inv z) {st : Nat → Int32} {go : Nat → Int64} (hsv : svP z (owL z) st go) (set : Int64) (l0 : List Mv) : ∀ (d i n : Nat) (row : Nat → Int32), i + d = (owL z).length → rwC (l0 ++ lsQ z (bt set) ((owL z).take i)) row → (l0 ++ lsP z (bt set)).length ≤ 432 → ∃ row', m_X2_list_l6 (nI (owL z).length) st go (nI z.2.1) z.1 (n + d + 1) row set (nI (l0 ++ lsQ z (bt set) ((owL z).take i)).length) (nI i) = some (nI (l0 ++ lsP z (bt set)).length, row') ∧ rwC (l0 ++ lsP z (bt set)) row' := by
  have hl := owL_len hi
  intro d
  induction d with
  | zero =>
    intro i n row e h hb
    have e : i = (owL z).length := by omega
    subst e
    rw [List.take_length] at h ⊢
    refine ⟨row, ?_, h⟩
    rw [m_X2_list_l6_s]
    unfold m_X2_list_b6
    rw [if_pos (nI_le (Nat.le_refl _) (by omega))]
    rfl
  | succ d ih =>
    intro i n row e h hb
    have hil : i < (owL z).length := by omega
    obtain ⟨h1, h2⟩ := hsv i (owL z)[i] (by simp [hil])
    have hmem : (owL z)[i] ∈ owL z := List.getElem_mem hil
    have hf : (owL z)[i] < 64 := by
      unfold owL at hmem
      rw [List.mem_filter, List.mem_range] at hmem
      exact hmem.1
    have ets := drop_snoc hil
    generalize (owL z)[i] = f at *
    have ebi : biL (go i &&& set) = gtL z (bt set) f := by
      unfold biL gtL
      apply List.filter_congr
      intro t ht
      rw [List.mem_range] at ht
      rw [bt_and, h2 t ht]
    have eone : lsQ z (bt set) [f] = (biL (go i &&& set)).flatMap (fun t => (List.range' (loS z f) (hiS z f + 1 - loS z f)).map (fun u => (f, t, u))) := by
      unfold lsQ
      rw [List.flatMap_cons, List.flatMap_nil, List.append_nil, ebi]
      rfl
    have hlo : loS z f ≤ hiS z f ∧ hiS z f ≤ 5 := by
      unfold loS hiS
      split <;> omega
    have fits : (l0 ++ lsQ z (bt set) ((owL z).take i)).length + (lsQ z (bt set) [f]).length ≤ 432 := by
      have e1 : lsP z (bt set) = lsQ z (bt set) ((owL z).take i) ++ lsQ z (bt set) [f] ++ lsQ z (bt set) ((owL z).drop (i + 1)) := by
        rw [← lsQ_app, ← lsQ_app, ← ets, List.take_append_drop]
        rfl
      rw [e1] at hb
      simp only [List.length_append] at hb ⊢
      omega
    rw [eone] at fits
    obtain ⟨row1, j1, j2⟩ := list_l74 (st := st) (go := go) (m_X2_list_l6 (nI (owL z).length) st go (nI z.2.1) z.1 (n + d + 1)) (nI (owL z).length) (nI z.2.1) z.1 hf hlo.1 hlo.2 set i (cb (bt (go i &&& set)) 64) (kF - 1 - cb (bt (go i &&& set)) 64) (go i &&& set) (l0 ++ lsQ z (bt set) ((owL z).take i)) row rfl h fits
    have h64 := cb_le (bt (go i &&& set)) 64
    have e1 : kF - 1 - cb (bt (go i &&& set)) 64 + cb (bt (go i &&& set)) 64 + 1 = kF := by unfold kF; omega
    rw [e1, ← eone, List.append_assoc, ← lsQ_app, ← ets] at j1
    rw [← eone, List.append_assoc, ← lsQ_app, ← ets] at j2
    obtain ⟨row2, i1, i2⟩ := ih (i + 1) n row1 (by omega) j2 hb
    refine ⟨row2, ?_, i2⟩
    rw [← i1, ← j1]
    rw [show n + (d + 1) + 1 = n + d + 1 + 1 from rfl, m_X2_list_l6_s]
    unfold m_X2_list_b6 m_X2_list_b42 m_X2_list_b54
    rw [if_neg (nI_ge (by omega) (by omega)), oin_n (by omega) (by omega), nI_clamp (by omega), ol_r, h1, ob_s (x2_becomes hi hf)]
    simp only [oin_n (show i < 16 by omega) (show 16 < 2 ^ 31 by omega), ol_r, ob_s (bitCount_eq _)]
    unfold loS hiS
    cases baS z f <;> rfl
/-- the class lists the legal moves to the squares of a set -/
theorem x2_list {z : Pz} (hi : inv z) {st : Nat → Int32} {go : Nat → Int64} (hsv : svP z (owL z) st go) (set : Int64) {l0 : List Mv} {row : Nat → Int32} (h : rwC l0 row) (hb : (l0 ++ lsP z (bt set)).length ≤ 432) : ∃ row', m_X2_list (nI (owL z).length) st go row (nI z.2.1) z.1 (nI l0.length) set = some (nI (l0 ++ lsP z (bt set)).length, row') ∧ rwC (l0 ++ lsP z (bt set)) row' := by
  have hl := owL_len hi
  have e0 : l0 ++ lsQ z (bt set) ((owL z).take 0) = l0 := by
    rw [List.take_zero]
    exact List.append_nil _
  obtain ⟨row', i1, i2⟩ := list_l6 hi hsv set l0 (owL z).length 0 (kF - 1 - (owL z).length) row (by omega) (by rw [e0]; exact h) hb
  have e : kF - 1 - (owL z).length + (owL z).length + 1 = kF := by unfold kF; omega
  rw [e, e0] at i1
  exact ⟨row', i1, i2⟩
