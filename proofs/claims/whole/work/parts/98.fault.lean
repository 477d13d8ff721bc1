/-! Both find the same fault in a position that was read. -/
def mcB (bd : Nat → Int32) (c : Nat) (king : Bool) (s : Nat) : Bool := msd (bd s) c && (!king || decide (kd (bd s) = 6))
def mcN (bd : Nat → Int32) (c : Nat) (king : Bool) : Nat := cb (mcB bd c king) 64
theorem men_l {bd : Nat → Int32} (hb : gbd bd) {c : Nat} (hc : c < 2) (king : Bool) : ∀ (f n d : Nat), d + f = 64 → m_X10_men_l5 bd (n + f + 1) (nI c) (bI king) (nI (cb (mcB bd c king) d)) (nI d) = some (nI (mcN bd c king)) := by
  intro f
  induction f with
  | zero =>
    intro n d hd
    have : d = 64 := by omega
    subst this
    rw [m_X10_men_l5_s]
    unfold m_X10_men_b5
    rw [if_pos (by decide)]
    rfl
  | succ f ih =>
    intro n d hd
    have ih' := ih n (d + 1) (by omega)
    rw [cb_s] at ih'
    rw [show n + (f + 1) + 1 = n + f + 1 + 1 from rfl, m_X10_men_l5_s]
    unfold m_X10_men_b5 m_X10_men_b45 m_X10_men_b51 m_X10_men_b52
    rw [if_neg (show ¬ (64 : Int32) ≤ nI d from nI_ge (b := 64) (by omega) (by omega)), oin_n (by omega) (by omega), nI_clamp (by omega), ob_s (x10_isSide (hb.1 d (by omega)) hc), oin_n (by omega) (by omega), ob_s (x10_kindOf (hb.1 d (by omega)))]
    simp only [ol_r, nI_1, bI_if]
    have e6 : nI (kd (bd d)) = 6 ↔ kd (bd d) = 6 := nI_eq (b := 6) (by have := kd_le (hb.1 d (by omega)); omega) (by omega)
    cases h1 : msd (bd d) c with
    | false =>
      have : mcB bd c king d = false := by unfold mcB; rw [h1]; rfl
      rw [this] at ih'
      exact ih'
    | true =>
      cases king with
      | false =>
        have : mcB bd c false d = true := by unfold mcB; rw [h1]; rfl
        rw [this] at ih'
        exact ih'
      | true =>
        by_cases g : kd (bd d) = 6
        · have : mcB bd c true d = true := by unfold mcB; rw [h1, decide_eq_true g]; rfl
          rw [this] at ih'
          simp only [e6.mpr g, if_true]
          exact ih'
        · have : mcB bd c true d = false := by unfold mcB; rw [h1, decide_eq_false g]; rfl
          rw [this] at ih'
          have e6' : ¬ nI (kd (bd d)) = 6 := fun w => g (e6.mp w)
          simp only [e6', if_true, if_false]
          exact ih'
theorem x10_men {bd : Nat → Int32} (hb : gbd bd) {c : Nat} (hc : c < 2) (king : Bool) : m_X10_men bd (nI c) (bI king) = some (nI (mcN bd c king)) := men_l hb hc king 64 (kF - 65) 0 (by omega)
theorem mcN_le (bd : Nat → Int32) (c : Nat) (king : Bool) : mcN bd c king ≤ 64 := cb_le _ _
/-- a pawn on an end row -/
def egQ (bd : Nat → Int32) (s : Nat) : Bool := decide (kd (bd s) = 1) && (decide (s < 8) || decide (56 ≤ s))
theorem edge_l {bd : Nat → Int32} (hb : gbd bd) : ∀ (f n d : Nat), d + f = 64 → m_X10_isEdgePawn_l4 bd (n + f + 1) (bI (anyB (egQ bd) d)) (nI d) = some (bI (anyB (egQ bd) 64)) := by
  intro f
  induction f with
  | zero =>
    intro n d hd
    have : d = 64 := by omega
    subst this
    rw [m_X10_isEdgePawn_l4_s]
    unfold m_X10_isEdgePawn_b4
    rw [if_pos (by decide), obl_b]
  | succ f ih =>
    intro n d hd
    have ih' := ih n (d + 1) (by omega)
    have ea : anyB (egQ bd) (d + 1) = (anyB (egQ bd) d || egQ bd d) := rfl
    rw [ea] at ih'
    rw [show n + (f + 1) + 1 = n + f + 1 + 1 from rfl, m_X10_isEdgePawn_l4_s]
    unfold m_X10_isEdgePawn_b4 m_X10_isEdgePawn_b39 m_X10_isEdgePawn_b43 m_X10_isEdgePawn_b44
    rw [if_neg (show ¬ (64 : Int32) ≤ nI d from nI_ge (b := 64) (by omega) (by omega)), oin_n (by omega) (by omega), nI_clamp (by omega), ob_s (x10_kindOf (hb.1 d (by omega)))]
    simp only [ol_r, nI_1, bI_if]
    have e1 : nI (kd (bd d)) = 1 ↔ kd (bd d) = 1 := nI_eq (b := 1) (by have := kd_le (hb.1 d (by omega)); omega) (by omega)
    have c1 : nI d < 8 ↔ d < 8 := nI_ltI (b := 8) (by omega) (by omega)
    have c2 : nI d ≤ 55 ↔ d ≤ 55 := nI_leI (b := 55) (by omega) (by omega)
    simp only [e1, c1, c2]
    cases h1 : anyB (egQ bd) d with
    | true =>
      rw [h1] at ih'
      exact ih'
    | false =>
      rw [h1, Bool.false_or] at ih'
      simp only [Bool.false_eq_true, if_false]
      by_cases g : kd (bd d) = 1
      · simp only [g, if_true]
        by_cases w : d < 8
        · have : egQ bd d = true := by unfold egQ; rw [decide_eq_true g, decide_eq_true w]; rfl
          rw [this] at ih'
          rw [if_pos w]
          exact ih'
        · rw [if_neg w]
          by_cases y : d ≤ 55
          · have : egQ bd d = false := by unfold egQ; rw [decide_eq_true g, decide_eq_false w, decide_eq_false (show ¬ 56 ≤ d by omega)]; rfl
            rw [this] at ih'
            rw [if_pos y]
            exact ih'
          · have : egQ bd d = true := by unfold egQ; rw [decide_eq_true g, decide_eq_false w, decide_eq_true (show 56 ≤ d by omega)]; rfl
            rw [this] at ih'
            rw [if_neg y]
            exact ih'
      · have : egQ bd d = false := by unfold egQ; rw [decide_eq_false g]; rfl
        rw [this] at ih'
        rw [if_neg g]
        exact ih'
theorem x10_isEdgePawn {bd : Nat → Int32} (hb : gbd bd) : m_X10_isEdgePawn bd = some (bI (anyB (egQ bd) 64)) := edge_l hb 64 (kF - 65) 0 (by omega)
/-- a right is right -/
def rqB (bd : Nat → Int32) (r c : Nat) (sh : Bool) : Bool := !(rtB r c sh) || (decide (bd (56 * c + 4) = kmn c) && decide (bd (56 * c + if sh then 7 else 0) = rkm c))
theorem rkb_tb : (List.range 16).all (fun r => (List.range 4).all (fun k => decide (((nI r >>> (nI k &&& 31)) &&& 1) = 0) == !(rtB r (k / 2) (decide (k % 2 = 0))))) = true := by decide +kernel
theorem rkb_all {r k : Nat} (hr : r < 16) (hk : k < 4) : ((nI r >>> (nI k &&& 31)) &&& 1) = 0 ↔ rtB r (k / 2) (decide (k % 2 = 0)) = false := by
  have := all_lt (all_lt rkb_tb (i := r) hr) (i := k) hk
  rw [beq_iff_eq] at this
  constructor
  · intro g
    rw [decide_eq_true g] at this
    cases e : rtB r (k / 2) (decide (k % 2 = 0)) with
    | true => rw [e] at this; cases this
    | false => rfl
  · intro g
    rw [g] at this
    exact of_decide_eq_true this
theorem ar_b67 {bd : Nat → Int32} {r c k : Nat} {sh b : Bool} (hc : c < 2) (hrt : ((nI r >>> (nI k &&& 31)) &&& 1) = 0 ↔ rtB r c sh = false) (kk : Int32 → Int32 → Option Int32) (x3 t1 t2 : Int32) (h3 : x3 * 4 = rkm c) (h4 : t1 + t2 = nI (56 * c + if sh then 7 else 0)) (hK : bd (56 * c + 4) = kmn c) : m_X10_areRights_b67 kk (nI r) bd (bI b) (nI k) x3 t1 t2 = kk (bI (b && rqB bd r c sh)) (nI (k + 1)) := by
  unfold m_X10_areRights_b67 m_X10_areRights_b79 m_X10_areRights_b80 m_X10_areRights_b102 m_X10_areRights_b106 m_X10_areRights_b107 rqB
  rw [h4, oin_n (by cases sh <;> simp <;> omega) (by omega), nI_clamp (by cases sh <;> simp <;> omega), h3]
  simp only [ol_r, nI_1, bI_if, hrt, decide_eq_true hK, Bool.true_and]
  cases b with
  | false => simp only [Bool.false_and, Bool.false_eq_true, if_false]; exact ite_self _
  | true =>
    simp only [Bool.true_and, if_true]
    cases hr : rtB r c sh with
    | false =>
      simp only [if_true, Bool.not_false, Bool.true_or]
      exact ite_self _
    | true =>
      simp only [Bool.not_true, Bool.false_or, Bool.true_eq_false, if_false]
      by_cases g : bd (56 * c + if sh then 7 else 0) = rkm c
      · rw [if_pos g, decide_eq_true g]; rfl
      · rw [if_neg g, decide_eq_false g]; rfl
theorem ar_b31 {bd : Nat → Int32} {r c k : Nat} {sh b : Bool} (hc : c < 2) (hrt : ((nI r >>> (nI k &&& 31)) &&& 1) = 0 ↔ rtB r c sh = false) (kk : Int32 → Int32 → Option Int32) (x3 t0 : Int32) (h6 : x3 * 6 = kmn c) (h3 : x3 * 4 = rkm c) (h4 : t0 = nI (56 * c)) (hsh : (nI k - nI k / 2 * 2) = 0 ↔ sh = true) : m_X10_areRights_b31 kk (nI r) bd (bI b) (nI k) x3 t0 = kk (bI (b && rqB bd r c sh)) (nI (k + 1)) := by
  have e4 : t0 + 4 = nI (56 * c + 4) := by rw [h4]; exact nI_add _ 4
  unfold m_X10_areRights_b31
  rw [e4, oin_n (by omega) (by omega), nI_clamp (by omega), h6]
  by_cases hK : bd (56 * c + 4) = kmn c
  · rw [if_pos hK]
    cases sh with
    | true =>
      rw [if_pos (hsh.mpr rfl)]
      exact ar_b67 hc hrt kk x3 t0 7 h3 (by rw [h4]; exact nI_add _ 7) hK
    | false =>
      rw [if_neg (fun w => by have := hsh.mp w; cases this)]
      exact ar_b67 hc hrt kk x3 t0 0 h3 (by rw [h4]; exact nI_add _ 0) hK
  · rw [if_neg hK]
    unfold m_X10_areRights_b79 m_X10_areRights_b80 m_X10_areRights_b102 m_X10_areRights_b106 m_X10_areRights_b107 rqB
    simp only [ol_r, nI_1, bI_if, hrt, decide_eq_false hK, Bool.false_and]
    cases b with
    | false => rfl
    | true =>
      cases hr : rtB r c sh with
      | false => rfl
      | true => rfl
def rgB (bd : Nat → Int32) (r : Nat) : Bool := true && rqB bd r 0 true && rqB bd r 0 false && rqB bd r 1 true && rqB bd r 1 false
theorem x10_areRights {bd : Nat → Int32} {r : Nat} (hr : r < 16) : m_X10_areRights (nI r) bd = some (bI (rgB bd r)) := by
  have e : kF = kF - 5 + 1 + 1 + 1 + 1 + 1 := by unfold kF; omega
  have s0 : ∀ (n : Nat) (b : Bool), m_X10_areRights_l4 (nI r) bd (n + 1) (bI b) (nI 0) = m_X10_areRights_l4 (nI r) bd n (bI (b && rqB bd r 0 true)) (nI 1) := by
    intro n b
    rw [m_X10_areRights_l4_s]
    unfold m_X10_areRights_b4 m_X10_areRights_b19
    rw [if_neg (by decide), if_neg (by decide), if_neg (by decide)]
    exact ar_b31 (c := 0) (by omega) (rkb_all hr (k := 0) (by omega)) _ 1 0 (by decide) (by decide) (by decide) (by decide)
  have s1 : ∀ (n : Nat) (b : Bool), m_X10_areRights_l4 (nI r) bd (n + 1) (bI b) (nI 1) = m_X10_areRights_l4 (nI r) bd n (bI (b && rqB bd r 0 false)) (nI 2) := by
    intro n b
    rw [m_X10_areRights_l4_s]
    unfold m_X10_areRights_b4 m_X10_areRights_b19
    rw [if_neg (by decide), if_neg (by decide), if_neg (by decide)]
    exact ar_b31 (c := 0) (by omega) (rkb_all hr (k := 1) (by omega)) _ 1 0 (by decide) (by decide) (by decide) (by decide)
  have s2 : ∀ (n : Nat) (b : Bool), m_X10_areRights_l4 (nI r) bd (n + 1) (bI b) (nI 2) = m_X10_areRights_l4 (nI r) bd n (bI (b && rqB bd r 1 true)) (nI 3) := by
    intro n b
    rw [m_X10_areRights_l4_s]
    unfold m_X10_areRights_b4 m_X10_areRights_b19
    rw [if_neg (by decide), if_pos (by decide), if_pos (by decide)]
    exact ar_b31 (c := 1) (by omega) (rkb_all hr (k := 2) (by omega)) _ (-1) 56 (by decide) (by decide) (by decide) (by decide)
  have s3 : ∀ (n : Nat) (b : Bool), m_X10_areRights_l4 (nI r) bd (n + 1) (bI b) (nI 3) = m_X10_areRights_l4 (nI r) bd n (bI (b && rqB bd r 1 false)) (nI 4) := by
    intro n b
    rw [m_X10_areRights_l4_s]
    unfold m_X10_areRights_b4 m_X10_areRights_b19
    rw [if_neg (by decide), if_pos (by decide), if_pos (by decide)]
    exact ar_b31 (c := 1) (by omega) (rkb_all hr (k := 3) (by omega)) _ (-1) 56 (by decide) (by decide) (by decide) (by decide)
  unfold m_X10_areRights
  rw [e]
  refine (s0 _ true).trans ?_
  rw [s1, s2, s3, m_X10_areRights_l4_s]
  unfold m_X10_areRights_b4
  rw [if_pos (by decide), obl_b]
  rfl
theorem rq3_tb : (List.range 16).all (fun r => (List.range 2).all (fun c => decide (((nI r >>> (((2 : Int32) * nI c) &&& 31)) &&& 3) = 0) == (!(rtB r c true) && !(rtB r c false)))) = true := by decide +kernel
theorem rq3 {r c : Nat} (hr : r < 16) (hc : c < 2) : ((nI r >>> (((2 : Int32) * nI c) &&& 31)) &&& 3) = 0 ↔ rtB r c true = false ∧ rtB r c false = false := by
  have := all_lt (all_lt rq3_tb (i := r) hr) (i := c) hc
  rw [beq_iff_eq] at this
  rw [← decide_eq_true_iff (p := _ = (0 : Int32)), this]
  simp
theorem x1_hasWrongRight {bd : Nat → Int32} {r c : Nat} (hr : r < 16) (hc : c < 2) : m_X1_hasWrongRight (nI r) bd (nI c) = some (bI (!(rqB bd r c true && rqB bd r c false))) := by
  obtain ⟨t1, t2⟩ := rtr_all hr hc
  have e3 : (56 : Int32) * nI c = nI (56 * c) := pk_mul 56 c
  have key : ∀ t : Int32, t * 6 = kmn c → t * 4 = rkm c → m_X1_hasWrongRight_b25 (nI r) bd ((nI r >>> (((2 : Int32) * nI c) &&& 31)) &&& 3) (nI (56 * c)) t = some (bI (!(rqB bd r c true && rqB bd r c false))) := by
    intro t h6 h4
    have u1 : (((nI r >>> (((2 : Int32) * nI c) &&& 31)) &&& 3) &&& 1) = 0 ↔ rtB r c true = false := by rw [Int32.and_assoc]; exact t1
    have u2 : (((nI r >>> (((2 : Int32) * nI c) &&& 31)) &&& 3) &&& 2) = 0 ↔ rtB r c false = false := by rw [Int32.and_assoc]; exact t2
    have u0 : ((nI r >>> (((2 : Int32) * nI c) &&& 31)) &&& 3) = 0 ↔ rtB r c true = false ∧ rtB r c false = false := rq3 hr hc
    have a4 : nI (56 * c) + 4 = nI (56 * c + 4) := nI_add _ 4
    have a7 : nI (56 * c) + 7 = nI (56 * c + 7) := nI_add _ 7
    unfold m_X1_hasWrongRight_b25 m_X1_hasWrongRight_b47 m_X1_hasWrongRight_b69 m_X1_hasWrongRight_b88 m_X1_hasWrongRight_b92 m_X1_hasWrongRight_b93 rqB
    rw [a4, a7, oin_n (by omega) (by omega), oin_n (by omega) (by omega), oin_n (by omega) (by omega), nI_clamp (by omega), nI_clamp (by omega), nI_clamp (by omega), h6, h4]
    simp only [u0, u1, u2, if_true, Bool.false_eq_true, if_false, Nat.add_zero]
    cases rtB r c true <;> cases rtB r c false <;> by_cases k1 : bd (56 * c + 4) = kmn c <;> by_cases k2 : bd (56 * c + 7) = rkm c <;> by_cases k3 : bd (56 * c) = rkm c <;> simp [k1, k2, k3, bI, obl_0, obl_1]
  unfold m_X1_hasWrongRight
  rw [ol_r, ol_r, e3]
  have : c = 0 ∨ c = 1 := by omega
  rcases this with q | q
  · subst q
    rw [if_pos (by decide)]
    exact key 1 (by decide) (by decide)
  · subst q
    rw [if_neg (by decide)]
    exact key (-1) (by decide) (by decide)
