/-! The list of legal moves; how long it can be. -/
theorem flatMap_if {A B : Type} (p : A → Bool) (g : A → List B) : ∀ l : List A, (l.flatMap fun a => if p a then g a else []) = (l.filter p).flatMap g
  | [] => rfl
  | a :: l => by
    rw [List.flatMap_cons, flatMap_if p g l, List.filter_cons]
    cases p a <;> simp
theorem flatMap_cong {A B : Type} {f g : A → List B} : ∀ {l : List A}, (∀ a ∈ l, f a = g a) → l.flatMap f = l.flatMap g
  | [], _ => rfl
  | a :: l, h => by
    rw [List.flatMap_cons, List.flatMap_cons, h a List.mem_cons_self, flatMap_cong (fun b hb => h b (List.mem_cons_of_mem _ hb))]
/-- a pawn one step from the end -/
def baS (z : Pz) (f : Nat) : Bool := decide (kd (z.1 f) = 1) && decide (rkS z.2.1 f = 6)
def loS (z : Pz) (f : Nat) : Nat := if baS z f then 2 else 0
def hiS (z : Pz) (f : Nat) : Nat := if baS z f then 5 else 0
def tbS (z : Pz) (f : Nat) : List Nat := List.range' (loS z f) (hiS z f + 1 - loS z f)
theorem rk_paw {c f t : Nat} (hc : c < 2) (hf : f < 64) (ht : t < 64) (h : pawB c f t = true) : rkS c t = rkS c f + 1 := by
  unfold pawB at h
  rw [Bool.and_eq_true] at h
  have h := h.2
  unfold rkS
  by_cases q : c = 0
  · rw [if_pos q, decide_eq_true_eq] at h
    rw [if_pos q, if_pos q]
    omega
  · rw [if_neg q, decide_eq_true_eq] at h
    rw [if_neg q, if_neg q]
    omega
theorem rk_up {c f : Nat} (hc : c < 2) (h1 : 8 ≤ f) (h2 : f < 56) : rkS c (upS c f) = rkS c f + 1 := by
  unfold rkS upS
  by_cases q : c = 0
  · simp only [if_pos q]
    omega
  · simp only [if_neg q]
    omega
theorem last_ba {z : Pz} (hi : inv z) {f t : Nat} (hf : f < 64) (ht : t < 64) (ho : msd (z.1 f) z.2.1 = true) (hg : goS z f t = true) : lastS z f t = baS z f := by
  unfold lastS baS
  by_cases h1 : kd (z.1 f) = 1
  · have hg := (pg_iff hi hf ht ho h1).mp hg
    obtain ⟨hb, hc, hr, hpp, hKK, h16, hR, hPw, hN, hE⟩ := hi
    obtain ⟨g1, g2⟩ := hPw f hf h1
    congr 1
    apply decide_eq_decide.mpr
    rcases hg with (⟨a, _⟩ | ⟨a, _⟩ | ⟨a, b, _⟩) | ⟨a, _⟩
    · rw [rk_paw hc hf ht a]; omega
    · rw [a, rk_up hc g1 g2]; omega
    · rw [a, rk_up2 hc hf b]; omega
    · rw [rk_paw hc hf ht a]; omega
  · simp [h1]
theorem tuS_eq {z : Pz} (hi : inv z) {f t : Nat} (hf : f < 64) (ht : t < 64) (ho : msd (z.1 f) z.2.1 = true) (hg : goS z f t = true) : tuS z f t = tbS z f := by
  unfold tuS tbS loS hiS
  rw [last_ba hi hf ht ho hg]
  cases baS z f <;> rfl
/-- safe, whatever the pawn becomes -/
theorem saf_u {z : Pz} (hi : inv z) {f t u : Nat} (hf : f < 64) (ht : t < 64) (ho : msd (z.1 f) z.2.1 = true) (hg : goS z f t = true) (hu : u ∈ tuS z f t) : safS z.1 f t u z.2.1 = safS z.1 f t 0 z.2.1 := by
  have hu5 := tuS_le hu
  unfold tuS at hu
  cases hL : lastS z f t with
  | false =>
    rw [hL] at hu
    have : u = 0 := by simpa using hu
    rw [this]
  | true =>
    unfold lastS at hL
    rw [Bool.and_eq_true, decide_eq_true_eq, decide_eq_true_eq] at hL
    have hg2 := (pg_iff hi hf ht ho hL.1).mp hg
    have hi2 := hi
    obtain ⟨hb, hc, hr, hpp, hKK, h16, hR, hPw, hN, hE⟩ := hi
    obtain ⟨k, hK⟩ := hKK z.2.1 hc
    have hm := hb.1 f hf
    have hpn : pnP z.1 z.2.1 f t := by
      rcases hg2 with h | ⟨_, _, h⟩
      · exact h
      · have := hE (by omega)
        rw [← h] at this
        omega
    have hps : pseP z.1 z.2.1 f t := by
      unfold pseP
      rw [if_pos hL.1]
      exact hpn
    obtain ⟨g1, g2⟩ := hPw f hf hL.1
    have pn : msd (z.1 t) z.2.1 = false ∧ epB z.1 f t = false := by
      rcases hpn with ⟨a, b⟩ | ⟨a, b⟩ | ⟨a, b, d, e⟩
      · have hno := msd_two (c := 1 - z.2.1) (by omega) b
        rw [show 1 - (1 - z.2.1) = z.2.1 by omega] at hno
        refine ⟨hno, ?_⟩
        unfold epB
        have : z.1 t ≠ 0 := occ_t.mp (msd_occ b)
        simp [this]
      · refine ⟨by rw [b]; exact msd_0, ?_⟩
        unfold epB
        have : f % 8 = t % 8 := by
          rw [a]
          unfold upS
          split <;> omega
        simp [this]
      · rw [a, rk_up2 hc hf b] at hL
        omega
    have h6 : kd (z.1 f) ≠ 6 := by omega
    have hp := pth_of hK.1 hf (pse_line hm hc hf ht h6 (hPw f hf) hps)
    apply bool_iff
    rw [saf_plain hb hc hK hf ht hu5 ho h6 pn.1 pn.2 hp, saf_plain hb hc hK hf ht (by omega) ho h6 pn.1 pn.2 hp]
theorem onS_eq {z : Pz} (hi : inv z) {f t : Nat} (hf : f < 64) (ht : t < 64) (ho : msd (z.1 f) z.2.1 = true) : onS z f t = if leS z f t then (tbS z f).map (fun u => (f, t, u)) else [] := by
  unfold onS leS
  cases hg : goS z f t with
  | false => simp
  | true =>
    simp only [if_true, Bool.true_and]
    rw [← tuS_eq hi hf ht ho hg]
    have : (tuS z f t).filter (fun u => safS z.1 f t u z.2.1) = (tuS z f t).filter (fun _ => safS z.1 f t 0 z.2.1) := List.filter_congr (fun u hu => saf_u hi hf ht ho hg hu)
    rw [this]
    cases safS z.1 f t 0 z.2.1 with
    | false => simp
    | true =>
      rw [List.filter_eq_self.mpr (fun _ _ => rfl)]
      rfl
/-- the squares of the men of the side to move -/
def owL (z : Pz) : List Nat := (List.range 64).filter (fun f => msd (z.1 f) z.2.1)
def gtL (z : Pz) (p : Nat → Bool) (f : Nat) : List Nat := (List.range 64).filter (fun t => leS z f t && p t)
/-- the legal moves to squares with p -/
def lsP (z : Pz) (p : Nat → Bool) : List Mv := (owL z).flatMap (fun f => (gtL z p f).flatMap (fun t => (tbS z f).map (fun u => (f, t, u))))
theorem lmS_eq {z : Pz} (hi : inv z) : lmS z = lsP z (fun _ => true) := by
  unfold lmS lsP owL gtL
  rw [← List.range_eq_range', ← flatMap_if]
  apply flatMap_cong
  intro f hf
  rw [List.mem_range] at hf
  unfold frS
  cases ho : msd (z.1 f) z.2.1 with
  | false => simp
  | true =>
    simp only [if_true]
    rw [← List.range_eq_range', ← flatMap_if]
    apply flatMap_cong
    intro t ht
    rw [List.mem_range] at ht
    rw [onS_eq hi hf ht ho, Bool.and_true]
theorem filter_len (p : Nat → Bool) : ∀ n, ((List.range n).filter p).length = cb p n
  | 0 => rfl
  | n + 1 => by
    rw [List.range_succ, List.filter_append, List.length_append, filter_len p n, cb_s]
    cases h : p n <;> simp [h, b2n]
theorem flatMap_len {A B : Type} {g : A → List B} {n : Nat} : ∀ {l : List A}, (∀ a ∈ l, (g a).length ≤ n) → (l.flatMap g).length ≤ n * l.length
  | [], _ => by simp
  | a :: l, h => by
    rw [List.flatMap_cons, List.length_append, List.length_cons, Nat.mul_add]
    have h1 := h a List.mem_cons_self
    have h2 := flatMap_len (g := g) (n := n) (l := l) (fun b hb => h b (List.mem_cons_of_mem _ hb))
    omega
theorem cb_imp {p q : Nat → Bool} : ∀ {n : Nat}, (∀ i, i < n → p i = true → q i = true) → cb p n ≤ cb q n
  | 0, _ => Nat.le_refl _
  | n + 1, h => by
    rw [cb_s, cb_s]
    have := cb_imp (p := p) (q := q) (n := n) (fun i hi => h i (by omega))
    have h2 := h n (by omega)
    cases hp : p n with
    | false => simp [b2n]; omega
    | true => rw [h2 hp]; omega
set_option maxRecDepth 100000 in
theorem q27_tb : (List.range 64).all (fun f => Nat.ble (cb (fun t => strB f t || slaB f t) 64) 27 && Nat.ble (cb (fun t => kniB f t) 64) 27) = true := by decide +kernel
set_option maxRecDepth 100000 in
theorem p4_tb : (List.range 2).all (fun c => (List.range 64).all (fun f => Nat.ble (cb (fun t => pawB c f t || (t == upS c f) || (t == upS c (upS c f))) 64) 6)) = true := by decide +kernel
theorem kin_line {f t : Nat} (h : kinB f t = true) : (strB f t || slaB f t) = true := by
  rw [kinB_eq] at h
  unfold strB slaB
  generalize absD (f / 8) (t / 8) = a at *
  generalize absD (f % 8) (t % 8) = b at *
  simp only [Bool.and_eq_true, decide_eq_true_eq] at h
  have ha : a = 0 ∨ a = 1 := by omega
  have hb : b = 0 ∨ b = 1 := by omega
  rcases ha with q | q <;> rcases hb with r | r <;> subst q <;> subst r <;> simp at h ⊢
theorem tbS_len (z : Pz) (f : Nat) : (tbS z f).length = if baS z f then 4 else 1 := by
  unfold tbS loS hiS
  cases baS z f <;> rfl
/-- no man has more than 27 moves -/
theorem man27 {z : Pz} (hi : inv z) {f : Nat} (hf : f < 64) (ho : msd (z.1 f) z.2.1 = true) (p : Nat → Bool) : ((gtL z p f).flatMap (fun t => (tbS z f).map (fun u => (f, t, u)))).length ≤ 27 := by
  have hc := hi.2.1
  have hm := hi.1.1 f hf
  have L := flatMap_len (g := fun t => (tbS z f).map (fun u => (f, t, u))) (n := (tbS z f).length) (l := gtL z p f) (fun a _ => by simp)
  unfold gtL at L
  rw [filter_len] at L
  have t27 := all_lt q27_tb hf
  rw [Bool.and_eq_true] at t27
  have k1 : cb (fun t => leS z f t && p t) 64 ≤ cb (fun t => goS z f t) 64 := cb_imp (fun i _ h => by
    unfold leS at h
    simp only [Bool.and_eq_true] at h
    exact h.1.1)
  by_cases h1 : kd (z.1 f) = 1
  · have k2 : cb (fun t => goS z f t) 64 ≤ 6 := by
      refine Nat.le_trans (cb_imp (q := fun t => pawB z.2.1 f t || (t == upS z.2.1 f) || (t == upS z.2.1 (upS z.2.1 f))) (fun t ht h => ?_)) (Nat.le_of_ble_eq_true (all_lt (all_lt p4_tb hc) hf))
      rcases (pg_iff hi hf ht ho h1).mp h with (⟨a, _⟩ | ⟨a, _⟩ | ⟨a, _⟩) | ⟨a, _⟩
      · simp [a]
      · simp [a]
      · simp [a]
      · simp [a]
    have : (tbS z f).length ≤ 4 := by
      rw [tbS_len]
      split <;> omega
    have := Nat.mul_le_mul this (Nat.le_trans k1 k2)
    unfold gtL
    omega
  · have e1 : (tbS z f).length = 1 := by
      rw [tbS_len]
      unfold baS
      simp [h1]
    rw [e1, Nat.one_mul] at L
    have k2 : cb (fun t => goS z f t) 64 ≤ 27 := by
      by_cases h2 : kd (z.1 f) = 2
      · refine Nat.le_trans (cb_imp (q := fun t => kniB f t) (fun t ht h => ?_)) (Nat.le_of_ble_eq_true t27.2)
        unfold goS at h
        rw [if_neg h1, if_neg (by omega), Bool.and_eq_true] at h
        have h := h.2
        unfold reachS at h
        simp only [h2] at h
        exact h
      · refine Nat.le_trans (cb_imp (q := fun t => strB f t || slaB f t) (fun t ht h => ?_)) (Nat.le_of_ble_eq_true t27.1)
        unfold goS at h
        rw [if_neg h1, Bool.and_eq_true] at h
        have h := h.2
        by_cases h6 : kd (z.1 f) = 6
        · rw [if_pos h6, Bool.or_eq_true] at h
          rcases h with h | h
          · unfold reachS at h
            simp only [h6] at h
            exact kin_line h
          · unfold klS at h
            simp only [Bool.and_eq_true, decide_eq_true_eq] at h
            have e1 := h.1.1.1.1.1.1
            have e2 := h.1.1.1.1.1.2
            have : absD (f % 8) (t % 8) = 2 := by
              unfold absD at *
              split at e2 <;> split <;> omega
            unfold strB
            have z0 : absD (f / 8) (t / 8) = 0 := by
              rw [e1]
              unfold absD
              split <;> omega
            simp [this, z0]
        · rw [if_neg h6] at h
          unfold reachS at h
          rw [if_neg h1, if_neg h2] at h
          by_cases h3 : kd (z.1 f) = 3
          · rw [if_pos h3, Bool.and_eq_true] at h
            simp [h.1]
          · rw [if_neg h3] at h
            by_cases h4 : kd (z.1 f) = 4
            · rw [if_pos h4, Bool.and_eq_true] at h
              simp [h.1]
            · rw [if_neg h4] at h
              by_cases h5 : kd (z.1 f) = 5
              · rw [if_pos h5, Bool.and_eq_true] at h
                exact h.1
              · rw [if_neg h5, if_neg h6] at h
                cases h
    unfold gtL
    omega
theorem lsP_len {z : Pz} (hi : inv z) (p : Nat → Bool) : (lsP z p).length ≤ 432 := by
  unfold lsP
  have h16 := hi.2.2.2.2.2.1 z.2.1 hi.2.1
  have L := flatMap_len (g := fun f => (gtL z p f).flatMap (fun t => (tbS z f).map (fun u => (f, t, u)))) (n := 27) (l := owL z) (fun f hf => by
    unfold owL at hf
    rw [List.mem_filter, List.mem_range] at hf
    exact man27 hi hf.1 hf.2 p)
  have : (owL z).length ≤ 16 := by
    unfold owL
    rw [filter_len]
    exact h16
  omega
theorem lmS_len {z : Pz} (hi : inv z) : (lmS z).length ≤ 432 := by
  rw [lmS_eq hi]
  exact lsP_len hi _
