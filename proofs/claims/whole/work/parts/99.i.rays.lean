/-! The table of ways. -/
set_option maxRecDepth 100000 in
theorem ray_tb : (List.range 64).all (fun s => (List.range 8).all (fun w => okO (m_X3_rayFrom (nI s) (nI w)) (fun L => (List.range 64).all (fun t => bt L t == rayB w s t)))) = true := by decide +kernel
theorem ray_at {s w : Nat} (hs : s < 64) (hw : w < 8) : ∃ L, m_X3_rayFrom (nI s) (nI w) = some L ∧ ∀ t, t < 64 → bt L t = rayB w s t := by
  obtain ⟨L, e, h⟩ := okO_e (all_lt (all_lt ray_tb (i := s) hs) (i := w) hw)
  exact ⟨L, e, fun t ht => beq_iff_eq.mp (all_lt h (i := t) ht)⟩
def RI (s w : Nat) (rays : Nat → Int64) : Prop := ∀ w' s', w' < 8 → s' < 64 → (s' < s ∨ (s' = s ∧ w' < w)) → ∀ t, t < 64 → bt (rays (w' * 64 + s')) t = rayB w' s' t
theorem init_l48 {q : (Nat → Int64) × (Nat → Int64) × (Nat → Int64) × (Nat → Int64)} {k40 : (Nat → Int64) → (Nat → Int64) → (Nat → Int64) → (Nat → Int64) → Int32 → Option ((Nat → Int64) × (Nat → Int64) × (Nat → Int64) × (Nat → Int64))} {s : Nat} (hs : s < 64) (hk : ∀ a b c d, RI (s + 1) 0 a → k40 a b c d (nI (s + 1)) = some q → RI 64 0 q.1) : ∀ (f n w : Nat) (a b c d : Nat → Int64), w + f = 8 → RI s w a → m_X3_init_l48 k40 (n + f + 1) a b c d (nI s) (nI w) = some q → RI 64 0 q.1 := by
  intro f
  induction f with
  | zero =>
    intro n w a b c d hw hR h
    have : w = 8 := by omega
    subst this
    rw [m_X3_init_l48_s] at h
    unfold m_X3_init_b48 at h
    rw [if_pos (by decide)] at h
    obtain ⟨r1, _, h⟩ := ob_e h
    obtain ⟨_, h⟩ := oin_e h
    rw [ol_r] at h
    obtain ⟨r2, _, h⟩ := ob_e h
    obtain ⟨_, h⟩ := oin_e h
    rw [ol_r] at h
    obtain ⟨r3, _, h⟩ := ob_e h
    obtain ⟨_, h⟩ := oin_e h
    rw [ol_r] at h
    obtain ⟨r4, _, h⟩ := ob_e h
    obtain ⟨_, h⟩ := oin_e h
    rw [ol_r, ol_r, nI_1] at h
    exact hk _ _ _ _ (fun w' s' h1 h2 h3 => hR w' s' h1 h2 (by omega)) h
  | succ f ih =>
    intro n w a b c d hw hR h
    obtain ⟨L, e, hL⟩ := ray_at hs (show w < 8 by omega)
    have ei : nI w * 64 + nI s = nI (w * 64 + s) := by
      have : nI w * 64 = nI (w * 64) := pk_mul w 64
      rw [this, nI_add]
    rw [show n + (f + 1) + 1 = n + f + 1 + 1 from rfl, m_X3_init_l48_s] at h
    unfold m_X3_init_b48 at h
    rw [if_neg (show ¬ (8 : Int32) ≤ nI w from nI_ge (b := 8) (by omega) (by omega)), ob_s e, ei, oin_n (by omega) (by omega), nI_clamp (by omega), ol_r, ol_r, nI_1] at h
    refine ih n (w + 1) _ b c d (by omega) (fun w' s' h1 h2 h3 t ht => ?_) h
    by_cases g : w' * 64 + s' = w * 64 + s
    · have e1 : w' = w := by omega
      have e2 : s' = s := by omega
      subst e1 e2
      rw [pk_uLs]
      exact hL t ht
    · rw [pk_uLn g]
      exact hR w' s' h1 h2 (by omega) t ht
theorem init_l40 {q : (Nat → Int64) × (Nat → Int64) × (Nat → Int64) × (Nat → Int64)} : ∀ (f n s : Nat) (a b c d : Nat → Int64), s + f = 64 → RI s 0 a → m_X3_init_l40 (n + f + 1) a b c d (nI s) = some q → RI 64 0 q.1 := by
  intro f
  induction f with
  | zero =>
    intro n s a b c d hs hR h
    have : s = 64 := by omega
    subst this
    rw [m_X3_init_l40_s] at h
    unfold m_X3_init_b40 at h
    rw [if_pos (by decide)] at h
    have := Option.some.inj h
    rw [← this]
    exact hR
  | succ f ih =>
    intro n s a b c d hs hR h
    rw [show n + (f + 1) + 1 = n + f + 1 + 1 from rfl, m_X3_init_l40_s] at h
    unfold m_X3_init_b40 at h
    rw [if_neg (show ¬ (64 : Int32) ≤ nI s from nI_ge (b := 64) (by omega) (by omega))] at h
    have e : kF = kF - 9 + 8 + 1 := by unfold kF; omega
    rw [e] at h
    exact init_l48 (by omega) (fun a b c d h1 h2 => ih n (s + 1) a b c d (by omega) h1 h2) 8 (kF - 9) 0 a b c d (by omega) hR h
theorem x3_tab : ∃ q : (Nat → Int64) × (Nat → Int64) × (Nat → Int64) × (Nat → Int64), m_X3_init (fun _ => 0) (fun _ => 0) (fun _ => 0) (fun _ => 0) = some q ∧ lnT q.1 q.2.1 q.2.2.1 q.2.2.2 := by
  obtain ⟨q, e1, h2⟩ := okO_e x3_ok
  have h1 : RI 64 0 q.1 := init_l40 64 (kF - 65) 0 (fun _ => 0) (fun _ => 0) (fun _ => 0) (fun _ => 0) (by omega) (fun w' s' _ _ h => by omega) e1
  refine ⟨q, e1, ⟨fun w s t hw hs ht => h1 w s hw hs (Or.inl hs) t ht, fun s t hs ht => ?_⟩⟩
  have := all_lt (all_lt h2 (i := s) hs) (i := t) ht
  simp only [Bool.and_eq_true, beq_iff_eq] at this
  exact ⟨this.1.1.1, this.1.1.2, this.1.2, this.2⟩
