/-! The start. -/
def row0 (i : Nat) : Int32 := ([4, 2, 3, 5, 6, 3, 2, 4] : List Int32).getD i 0
/-- the start with the first d columns set up -/
def stB (d s : Nat) : Int32 := if s % 8 < d ∧ s < 64 then (if s < 8 then row0 s else if s < 16 then 1 else if s < 48 then 0 else if s < 56 then -1 else -(row0 (s - 56))) else 0
theorem stB_up {d : Nat} (hd : d < 8) : upd (upd (upd (upd (stB d) d (row0 d)) (8 + d) 1) (48 + d) (-1)) (56 + d) (-(row0 d)) = stB (d + 1) := by
  funext s
  by_cases g : s < 64
  · by_cases q4 : s = 56 + d
    · subst q4
      rw [pk_us]
      unfold stB
      rw [if_pos (by omega), if_neg (by omega), if_neg (by omega), if_neg (by omega), if_neg (by omega), Nat.add_sub_cancel_left]
    rw [pk_un q4]
    by_cases q3 : s = 48 + d
    · subst q3
      rw [pk_us]
      unfold stB
      rw [if_pos (by omega), if_neg (by omega), if_neg (by omega), if_neg (by omega), if_pos (by omega)]
    rw [pk_un q3]
    by_cases q2 : s = 8 + d
    · subst q2
      rw [pk_us]
      unfold stB
      rw [if_pos (by omega), if_neg (by omega), if_pos (by omega)]
    rw [pk_un q2]
    by_cases q1 : s = d
    · subst q1
      rw [pk_us]
      unfold stB
      rw [if_pos (by omega), if_pos (by omega)]
    rw [pk_un q1]
    unfold stB
    by_cases w : s % 8 < d
    · rw [if_pos (show s % 8 < d ∧ s < 64 by omega), if_pos (show s % 8 < d + 1 ∧ s < 64 by omega)]
    · rw [if_neg (by omega)]
      by_cases w2 : s % 8 = d
      · rw [if_pos (by omega), if_neg (by omega), if_neg (by omega), if_pos (by omega)]
      · rw [if_neg (by omega)]
  · rw [pk_un (by omega), pk_un (by omega), pk_un (by omega), pk_un (by omega)]
    unfold stB
    rw [if_neg (by omega), if_neg (by omega)]
theorem row_ok : ∀ d, d < 8 → -6 ≤ (row0 d).toInt ∧ (row0 d).toInt ≤ 6 ∧ row0 d ≠ 0 ∧ -6 ≤ (-(row0 d)).toInt ∧ (-(row0 d)).toInt ≤ 6 ∧ -(row0 d) ≠ 0 := by decide
theorem stB_0 : stB 0 = zB := by
  funext s
  unfold stB
  rw [if_neg (by omega)]
  rfl
theorem rinit_l : ∀ (f n d : Nat) (v1 v2 : Int32), d + f = 8 → m_X10_init_l121 (n + f + 1) v1 v2 (stB d) (nI d) = some (15, 1, stB 8) := by
  intro f
  induction f with
  | zero =>
    intro n d v1 v2 hd
    have : d = 8 := by omega
    subst this
    rw [m_X10_init_l121_s]
    unfold m_X10_init_b121
    rw [if_pos (by decide)]
  | succ f ih =>
    intro n d v1 v2 hd
    have key : m_X10_init_b181 (m_X10_init_l121 (n + f + 1)) v1 v2 (stB d) (nI d) (row0 d) = some (15, 1, stB 8) := by
      have e1 : (8 : Int32) + nI d = nI (8 + d) := nI_add 8 d
      have e2 : (48 : Int32) + nI d = nI (48 + d) := nI_add 48 d
      have e3 : (56 : Int32) + nI d = nI (56 + d) := nI_add 56 d
      unfold m_X10_init_b181
      rw [e1, e2, e3, oin_n (by omega) (by omega), nI_clamp (by omega), ol_r, oin_n (by omega) (by omega), nI_clamp (by omega), ol_r, oin_n (by omega) (by omega), nI_clamp (by omega), ol_r, ol_r, oin_n (by omega) (by omega), nI_clamp (by omega), ol_r, ol_r, nI_1, stB_up (by omega)]
      exact ih n (d + 1) v1 v2 (by omega)
    rw [show n + (f + 1) + 1 = n + f + 1 + 1 from rfl, m_X10_init_l121_s]
    unfold m_X10_init_b121 m_X10_init_b137 m_X10_init_b152 m_X10_init_b166
    have : d = 0 ∨ d = 1 ∨ d = 2 ∨ d = 3 ∨ d = 4 ∨ d = 5 ∨ d = 6 ∨ d = 7 := by omega
    rcases this with q | q | q | q | q | q | q | q <;> subst q
    · rw [if_neg (by decide), if_pos (by decide)]; exact key
    · rw [if_neg (by decide), if_neg (by decide), if_neg (by decide), if_pos (by decide)]; exact key
    · rw [if_neg (by decide), if_neg (by decide), if_neg (by decide), if_neg (by decide), if_neg (by decide), if_pos (by decide)]; exact key
    · rw [if_neg (by decide), if_neg (by decide), if_neg (by decide), if_neg (by decide), if_neg (by decide), if_neg (by decide), if_neg (by decide), if_pos (by decide)]; exact key
    · rw [if_neg (by decide), if_neg (by decide), if_neg (by decide), if_neg (by decide), if_neg (by decide), if_neg (by decide), if_neg (by decide), if_neg (by decide)]; exact key
    · rw [if_neg (by decide), if_neg (by decide), if_neg (by decide), if_neg (by decide), if_neg (by decide), if_neg (by decide), if_pos (by decide)]; exact key
    · rw [if_neg (by decide), if_neg (by decide), if_neg (by decide), if_neg (by decide), if_pos (by decide)]; exact key
    · rw [if_neg (by decide), if_neg (by decide), if_pos (by decide)]; exact key
theorem x10_init : m_X10_init 0 0 (fun _ => 0) = some (15, 1, stB 8) := by
  have e := rinit_l 8 (kF - 9) 0 0 0 (by omega)
  rw [stB_0] at e
  exact e
theorem cinit_l {tab : Nat → Int32} (hB : tbP tab) : ∀ (f n d : Nat) (v1 bal : Int32) (kinds sides : Nat → Int64), d + f = 8 → clP (stB d) bal kinds sides → ∃ (bal' : Int32) (kinds' sides' : Nat → Int64), m_X0_setUp_l2 tab (n + f + 1) v1 bal (stB d) kinds sides (nI d) = some (15, bal', stB 8, kinds', sides') ∧ clP (stB 8) bal' kinds' sides' := by
  intro f
  induction f with
  | zero =>
    intro n d v1 bal kinds sides hd hC
    have : d = 8 := by omega
    subst this
    rw [m_X0_setUp_l2_s]
    unfold m_X0_setUp_b2
    rw [if_pos (by decide)]
    exact ⟨bal, kinds, sides, rfl, hC⟩
  | succ f ih =>
    intro n d v1 bal kinds sides hd hC
    have hd8 : d < 8 := by omega
    obtain ⟨r1, r2, r3, r4, r5, r6⟩ := row_ok d hd8
    have z1 : stB d d = 0 := by unfold stB; rw [if_neg (by omega)]
    have z2 : upd (stB d) d (row0 d) (8 + d) = 0 := by rw [pk_un (by omega)]; unfold stB; rw [if_neg (by omega)]
    have z3 : upd (upd (stB d) d (row0 d)) (8 + d) 1 (48 + d) = 0 := by rw [pk_un (by omega), pk_un (by omega)]; unfold stB; rw [if_neg (by omega)]
    have z4 : upd (upd (upd (stB d) d (row0 d)) (8 + d) 1) (48 + d) (-1) (56 + d) = 0 := by rw [pk_un (by omega), pk_un (by omega), pk_un (by omega)]; unfold stB; rw [if_neg (by omega)]
    obtain ⟨b1, k1, s1, p1, C1⟩ := x0_put hB hC (s := d) (by omega) z1 (m := row0 d) ⟨r1, r2⟩ r3
    obtain ⟨b2, k2, s2, p2, C2⟩ := x0_put hB C1 (s := 8 + d) (by omega) z2 (m := 1) (by unfold mOK; decide) (by decide)
    obtain ⟨b3, k3, s3, p3, C3⟩ := x0_put hB C2 (s := 48 + d) (by omega) z3 (m := -1) (by unfold mOK; decide) (by decide)
    obtain ⟨b4, k4, s4, p4, C4⟩ := x0_put hB C3 (s := 56 + d) (by omega) z4 (m := -(row0 d)) ⟨r4, r5⟩ r6
    have e1 : (8 : Int32) + nI d = nI (8 + d) := nI_add 8 d
    have e2 : (48 : Int32) + nI d = nI (48 + d) := nI_add 48 d
    have e3 : (56 : Int32) + nI d = nI (56 + d) := nI_add 56 d
    have er : (([4, 2, 3, 5, 6, 3, 2, 4] : List Int32).getD ((nI d).toNatClampNeg) 0) = row0 d := by rw [nI_clamp (by omega)]; rfl
    rw [stB_up hd8] at p4 C4
    rw [show n + (f + 1) + 1 = n + f + 1 + 1 from rfl, m_X0_setUp_l2_s]
    unfold m_X0_setUp_b2
    rw [if_neg (show ¬ (8 : Int32) ≤ nI d from nI_ge (b := 8) (by omega) (by omega)), e1, e2, e3, er, oin_n (by omega) (by omega), ob_s p1]
    try dsimp only
    rw [ob_s p2]
    try dsimp only
    rw [ob_s p3]
    try dsimp only
    rw [oin_n (by omega) (by omega), ob_s p4]
    try dsimp only
    rw [ol_r, nI_1]
    exact ih n (d + 1) v1 b4 k4 s4 (by omega) C4
theorem x0_setUp {tab : Nat → Int32} (hB : tbP tab) : ∃ (bal' : Int32) (kinds' sides' : Nat → Int64), m_X0_setUp 0 0 (fun _ => 0) (fun _ => 0) (fun _ => 0) tab = some (15, bal', stB 8, kinds', sides') ∧ clP (stB 8) bal' kinds' sides' := by
  have hC : clP (stB 0) 0 (fun _ => 0) (fun _ => 0) := by rw [stB_0]; exact zB_cl (fun _ _ => rfl) (fun _ _ => rfl)
  have e := cinit_l hB 8 (kF - 9) 0 0 0 (fun _ => 0) (fun _ => 0) (by omega) hC
  rw [stB_0] at e
  exact e
def z0 : Pz := (stB 8, 0, 15, 64, 0, 1)
theorem st_tb : (List.range 64).all (fun s => decide (-6 ≤ (stB 8 s).toInt) && decide ((stB 8 s).toInt ≤ 6)) = true := by decide +kernel
theorem st_g : gbd (stB 8) := by
  refine ⟨fun s hs => ?_, fun s hs => ?_⟩
  · have := all_lt st_tb (i := s) hs
    simp only [Bool.and_eq_true, decide_eq_true_eq] at this
    exact this
  · unfold stB
    rw [if_neg (by omega)]
set_option maxRecDepth 100000 in
theorem z0_fl : flS z0 = 0 := by decide +kernel
theorem z0_inv : inv z0 := fl_inv st_g (by show (0 : Nat) < 2; omega) (by show (15 : Nat) < 16; omega) (by show (64 : Nat) ≤ 64; omega) z0_fl
