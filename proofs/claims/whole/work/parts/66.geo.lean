/-! Squares on the eight ways; booleans as ints. -/
def bI (b : Bool) : Int32 := if b then 1 else 0
theorem bI_0 {b : Bool} : bI b = 0 ↔ b = false := by cases b <;> decide
theorem bI_t : bI true = 1 := rfl
theorem bI_f : bI false = 0 := rfl
theorem bI_if {T : Type} (b : Bool) (x y : T) : (if bI b = 0 then x else y) = if b then y else x := by cases b <;> rfl
theorem obl_b {T : Type} (b : Bool) (e : Option T) : obl (bI b) e = e := by cases b <;> rfl
theorem obl_0 {T : Type} (e : Option T) : obl 0 e = e := rfl
theorem obl_1 {T : Type} (e : Option T) : obl 1 e = e := rfl
/-- all i below n have p -/
def allB (p : Nat → Bool) : Nat → Bool
  | 0 => true
  | n + 1 => allB p n && p n
def anyB (p : Nat → Bool) : Nat → Bool
  | 0 => false
  | n + 1 => anyB p n || p n
theorem allB_iff {p : Nat → Bool} : ∀ {n : Nat}, allB p n = true ↔ ∀ i, i < n → p i = true
  | 0 => by simp [allB]
  | n + 1 => by
    show (allB p n && p n) = true ↔ _
    rw [Bool.and_eq_true, allB_iff]
    constructor
    · rintro ⟨h1, h2⟩ i hi
      rcases Nat.lt_succ_iff_lt_or_eq.mp hi with q | q
      · exact h1 i q
      · subst q; exact h2
    · intro h
      exact ⟨fun i hi => h i (by omega), h n (by omega)⟩
theorem anyB_iff {p : Nat → Bool} : ∀ {n : Nat}, anyB p n = true ↔ ∃ i, i < n ∧ p i = true
  | 0 => by simp [anyB]
  | n + 1 => by
    show (anyB p n || p n) = true ↔ _
    rw [Bool.or_eq_true, anyB_iff]
    constructor
    · rintro (⟨i, hi, h⟩ | h)
      · exact ⟨i, by omega, h⟩
      · exact ⟨n, by omega, h⟩
    · rintro ⟨i, hi, h⟩
      rcases Nat.lt_succ_iff_lt_or_eq.mp hi with q | q
      · exact Or.inl ⟨i, q, h⟩
      · subst q; exact Or.inr h
theorem bool_iff {a b : Bool} (h : a = true ↔ b = true) : a = b := by
  cases a <;> cases b <;> simp at h <;> rfl
theorem allB_cong {p q : Nat → Bool} {n : Nat} (h : ∀ i, i < n → p i = q i) : allB p n = allB q n := by
  apply bool_iff
  rw [allB_iff, allB_iff]
  constructor
  · intro g i hi
    rw [← h i hi]; exact g i hi
  · intro g i hi
    rw [h i hi]; exact g i hi
theorem anyB_cong {p q : Nat → Bool} {n : Nat} (h : ∀ i, i < n → p i = q i) : anyB p n = anyB q n := by
  apply bool_iff
  rw [anyB_iff, anyB_iff]
  constructor
  · rintro ⟨i, hi, g⟩
    exact ⟨i, hi, by rw [← h i hi]; exact g⟩
  · rintro ⟨i, hi, g⟩
    exact ⟨i, hi, by rw [h i hi]; exact g⟩
/-- the way's difference, the square j steps from s on way w, how many steps there are -/
def wdl (w : Nat) : Nat := if w % 4 = 0 then 1 else if w % 4 = 1 then 8 else if w % 4 = 2 then 9 else 7
def wsq (w s j : Nat) : Nat := if w < 4 then s + j * wdl w else s - j * wdl w
def wln (w s : Nat) : Nat :=
  if w = 0 then 7 - s % 8 else if w = 1 then 7 - s / 8 else if w = 2 then min (7 - s / 8) (7 - s % 8) else if w = 3 then min (7 - s / 8) (s % 8)
  else if w = 4 then s % 8 else if w = 5 then s / 8 else if w = 6 then min (s / 8) (s % 8) else min (s / 8) (7 - s % 8)
def wop (w : Nat) : Nat := if w < 4 then w + 4 else w - 4
def wst (s t : Nat) : Nat := if absD (s / 8) (t / 8) ≤ absD (s % 8) (t % 8) then absD (s % 8) (t % 8) else absD (s / 8) (t / 8)
def wwy (s t : Nat) : Nat :=
  if s / 8 = t / 8 then (if s % 8 < t % 8 then 0 else 4)
  else if s % 8 = t % 8 then (if s / 8 < t / 8 then 1 else 5)
  else if s / 8 < t / 8 then (if s % 8 < t % 8 then 2 else 3)
  else (if t % 8 < s % 8 then 6 else 7)
def strB (s t : Nat) : Bool := decide (absD (s / 8) (t / 8) = 0) != decide (absD (s % 8) (t % 8) = 0)
def slaB (s t : Nat) : Bool := decide (absD (s / 8) (t / 8) = absD (s % 8) (t % 8)) && decide (0 < absD (s / 8) (t / 8))
def wsl (w : Nat) : Bool := decide (2 ≤ w % 4)
theorem wln_lt (w : Nat) (hw : w < 8) (s : Nat) (hs : s < 64) : wln w s < 8 := by
  unfold wln
  repeat' split
  all_goals omega
theorem wsq_0 (w s : Nat) : wsq w s 0 = s := by
  unfold wsq
  split <;> omega
theorem w8 {w : Nat} (h : w < 8) : w = 0 ∨ w = 1 ∨ w = 2 ∨ w = 3 ∨ w = 4 ∨ w = 5 ∨ w = 6 ∨ w = 7 := by omega
def tbA (p : Nat → Nat → Nat → Bool) : Bool := (List.range 8).all (fun w => (List.range 64).all (fun s => (List.range (wln w s)).all (fun j => p w s (j + 1))))
theorem tbA_e {p : Nat → Nat → Nat → Bool} (h : tbA p = true) {w s j : Nat} (hw : w < 8) (hs : s < 64) (h1 : 1 ≤ j) (hj : j ≤ wln w s) : p w s j = true := by
  have := all_lt (all_lt (all_lt h hw) hs) (i := j - 1) (by omega)
  rwa [show j - 1 + 1 = j by omega] at this
set_option maxRecDepth 100000 in
theorem wsq_tb : tbA (fun w s j => Nat.blt (wsq w s j) 64 && (wwy s (wsq w s j) == w) && (wst s (wsq w s j) == j) && (slaB s (wsq w s j) == wsl w) && (strB s (wsq w s j) == !(wsl w)) && !(wsq w s j == s)) = true := by decide +kernel
theorem wsq_all (w : Nat) (hw : w < 8) (s : Nat) (hs : s < 64) (j : Nat) (h1 : 1 ≤ j) (hj : j ≤ wln w s) : wsq w s j < 64 ∧ wwy s (wsq w s j) = w ∧ wst s (wsq w s j) = j ∧ slaB s (wsq w s j) = wsl w ∧ strB s (wsq w s j) = !(wsl w) ∧ wsq w s j ≠ s := by
  have := tbA_e wsq_tb hw hs h1 hj
  simp only [Bool.and_eq_true, beq_iff_eq, Bool.not_eq_true', beq_eq_false_iff_ne] at this
  obtain ⟨⟨⟨⟨⟨a, b⟩, c⟩, d⟩, e⟩, f⟩ := this
  exact ⟨by simpa [Nat.blt_eq] using a, b, c, d, e, f⟩
theorem wop_lt {w : Nat} (h : w < 8) : wop w < 8 := by
  unfold wop
  split <;> omega
theorem wop_op {w : Nat} (h : w < 8) : wop (wop w) = w := by
  unfold wop
  split <;> split <;> omega
theorem wop_sl : ∀ w, w < 8 → wsl (wop w) = wsl w := by decide +kernel
set_option maxRecDepth 100000 in
theorem wop_tb : tbA (fun w s j => Nat.ble j (wln (wop w) (wsq w s j)) && (List.range (j + 1)).all (fun i => wsq (wop w) (wsq w s j) i == wsq w s (j - i))) = true := by decide +kernel
theorem wop_all (w : Nat) (hw : w < 8) (s : Nat) (hs : s < 64) (j : Nat) (h1 : 1 ≤ j) (hj : j ≤ wln w s) : j ≤ wln (wop w) (wsq w s j) ∧ ∀ i, i ≤ j → wsq (wop w) (wsq w s j) i = wsq w s (j - i) := by
  have := tbA_e wop_tb hw hs h1 hj
  rw [Bool.and_eq_true] at this
  refine ⟨Nat.le_of_ble_eq_true this.1, fun i hi => ?_⟩
  exact eq_of_beq (all_lt this.2 (by omega))
set_option maxRecDepth 100000 in
theorem wal_tb : (List.range 64).all (fun s => (List.range 64).all (fun t => !(strB s t || slaB s t) || (Nat.blt (wwy s t) 8 && Nat.ble 1 (wst s t) && Nat.ble (wst s t) (wln (wwy s t) s) && (wsq (wwy s t) s (wst s t) == t) && (wsl (wwy s t) == slaB s t)))) = true := by decide +kernel
theorem wal_all (s : Nat) (hs : s < 64) (t : Nat) (ht : t < 64) (h : (strB s t || slaB s t) = true) : wwy s t < 8 ∧ 1 ≤ wst s t ∧ wst s t ≤ wln (wwy s t) s ∧ wsq (wwy s t) s (wst s t) = t ∧ wsl (wwy s t) = slaB s t := by
  have := all_lt (all_lt wal_tb hs) ht
  rw [h] at this
  simp only [Bool.not_true, Bool.false_or, Bool.and_eq_true, beq_iff_eq] at this
  obtain ⟨⟨⟨⟨a, b⟩, c⟩, d⟩, e⟩ := this
  exact ⟨by simpa [Nat.blt_eq] using a, Nat.le_of_ble_eq_true b, Nat.le_of_ble_eq_true c, d, e⟩
theorem wsq_lt {w s j : Nat} (hw : w < 8) (hs : s < 64) (h1 : 1 ≤ j) (h : j ≤ wln w s) : wsq w s j < 64 := (wsq_all w hw s hs j h1 h).1
theorem wsq_inj {w v s i j : Nat} (hw : w < 8) (hv : v < 8) (hs : s < 64) (h1 : 1 ≤ i) (hi : i ≤ wln w s) (h2 : 1 ≤ j) (hj : j ≤ wln v s) (e : wsq w s i = wsq v s j) : w = v ∧ i = j := by
  have a := wsq_all w hw s hs i h1 hi
  have b := wsq_all v hv s hs j h2 hj
  rw [e] at a
  exact ⟨a.2.1.symm.trans b.2.1, a.2.2.1.symm.trans b.2.2.1⟩
theorem ray_iff {w s t : Nat} (hw : w < 8) (hs : s < 64) (ht : t < 64) : rayB w s t = true ↔ ∃ j, 1 ≤ j ∧ j ≤ wln w s ∧ t = wsq w s j := by
  unfold rayB
  rw [List.any_eq_true]
  constructor
  · rintro ⟨i, hi, h⟩
    have hi := List.mem_range.mp hi
    unfold onWay at h
    rw [Bool.and_eq_true, decide_eq_true_eq, decide_eq_true_eq] at h
    obtain ⟨ha, hb⟩ := h
    refine ⟨i + 1, by omega, ?_, ?_⟩
    · rcases w8 hw with q | q | q | q | q | q | q | q <;> subst q <;> simp [wayR, wayC] at ha hb <;> simp [wln] <;> omega
    · rcases w8 hw with q | q | q | q | q | q | q | q <;> subst q <;> simp [wayR, wayC] at ha hb <;> simp [wsq, wdl] <;> omega
  · rintro ⟨j, h1, h2, h3⟩
    have h8 := wln_lt w hw s hs
    refine ⟨j - 1, List.mem_range.mpr (by omega), ?_⟩
    unfold onWay
    rw [Bool.and_eq_true, decide_eq_true_eq, decide_eq_true_eq, show j - 1 + 1 = j by omega]
    rcases w8 hw with q | q | q | q | q | q | q | q <;> subst q <;> simp [wsq, wdl] at h3 <;> simp [wln] at h2 <;> simp [wayR, wayC] <;> omega
theorem wsq_mono {w s i j : Nat} (hw : w < 4) (h : i < j) : wsq w s i < wsq w s j := by
  unfold wsq
  rw [if_pos hw, if_pos hw]
  have : 0 < wdl w := by
    unfold wdl
    repeat' split
    all_goals omega
  have := Nat.mul_lt_mul_of_pos_right h this
  omega
theorem wsq_anti {w s i j : Nat} (hw : w < 8) (h4 : 4 ≤ w) (hs : s < 64) (hj : j ≤ wln w s) (h : i < j) : wsq w s j < wsq w s i := by
  rcases w8 hw with q | q | q | q | q | q | q | q
  · omega
  · omega
  · omega
  · omega
  all_goals (subst q; simp [wln] at hj; simp [wsq, wdl]; omega)
