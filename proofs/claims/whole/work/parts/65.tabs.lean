/-! The constructors' mirrors have values, and which: the tables. -/
def okO {α : Type} (o : Option α) (P : α → Bool) : Bool := match o with
  | some a => P a
  | none => false
theorem okO_e {α : Type} {o : Option α} {P : α → Bool} (h : okO o P = true) : ∃ a, o = some a ∧ P a = true := by
  cases o with
  | none => cases h
  | some a => exact ⟨a, rfl, h⟩
theorem all_lt {n : Nat} {p : Nat → Bool} (h : (List.range n).all p = true) {i : Nat} (hi : i < n) : p i = true := List.all_eq_true.mp h i (List.mem_range.mpr hi)
def edge (c : Nat) : Int := if c < 7 - c then c else 7 - c
/-- what a man of a kind is worth on a square of rank r, column c -/
def worthS (kind r c : Nat) : Int :=
  if kind = 1 then 100 + 4 * r + 2 * edge c
  else if kind = 2 then 320 + 6 * (edge c + edge r)
  else if kind = 3 then 330 + 4 * (edge c + edge r)
  else if kind = 4 then (if r = 6 then 520 else 500)
  else if kind = 5 then 900 + 2 * (edge c + edge r)
  else if kind = 6 then -3 * (edge c + edge r)
  else 0
set_option maxRecDepth 100000 in
theorem x7_ok : okO (m_X7_init (fun _ => 0)) (fun t => (List.range 448).all (fun i => decide (t i = Int32.ofInt (worthS (i / 64) (i % 64 / 8) (i % 8))))) = true := by decide +kernel
theorem x7_tab : ∃ t : Nat → Int32, m_X7_init (fun _ => 0) = some t ∧ ∀ i, i < 448 → t i = Int32.ofInt (worthS (i / 64) (i % 64 / 8) (i % 8)) := by
  obtain ⟨t, h1, h2⟩ := okO_e x7_ok
  exact ⟨t, h1, fun i hi => of_decide_eq_true (all_lt h2 hi)⟩
/-- the eight ways, as in the class -/
def wayR (w : Nat) : Int := ([0, 1, 1, 1, 0, -1, -1, -1] : List Int).getD w 0
def wayC (w : Nat) : Int := ([1, 0, 1, -1, -1, 0, -1, 1] : List Int).getD w 0
/-- t lies j steps from s on way w -/
def onWay (w s t j : Nat) : Bool := decide ((t / 8 : Int) = s / 8 + j * wayR w) && decide ((t % 8 : Int) = s % 8 + j * wayC w)
def rayB (w s t : Nat) : Bool := (List.range 7).any (fun j => onWay w s t (j + 1))
def absD (a b : Nat) : Nat := if a < b then b - a else a - b
def kniB (s t : Nat) : Bool := absD (s / 8) (t / 8) * absD (s % 8) (t % 8) == 2
def kinB (s t : Nat) : Bool := decide (absD (s / 8) (t / 8) < 2) && decide (absD (s % 8) (t % 8) < 2) && decide (s ≠ t)
/-- where a pawn of a side (0, 1) on s reaches -/
def pawB (side s t : Nat) : Bool := decide (absD (s % 8) (t % 8) = 1) && (if side = 0 then decide (t / 8 = s / 8 + 1) else decide (t / 8 + 1 = s / 8))
set_option maxRecDepth 100000 in
theorem x3_ok : okO (m_X3_init (fun _ => 0) (fun _ => 0) (fun _ => 0) (fun _ => 0)) (fun q => (List.range 64).all (fun s => (List.range 64).all (fun t => (bt (q.2.1 s) t == kniB s t) && (bt (q.2.2.1 s) t == kinB s t) && (bt (q.2.2.2 s) t == pawB 0 s t) && (bt (q.2.2.2 (64 + s)) t == pawB 1 s t)))) = true := by decide +kernel
