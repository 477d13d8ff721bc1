theorem cb_cong {p q : Nat → Bool} : ∀ {n : Nat}, (∀ i, i < n → p i = q i) → cb p n = cb q n
  | 0, _ => rfl
  | n + 1, h => by
    show cb p n + b2n (p n) = cb q n + b2n (q n)
    rw [cb_cong (fun i hi => h i (by omega)), h n (by omega)]
theorem cb_lt {k : Nat} : ∀ n : Nat, cb (fun i => decide (i < k)) n = min n k
  | 0 => by simp [cb]
  | n + 1 => by
    show cb (fun i => decide (i < k)) n + b2n (decide (n < k)) = _
    rw [cb_lt n]
    by_cases h : n < k
    · simp [b2n, h]
      omega
    · simp [b2n, h]
      omega
theorem leastOf_eq {x : Int64} {k : Nat} (h : leastB x k) : m_X9_leastOf x = some (nI k) := by
  unfold m_X9_leastOf
  rw [ob_s (bitCount_eq _)]
  have e : cb (bt ((x &&& -x) - 1)) 64 = k := by
    rw [cb_cong (q := fun i => decide (i < k)) (fun i hi => bt_below h hi), cb_lt]
    have := h.1
    omega
  rw [e]
