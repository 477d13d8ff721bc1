/-! What holds between the calls. -/
def HV (t : Nat) (hh : Nat → Pz) (top : Nat) (mv pb bf : Nat → Int32) : Prop := top ≤ t ∧ hiP hh top mv pb ∧ (∀ i, i ≤ top → (hh i).2.2.2.2.1 ≤ 9999 + t ∧ (hh i).2.2.2.2.2 ≤ 9999 + t) ∧ ∀ k, k < top → hsP bf k (hh k)
theorem hsP_fr {bf bf' : Nat → Int32} {k top : Nat} {z : Pz} (hk : k < top) (h : ∀ j, j < 69 * top → bf' j = bf j) (hs : hsP bf k z) : hsP bf' k z := by
  obtain ⟨h1, h2, h3, h4, h5, h6⟩ := hs
  refine ⟨fun s hs => ?_, ?_, ?_, ?_, ?_, ?_⟩
  · rw [h _ (by omega)]; exact h1 s hs
  · rw [h _ (by omega)]; exact h2
  · rw [h _ (by omega)]; exact h3
  · rw [h _ (by omega)]; exact h4
  · rw [h _ (by omega)]; exact h5
  · rw [h _ (by omega)]; exact h6
theorem HV_same {t : Nat} {hh : Nat → Pz} {top : Nat} {mv pb bf mv' pb' bf' : Nat → Int32} (h : HV t hh top mv pb bf) (h1 : ∀ i, i < top → mv' i = mv i ∧ pb' i = pb i) (h2 : ∀ j, j < 69 * top → bf' j = bf j) : HV (t + 1) hh top mv' pb' bf' := by
  obtain ⟨a, ⟨b1, b2⟩, c, d⟩ := h
  refine ⟨by omega, ⟨b1, fun i hi => ?_⟩, fun i hi => ?_, fun k hk => hsP_fr hk h2 (d k hk)⟩
  · obtain ⟨f, t', u, q1, q2, q3, q4⟩ := b2 i hi
    refine ⟨f, t', u, q1, q2, ?_, ?_⟩
    · rw [(h1 i hi).1]; exact q3
    · rw [(h1 i hi).2]; exact q4
  · have := c i hi
    omega
theorem HV_next {t : Nat} {hh : Nat → Pz} {top : Nat} {mv pb bf : Nat → Int32} (h : HV t hh top mv pb bf) : HV (t + 1) hh top mv pb bf := HV_same h (fun _ _ => ⟨rfl, rfl⟩) (fun _ _ => rfl)
theorem HV_new {t : Nat} {z : Pz} (hi : inv z) (h1 : z.2.2.2.2.1 ≤ 9999) (h2 : z.2.2.2.2.2 ≤ 9999) (mv pb bf : Nat → Int32) : HV t (fun _ => z) 0 mv pb bf := ⟨by omega, ⟨fun _ _ => ⟨hi, Nat.lt_of_le_of_lt h1 (by omega)⟩, fun i h => by omega⟩, fun _ _ => ⟨Nat.le_trans h1 (by omega), Nat.le_trans h2 (by omega)⟩, fun k h => by omega⟩
theorem HV_pop {t : Nat} {hh : Nat → Pz} {top : Nat} {mv pb bf : Nat → Int32} (h : HV t hh (top + 1) mv pb bf) : HV (t + 1) hh top mv pb bf := by
  obtain ⟨a, ⟨b1, b2⟩, c, d⟩ := h
  exact ⟨by omega, ⟨fun i hi => b1 i (by omega), fun i hi => b2 i (by omega)⟩, fun i hi => by have := c i (by omega); omega, fun k hk => d k (by omega)⟩
def pushH (hh : Nat → Pz) (top : Nat) (z : Pz) : Nat → Pz := fun i => if i ≤ top then hh i else z
theorem mk_half (z : Pz) (m : Mv) : (mkM z m).2.2.2.2.1 ≤ z.2.2.2.2.1 + 1 := by
  show (if kd (z.1 m.1) = 1 ∨ ¬ tkS z.1 m.1 m.2.1 = 0 then 0 else z.2.2.2.2.1 + 1) ≤ _
  split <;> omega
theorem HV_push {t : Nat} (ht : t < 70) {hh : Nat → Pz} {top : Nat} {mv pb bf bf' : Nat → Int32} (h : HV t hh top mv pb bf) {m : Mv} (hm : m ∈ lmS (hh top)) (h1 : hsP bf' top (hh top)) (h2 : ∀ j, j < 69 * top → bf' j = bf j) : HV (t + 1) (pushH hh top (mkM (hh top) m)) (top + 1) (upd mv top (nI (enM m))) (upd pb top (nI (goN (kd (tkS (hh top).1 m.1 m.2.1)) (hh top)))) bf' := by
  obtain ⟨a, ⟨b1, b2⟩, c, d⟩ := h
  have lo : ∀ i, i ≤ top → pushH hh top (mkM (hh top) m) i = hh i := fun i hi => if_pos hi
  have hp : pushH hh top (mkM (hh top) m) (top + 1) = mkM (hh top) m := if_neg (by omega)
  have hin := inv_mk (b1 top (Nat.le_refl _)).1 hm
  have hha := mk_half (hh top) m
  have hc := c top (Nat.le_refl _)
  have hsd := (b1 top (Nat.le_refl _)).1.2.1
  have hnu : (mkM (hh top) m).2.2.2.2.2 = (hh top).2.2.2.2.2 + (hh top).2.1 := rfl
  refine ⟨by omega, ⟨fun i hi => ?_, fun i hi => ?_⟩, fun i hi => ?_, fun k hk => ?_⟩
  · by_cases g : i ≤ top
    · rw [lo i g]; exact b1 i g
    · have : i = top + 1 := by omega
      subst this
      rw [hp]
      exact ⟨hin, by omega⟩
  · by_cases g : i < top
    · obtain ⟨f, t', u, q1, q2, q3, q4⟩ := b2 i g
      refine ⟨f, t', u, ?_, ?_, ?_, ?_⟩
      · rw [lo i (by omega)]; exact q1
      · rw [lo i (by omega), lo (i + 1) (by omega)]; exact q2
      · rw [pk_un (by omega)]; exact q3
      · rw [pk_un (by omega), lo i (by omega)]; exact q4
    · have : i = top := by omega
      subst this
      obtain ⟨f, t', u⟩ := m
      refine ⟨f, t', u, ?_, ?_, ?_, ?_⟩
      · rw [lo i (Nat.le_refl _)]; exact hm
      · rw [hp, lo i (Nat.le_refl _)]
      · rw [pk_us]
      · rw [pk_us, lo i (Nat.le_refl _)]
  · by_cases g : i ≤ top
    · rw [lo i g]; have := c i g; omega
    · have : i = top + 1 := by omega
      subst this
      rw [hp]
      omega
  · by_cases g : k < top
    · rw [lo k (by omega)]; exact hsP_fr g h2 (d k g)
    · have : k = top := by omega
      subst this
      rw [lo k (Nat.le_refl _)]
      exact h1
def TV (n1 : Int32) (a1 : Nat → Int32) (n2 : Int32) (a2 : Nat → Int32) : Prop := ∃ (ch : Nat → Nat) (len : Nat), chP ch len ∧ n1 = nI len ∧ n2 = nI len ∧ tyP ch len a1 ∧ tyP ch len a2
def WV (n1 : Int32) (a1 : Nat → Int32) (n2 : Int32) (a2 : Nat → Int32) : Prop := ∃ wl : List Nat, wl.length ≤ 128 ∧ n1 = nI wl.length ∧ n2 = nI wl.length ∧ wrP wl a1 ∧ wrP wl a2
def IV (t : Nat) (v_listed v_choice : Int32) (a_legal : Nat → Int32) (v_made : Int32) (a_moved a_pbefore : Nat → Int32) (v_wrongAt v_length : Int32) (a_chars : Nat → Int32) (v_wlength : Int32) (a_wchars : Nat → Int32) (v_mover v_rights v_passed v_halves v_number v_balance : Int32) (a_men : Nat → Int32) (a_kinds a_sides : Nat → Int64) (da_men : Nat → Int32) (mv_side mv_rights mv_passed mv_halves mv_number mv_top mv_typedCount mv_place mv_writtenCount mv_chosenFrom mv_chosenTo mv_chosenTurn : Int32) (ma_board ma_before ma_typed ma_written ma_readBoard : Nat → Int32) : Prop := ∃ (hh : Nat → Pz) (top : Nat), HV t hh top a_moved a_pbefore ma_before ∧ clP (hh top).1 v_balance a_kinds a_sides ∧ LV (hh top) v_listed a_legal ∧ CV v_choice mv_chosenFrom mv_chosenTo mv_chosenTurn ∧ TV v_length a_chars mv_typedCount ma_typed ∧ WV v_wlength a_wchars mv_writtenCount ma_written ∧ (∀ s, 64 ≤ s → da_men s = 0) ∧ (∀ s, 64 ≤ s → ma_readBoard s = 0) ∧ v_wrongAt = mv_place ∧ v_made = nI top ∧ v_mover = nI (hh top).2.1 ∧ v_rights = nI (hh top).2.2.1 ∧ v_passed = pI (hh top).2.2.2.1 ∧ v_halves = nI (hh top).2.2.2.2.1 ∧ v_number = nI (hh top).2.2.2.2.2 ∧ a_men = (hh top).1 ∧ mv_side = nI (hh top).2.1 ∧ mv_rights = nI (hh top).2.2.1 ∧ mv_passed = pI (hh top).2.2.2.1 ∧ mv_halves = nI (hh top).2.2.2.2.1 ∧ mv_number = nI (hh top).2.2.2.2.2 ∧ mv_top = nI top ∧ ma_board = (hh top).1
