/-! The reference: values, ways, search. -/
def mkM (z : Pz) (m : Mv) : Pz := mkS z m.1 m.2.1 m.2.2
/-- what the reference needs of a position -/
def okZ (z : Pz) : Prop := gbd z.1 ∧ z.2.1 < 2 ∧ z.2.2.1 < 16 ∧ z.2.2.2.1 ≤ 64 ∧ rgK z.1 z.2.1 z.2.2.1 ∧ (lmS z).length ≤ 508 ∧ z.2.2.2.2.1 < 2 ^ 30
/-- positions with k moves to come -/
def jOK (J : Nat → Pz → Prop) : Prop := (∀ k z, J k z → okZ z) ∧ ∀ k z m, J (k + 1) z → m ∈ lmS z → J k (mkM z m)
theorem lmS_mem {z : Pz} {m : Mv} : m ∈ lmS z ↔ m.1 < 64 ∧ m.2.1 < 64 ∧ msd (z.1 m.1) z.2.1 = true ∧ goS z m.1 m.2.1 = true ∧ m.2.2 ∈ tuS z m.1 m.2.1 ∧ safS z.1 m.1 m.2.1 m.2.2 z.2.1 = true := by
  obtain ⟨f, t, u⟩ := m
  unfold lmS
  rw [List.mem_flatMap]
  constructor
  · rintro ⟨f', hf, h⟩
    unfold frS at h
    split at h
    · rw [List.mem_flatMap] at h
      obtain ⟨t', ht, h⟩ := h
      unfold onS at h
      split at h
      · rw [List.mem_map] at h
        obtain ⟨u', hu, e⟩ := h
        rw [List.mem_filter] at hu
        cases e
        rw [List.mem_range'_1] at hf ht
        exact ⟨show f < 64 by omega, show t < 64 by omega, by assumption, by assumption, hu.1, hu.2⟩
      · cases h
    · cases h
  · rintro ⟨h1, h2, h3, h4, h5, h6⟩
    have h1 : f < 64 := h1
    have h2 : t < 64 := h2
    refine ⟨f, by rw [List.mem_range'_1]; omega, ?_⟩
    unfold frS
    rw [if_pos h3, List.mem_flatMap]
    refine ⟨t, by rw [List.mem_range'_1]; omega, ?_⟩
    unfold onS
    rw [if_pos h4, List.mem_map]
    exact ⟨u, List.mem_filter.mpr ⟨h5, h6⟩, rfl⟩
theorem tuS_le {z : Pz} {f t u : Nat} (h : u ∈ tuS z f t) : u ≤ 5 := by
  unfold tuS at h
  split at h <;> rw [List.mem_range'_1] at h <;> omega
/-- row d holds l -/
def rowP (d : Nat) (l : List Mv) (fr to tu co : Nat → Int32) : Prop := co d = nI l.length ∧ ∀ i m, l[i]? = some m → fr (512 * d + i) = nI m.1 ∧ to (512 * d + i) = nI m.2.1 ∧ tu (512 * d + i) = nI m.2.2
/-- the rows from e on are as they were -/
def frmP (e : Nat) (fr to tu co fr' to' tu' co' : Nat → Int32) : Prop := (∀ i, e ≤ i → co' i = co i) ∧ ∀ j, 512 * e ≤ j → fr' j = fr j ∧ to' j = to j ∧ tu' j = tu j
theorem stP_row {F T U C fr to tu co : Nat → Int32} {d : Nat} {l : List Mv} (h : stP F T U C d l fr to tu co) : rowP d l fr to tu co := ⟨h.1, h.2.1⟩
theorem stP_frm {F T U C fr to tu co : Nat → Int32} {d : Nat} {l : List Mv} (h : stP F T U C d l fr to tu co) : frmP (d + 1) F T U C fr to tu co := ⟨fun i hi => h.2.2.1 i (by omega), fun j hj => h.2.2.2 j (Or.inr (by omega))⟩
theorem frmP_rfl {e : Nat} {fr to tu co : Nat → Int32} : frmP e fr to tu co fr to tu co := ⟨fun _ _ => rfl, fun _ _ => ⟨rfl, rfl, rfl⟩⟩
theorem frmP_trans {e : Nat} {a1 a2 a3 a4 b1 b2 b3 b4 c1 c2 c3 c4 : Nat → Int32} (h : frmP e a1 a2 a3 a4 b1 b2 b3 b4) (g : frmP e b1 b2 b3 b4 c1 c2 c3 c4) : frmP e a1 a2 a3 a4 c1 c2 c3 c4 := by
  refine ⟨fun i hi => (g.1 i hi).trans (h.1 i hi), fun j hj => ?_⟩
  obtain ⟨x1, x2, x3⟩ := h.2 j hj
  obtain ⟨y1, y2, y3⟩ := g.2 j hj
  exact ⟨y1.trans x1, y2.trans x2, y3.trans x3⟩
theorem frmP_up {e e' : Nat} (he : e ≤ e') {a1 a2 a3 a4 b1 b2 b3 b4 : Nat → Int32} (h : frmP e a1 a2 a3 a4 b1 b2 b3 b4) : frmP e' a1 a2 a3 a4 b1 b2 b3 b4 := ⟨fun i hi => h.1 i (by omega), fun j hj => h.2 j (by omega)⟩
theorem rowP_frm {e d : Nat} (he : e ≤ d) {l : List Mv} {a1 a2 a3 a4 b1 b2 b3 b4 : Nat → Int32} (h : rowP d l a1 a2 a3 a4) (g : frmP e a1 a2 a3 a4 b1 b2 b3 b4) : rowP d l b1 b2 b3 b4 := by
  refine ⟨(g.1 d he).trans h.1, fun i m hm => ?_⟩
  obtain ⟨x1, x2, x3⟩ := g.2 (512 * d + i) (by omega)
  obtain ⟨y1, y2, y3⟩ := h.2 i m hm
  exact ⟨x1.trans y1, x2.trans y2, x3.trans y3⟩
theorem okZ_mvK {z : Pz} (h : okZ z) {m : Mv} (hm : m ∈ lmS z) : m.1 < 64 ∧ m.2.1 < 64 ∧ m.2.2 ≤ 5 ∧ mvK z.1 m.1 m.2.1 := by
  obtain ⟨a1, a2, a3, a4, a5, a6⟩ := lmS_mem.mp hm
  exact ⟨a1, a2, tuS_le a5, goS_mvK h.1 h.2.1 h.2.2.2.2.1 a1 a2 a3 a4⟩
theorem okZ_gbd {z : Pz} (h : okZ z) {m : Mv} (hm : m ∈ lmS z) : gbd (mkM z m).1 := by
  obtain ⟨a1, a2, a3, a4⟩ := okZ_mvK h hm
  exact gbd_mvS h.1 a1 a2 a3 a4
theorem x10_makeMove {z : Pz} (hz : okZ z) (bf : Nat → Int32) {top : Nat} (hT : top < 1030) (v : Int32) (fr to tu cs cm : Nat → Int32) {d k : Nat} (hd : d < 5) {m : Mv} (hk : k < 512) (hm : m ∈ lmS z) (h1 : fr (512 * d + k) = nI m.1) (h2 : to (512 * d + k) = nI m.2.1) (h3 : tu (512 * d + k) = nI m.2.2) : ∃ (v' : Int32) (bf' cs' cm' : Nat → Int32), m_X10_makeMove (nI z.2.1) (nI z.2.2.1) (pI z.2.2.2.1) (nI z.2.2.2.2.1) (nI z.2.2.2.2.2) (nI top) v z.1 bf fr to tu cs cm (nI d) (nI k) = some (nI (mkM z m).2.1, nI (mkM z m).2.2.1, pI (mkM z m).2.2.2.1, nI (mkM z m).2.2.2.2.1, nI (mkM z m).2.2.2.2.2, nI (top + 1), v', (mkM z m).1, bf', cs', cm') ∧ hsP bf' top z ∧ ∀ j, j < 69 * top → bf' j = bf j := by
  obtain ⟨a1, a2, a3, a4⟩ := okZ_mvK hz hm
  obtain ⟨v1, bf1, cs1, cm1, e1, g1, g2⟩ := x10_make hz.1 hz.2.1 hz.2.2.1 bf hT v cs cm a1 a2 a3 a4
  refine ⟨v1, bf1, cs1, cm1, ?_, g1, g2⟩
  unfold m_X10_makeMove
  have e2 : 512 * nI d = nI (512 * d) := pk_mul 512 d
  rw [ol_r, e2, nI_add, oin_n (by omega) (by omega), oin_n (by omega) (by omega), oin_n (by omega) (by omega), nI_clamp (by omega), h1, h2, h3, ob_s e1]
  rfl
/-- the value of a position that has ended; 1 if it hasn't -/
def endS (n : Nat) (z : Pz) : Int := if (lmS z).isEmpty then (if chkS z.1 z.2.1 then -30000 - n else 0) else if decide (100 ≤ z.2.2.2.2.1) || bareS z.1 then 0 else 1
def vlS : Nat → Pz → Int
  | 0, z => wnS z.1 z.2.1
  | n + 1, z => if endS (n + 1) z = 1 then ((lmS z).map (fun m => -(vlS n (mkM z m)))).foldl max (-100000) else endS (n + 1) z
theorem fmax_bd {B : Int} : ∀ (l : List Int) (b : Int), -B ≤ b → b ≤ B → (∀ x ∈ l, -B ≤ x ∧ x ≤ B) → -B ≤ l.foldl max b ∧ l.foldl max b ≤ B
  | [], b, h1, h2, _ => ⟨h1, h2⟩
  | x :: l, b, h1, h2, h => by
    have hx := h x List.mem_cons_self
    exact fmax_bd l (max b x) (by omega) (by omega) (fun y hy => h y (List.mem_cons_of_mem _ hy))
theorem endS_bd (n : Nat) (hn : n ≤ 1000) (z : Pz) : -100000 ≤ endS n z ∧ endS n z ≤ 100000 := by
  unfold endS
  split
  · split <;> omega
  · split <;> omega
theorem vlS_bd {J : Nat → Pz → Prop} (hJ : jOK J) : ∀ (n : Nat) (z : Pz), n ≤ 1000 → J n z → -100000 ≤ vlS n z ∧ vlS n z ≤ 100000
  | 0, z, _, h => by
    have := wnS_bd (hJ.1 0 z h).1 z.2.1
    show -100000 ≤ wnS z.1 z.2.1 ∧ wnS z.1 z.2.1 ≤ 100000
    omega
  | n + 1, z, hn, h => by
    unfold vlS
    split
    · apply fmax_bd
      · omega
      · omega
      · intro x hx
        obtain ⟨m, hm, rfl⟩ := List.mem_map.mp hx
        have := vlS_bd hJ n (mkM z m) (by omega) (hJ.2 n z m h hm)
        omega
    · exact endS_bd (n + 1) hn z
theorem x10_ended {z : Pz} (hz : okZ z) {d : Nat} (hd : d < 5) {fr to tu co : Nat → Int32} (h : rowP d (lmS z) fr to tu co) : m_X10_ended (nI z.2.1) (nI z.2.2.2.2.1) z.1 co (nI d) = some (iI (endS d z)) := by
  have hl := hz.2.2.2.2.2.1
  have hh := hz.2.2.2.2.2.2
  unfold m_X10_ended m_X10_ended_b29 m_X10_ended_b46 m_X10_ended_b51 endS
  rw [oin_t (pk_in d 5 hd), nI_clamp (by omega), h.1, ob_s (x10_inCheck hz.1 hz.2.1), ob_s (x10_isBare hz.1), bI_if, bI_if]
  have e0 : nI (lmS z).length = 0 ↔ (lmS z).length = 0 := nI_eq0 (by omega)
  have e1 : (100 : Int32) ≤ nI z.2.2.2.2.1 ↔ 100 ≤ z.2.2.2.2.1 := nI_leI (a := 100) (by omega) (by omega)
  have e2 : (-30000 : Int32) - nI d = iI (-30000 - (d : Int)) := by
    have q : (-30000 : Int32) = iI (-30000) := by decide
    rw [iI_nat, q, iI_sub]
  simp only [e0, e1, e2]
  have e3 : (lmS z).isEmpty = decide ((lmS z).length = 0) := by
    cases lmS z <;> simp
  rw [e3]
  by_cases q0 : (lmS z).length = 0
  · simp only [q0, decide_true, if_true]
    cases chkS z.1 z.2.1 <;> rfl
  · simp only [q0, decide_false, if_false, Bool.false_eq_true]
    by_cases q1 : 100 ≤ z.2.2.2.2.1
    · simp [q1]; rfl
    · cases bareS z.1 <;> simp [q1] <;> rfl
theorem drop_cons {T : Type} {l : List T} {k : Nat} (h : k < l.length) : ∃ m, l[k]? = some m ∧ m ∈ l ∧ l.drop k = m :: l.drop (k + 1) := ⟨l[k], by simp [h], List.getElem_mem h, List.drop_eq_getElem_cons h⟩
theorem max_if (a b : Int) (h1 : -2 ^ 31 ≤ a) (h2 : a < 2 ^ 31) (h3 : -2 ^ 31 ≤ b) (h4 : b < 2 ^ 31) {T : Type} (f : Int32 → T) : (if iI a ≤ iI b then f (iI b) else f (iI a)) = f (iI (max b a)) := by
  by_cases g : a ≤ b
  · rw [if_pos ((iI_le h1 h2 h3 h4).mpr g), Int.max_eq_left g]
  · rw [if_neg (fun q => g ((iI_le h1 h2 h3 h4).mp q)), Int.max_eq_right (by omega)]
theorem valueOne_l {J : Nat → Pz → Prop} (hJ : jOK J) {z : Pz} (hz : J 1 z) {top : Nat} (hT : top + 1 < 1030) : ∀ (dd k n : Nat) (b : Int) (v : Int32) (bf fr to tu co cs cm : Nat → Int32), k + dd = (lmS z).length → rowP 1 (lmS z) fr to tu co → -100000 ≤ b → b ≤ 100000 → ∃ (v' : Int32) (bf' fr' to' tu' co' cs' cm' : Nat → Int32), m_X10_valueOne_l25 (n + dd + 1) (nI z.2.1) (nI z.2.2.1) (pI z.2.2.2.1) (nI z.2.2.2.2.1) (nI z.2.2.2.2.2) (nI top) v z.1 bf fr to tu co cs cm 1 (iI b) (nI k) = some (iI ((((lmS z).drop k).map (fun m => -(vlS 0 (mkM z m)))).foldl max b), nI z.2.1, nI z.2.2.1, pI z.2.2.2.1, nI z.2.2.2.2.1, nI z.2.2.2.2.2, nI top, v', z.1, bf', fr', to', tu', co', cs', cm') ∧ (∀ j, j < 69 * top → bf' j = bf j) ∧ frmP 1 fr to tu co fr' to' tu' co' := by
  have hok := hJ.1 1 z hz
  have hl := hok.2.2.2.2.2.1
  intro dd
  induction dd with
  | zero =>
    intro k n b v bf fr to tu co cs cm e hr h1 h2
    refine ⟨v, bf, fr, to, tu, co, cs, cm, ?_, fun _ _ => rfl, frmP_rfl⟩
    rw [m_X10_valueOne_l25_s]
    unfold m_X10_valueOne_b25 m_X10_valueOne_b77
    have e1 : co (Int32.toNatClampNeg 1) = nI (lmS z).length := hr.1
    rw [e1, if_pos (nI_le (by omega) (by omega)), List.drop_eq_nil_of_le (by omega)]
    rfl
  | succ dd ih =>
    intro k n b v bf fr to tu co cs cm e hr h1 h2
    obtain ⟨m, hm1, hm2, hm3⟩ := drop_cons (l := lmS z) (k := k) (by omega)
    obtain ⟨r1, r2, r3⟩ := hr.2 k m hm1
    have hJm := hJ.2 0 z m hz hm2
    have hokm := hJ.1 0 _ hJm
    obtain ⟨v1, bf1, cs1, cm1, e1, g1, g2⟩ := x10_makeMove hok bf (top := top) (by omega) v fr to tu cs cm (d := 1) (k := k) (by omega) (by omega) hm2 r1 r2 r3
    have e1 : m_X10_makeMove (nI z.2.1) (nI z.2.2.1) (pI z.2.2.2.1) (nI z.2.2.2.2.1) (nI z.2.2.2.2.2) (nI top) v z.1 bf fr to tu cs cm 1 (nI k) = _ := e1
    have bd := vlS_bd hJ 0 _ (by omega) hJm
    obtain ⟨v2, bf2, fr2, to2, tu2, co2, cs2, cm2, e3, g3, g4⟩ := ih (k + 1) n (max b (-(vlS 0 (mkM z m)))) v1 bf1 fr to tu co cs1 cm1 (by omega) hr (by omega) (by omega)
    refine ⟨v2, bf2, fr2, to2, tu2, co2, cs2, cm2, ?_, fun j hj => (g3 j hj).trans (g2 j hj), g4⟩
    have ec : co (Int32.toNatClampNeg 1) = nI (lmS z).length := hr.1
    have ep := x10_pop (top := top) (by omega) g1 hok.1 hokm.1 (nI (mkM z m).2.1) (nI (mkM z m).2.2.1) (pI (mkM z m).2.2.2.1) (nI (mkM z m).2.2.2.2.1) (nI (mkM z m).2.2.2.2.2)
    rw [show n + (dd + 1) + 1 = n + dd + 1 + 1 from rfl, m_X10_valueOne_l25_s]
    unfold m_X10_valueOne_b25 m_X10_valueOne_b70
    rw [ec, if_neg (nI_ge (by omega) (by omega)), if_pos rfl, ob_s e1]
    try dsimp only
    rw [ob_s (x10_worthNow hokm.1 hokm.2.1), ol_r, iI_0neg, ob_s ep]
    try dsimp only
    rw [ol_r, ol_r, nI_1, hm3, List.map_cons, List.foldl_cons]
    rw [max_if (-(wnS (mkM z m).1 (mkM z m).2.1)) b (by have := bd; unfold vlS at this; omega) (by have := bd; unfold vlS at this; omega) (by omega) (by omega) (fun q => m_X10_valueOne_l25 (n + dd + 1) (nI z.2.1) (nI z.2.2.1) (pI z.2.2.2.1) (nI z.2.2.2.2.1) (nI z.2.2.2.2.2) (nI top) v1 z.1 bf1 fr to tu co cs1 cm1 1 q (nI (k + 1)))]
    exact e3
theorem x10_valueOne {J : Nat → Pz → Prop} (hJ : jOK J) {z : Pz} (hz : J 1 z) {top : Nat} (hT : top + 1 < 1030) (v : Int32) (bf fr to tu co cs cm : Nat → Int32) : ∃ (v' : Int32) (bf' fr' to' tu' co' cs' cm' : Nat → Int32), m_X10_valueOne (nI z.2.1) (nI z.2.2.1) (pI z.2.2.2.1) (nI z.2.2.2.2.1) (nI z.2.2.2.2.2) (nI top) v z.1 bf fr to tu co cs cm = some (iI (vlS 1 z), nI z.2.1, nI z.2.2.1, pI z.2.2.2.1, nI z.2.2.2.2.1, nI z.2.2.2.2.2, nI top, v', z.1, bf', fr', to', tu', co', cs', cm') ∧ (∀ j, j < 69 * top → bf' j = bf j) ∧ frmP 2 fr to tu co fr' to' tu' co' := by
  have hok := hJ.1 1 z hz
  have hl := hok.2.2.2.2.2.1
  obtain ⟨v1, fr1, to1, tu1, co1, cs1, cm1, e1, h1⟩ := x10_find hok.1 hok.2.1 hok.2.2.1 hok.2.2.2.1 hok.2.2.2.2.1 hl (d := 1) (by omega) v fr to tu co cs cm
  have e1 : m_X10_find (nI z.2.1) (nI z.2.2.1) (pI z.2.2.2.1) v z.1 fr to tu co cs cm 1 = _ := e1
  have hr := stP_row h1
  have hf := stP_frm h1
  have ee : m_X10_ended (nI z.2.1) (nI z.2.2.2.2.1) z.1 co1 1 = _ := x10_ended hok (d := 1) (by omega) hr
  have eb := endS_bd 1 (by omega) z
  have c1 : iI (endS 1 z) = 1 ↔ endS 1 z = 1 := iI_eq (b := 1) (by omega) (by omega) (by omega) (by omega)
  unfold m_X10_valueOne m_X10_valueOne_b22
  rw [ob_s e1]
  try dsimp only
  rw [ob_s ee]
  by_cases q : endS 1 z = 1
  · rw [if_pos (c1.mpr q), c1.mpr q]
    obtain ⟨v2, bf2, fr2, to2, tu2, co2, cs2, cm2, e2, g3, g4⟩ := valueOne_l hJ hz hT (lmS z).length 0 (kF - 1 - (lmS z).length) (-100000) v1 bf fr1 to1 tu1 co1 cs1 cm1 (by omega) hr (by omega) (by omega)
    have e : kF - 1 - (lmS z).length + (lmS z).length + 1 = kF := by unfold kF; omega
    rw [e, List.drop_zero] at e2
    refine ⟨v2, bf2, fr2, to2, tu2, co2, cs2, cm2, ?_, g3, frmP_trans hf (frmP_up (by omega) g4)⟩
    have ev : vlS 1 z = ((lmS z).map (fun m => -(vlS 0 (mkM z m)))).foldl max (-100000) := if_pos q
    rw [ev]
    exact e2
  · rw [if_neg (fun z => q (c1.mp z))]
    have ev : vlS 1 z = endS 1 z := if_neg q
    rw [ev]
    refine ⟨v1, bf, fr1, to1, tu1, co1, cs1, cm1, ?_, fun _ _ => rfl, hf⟩
    have e : kF = kF - 1 + 1 := by unfold kF; omega
    rw [e, m_X10_valueOne_l25_s]
    unfold m_X10_valueOne_b25 m_X10_valueOne_b77
    rw [if_neg (fun z => q (c1.mp z)), ite_self]
theorem valueTwo_l {J : Nat → Pz → Prop} (hJ : jOK J) {z : Pz} (hz : J 2 z) {top : Nat} (hT : top + 2 < 1030) : ∀ (dd k n : Nat) (b : Int) (v : Int32) (bf fr to tu co cs cm : Nat → Int32), k + dd = (lmS z).length → rowP 2 (lmS z) fr to tu co → -100000 ≤ b → b ≤ 100000 → ∃ (v' : Int32) (bf' fr' to' tu' co' cs' cm' : Nat → Int32), m_X10_valueTwo_l25 (n + dd + 1) (nI z.2.1) (nI z.2.2.1) (pI z.2.2.2.1) (nI z.2.2.2.2.1) (nI z.2.2.2.2.2) (nI top) v z.1 bf fr to tu co cs cm 1 (iI b) (nI k) = some (iI ((((lmS z).drop k).map (fun m => -(vlS 1 (mkM z m)))).foldl max b), nI z.2.1, nI z.2.2.1, pI z.2.2.2.1, nI z.2.2.2.2.1, nI z.2.2.2.2.2, nI top, v', z.1, bf', fr', to', tu', co', cs', cm') ∧ (∀ j, j < 69 * top → bf' j = bf j) ∧ frmP 2 fr to tu co fr' to' tu' co' := by
  have hok := hJ.1 2 z hz
  have hl := hok.2.2.2.2.2.1
  intro dd
  induction dd with
  | zero =>
    intro k n b v bf fr to tu co cs cm e hr h1 h2
    refine ⟨v, bf, fr, to, tu, co, cs, cm, ?_, fun _ _ => rfl, frmP_rfl⟩
    rw [m_X10_valueTwo_l25_s]
    unfold m_X10_valueTwo_b25 m_X10_valueTwo_b77
    have e1 : co (Int32.toNatClampNeg 2) = nI (lmS z).length := hr.1
    rw [e1, if_pos (nI_le (by omega) (by omega)), List.drop_eq_nil_of_le (by omega)]
    rfl
  | succ dd ih =>
    intro k n b v bf fr to tu co cs cm e hr h1 h2
    obtain ⟨m, hm1, hm2, hm3⟩ := drop_cons (l := lmS z) (k := k) (by omega)
    obtain ⟨r1, r2, r3⟩ := hr.2 k m hm1
    have hJm := hJ.2 1 z m hz hm2
    have hokm := hJ.1 1 _ hJm
    obtain ⟨v1, bf1, cs1, cm1, e1, g1, g2⟩ := x10_makeMove hok bf (top := top) (by omega) v fr to tu cs cm (d := 2) (k := k) (by omega) (by omega) hm2 r1 r2 r3
    have e1 : m_X10_makeMove (nI z.2.1) (nI z.2.2.1) (pI z.2.2.2.1) (nI z.2.2.2.2.1) (nI z.2.2.2.2.2) (nI top) v z.1 bf fr to tu cs cm 2 (nI k) = _ := e1
    have bd := vlS_bd hJ 1 _ (by omega) hJm
    obtain ⟨v2, bf2, fr2, to2, tu2, co2, cs2, cm2, e2, g3, g4⟩ := x10_valueOne hJ hJm (top := top + 1) (by omega) v1 bf1 fr to tu co cs1 cm1
    have g1' : hsP bf2 top z := hsP_cong g1 (fun j hj => g3 j hj)
    obtain ⟨v3, bf3, fr3, to3, tu3, co3, cs3, cm3, e3, g5, g6⟩ := ih (k + 1) n (max b (-(vlS 1 (mkM z m)))) v2 bf2 fr2 to2 tu2 co2 cs2 cm2 (by omega) (rowP_frm (by omega) hr g4) (by omega) (by omega)
    refine ⟨v3, bf3, fr3, to3, tu3, co3, cs3, cm3, ?_, fun j hj => (g5 j hj).trans ((g3 j (by omega)).trans (g2 j hj)), frmP_trans g4 g6⟩
    have ec : co (Int32.toNatClampNeg 2) = nI (lmS z).length := hr.1
    have ep := x10_pop (top := top) (by omega) g1' hok.1 hokm.1 (nI (mkM z m).2.1) (nI (mkM z m).2.2.1) (pI (mkM z m).2.2.2.1) (nI (mkM z m).2.2.2.2.1) (nI (mkM z m).2.2.2.2.2)
    rw [show n + (dd + 1) + 1 = n + dd + 1 + 1 from rfl, m_X10_valueTwo_l25_s]
    unfold m_X10_valueTwo_b25 m_X10_valueTwo_b70
    rw [ec, if_neg (nI_ge (by omega) (by omega)), if_pos rfl, ob_s e1]
    try dsimp only
    rw [ob_s e2]
    try dsimp only
    rw [ol_r, iI_0neg, ob_s ep]
    try dsimp only
    rw [ol_r, ol_r, nI_1, hm3, List.map_cons, List.foldl_cons]
    rw [max_if (-(vlS 1 (mkM z m))) b (by omega) (by omega) (by omega) (by omega) (fun q => m_X10_valueTwo_l25 (n + dd + 1) (nI z.2.1) (nI z.2.2.1) (pI z.2.2.2.1) (nI z.2.2.2.2.1) (nI z.2.2.2.2.2) (nI top) v2 z.1 bf2 fr2 to2 tu2 co2 cs2 cm2 1 q (nI (k + 1)))]
    exact e3
theorem x10_valueTwo {J : Nat → Pz → Prop} (hJ : jOK J) {z : Pz} (hz : J 2 z) {top : Nat} (hT : top + 2 < 1030) (v : Int32) (bf fr to tu co cs cm : Nat → Int32) : ∃ (v' : Int32) (bf' fr' to' tu' co' cs' cm' : Nat → Int32), m_X10_valueTwo (nI z.2.1) (nI z.2.2.1) (pI z.2.2.2.1) (nI z.2.2.2.2.1) (nI z.2.2.2.2.2) (nI top) v z.1 bf fr to tu co cs cm = some (iI (vlS 2 z), nI z.2.1, nI z.2.2.1, pI z.2.2.2.1, nI z.2.2.2.2.1, nI z.2.2.2.2.2, nI top, v', z.1, bf', fr', to', tu', co', cs', cm') ∧ (∀ j, j < 69 * top → bf' j = bf j) ∧ frmP 3 fr to tu co fr' to' tu' co' := by
  have hok := hJ.1 2 z hz
  have hl := hok.2.2.2.2.2.1
  obtain ⟨v1, fr1, to1, tu1, co1, cs1, cm1, e1, h1⟩ := x10_find hok.1 hok.2.1 hok.2.2.1 hok.2.2.2.1 hok.2.2.2.2.1 hl (d := 2) (by omega) v fr to tu co cs cm
  have e1 : m_X10_find (nI z.2.1) (nI z.2.2.1) (pI z.2.2.2.1) v z.1 fr to tu co cs cm 2 = _ := e1
  have hr := stP_row h1
  have hf := stP_frm h1
  have ee : m_X10_ended (nI z.2.1) (nI z.2.2.2.2.1) z.1 co1 2 = _ := x10_ended hok (d := 2) (by omega) hr
  have eb := endS_bd 2 (by omega) z
  have c1 : iI (endS 2 z) = 1 ↔ endS 2 z = 1 := iI_eq (b := 1) (by omega) (by omega) (by omega) (by omega)
  unfold m_X10_valueTwo m_X10_valueTwo_b22
  rw [ob_s e1]
  try dsimp only
  rw [ob_s ee]
  by_cases q : endS 2 z = 1
  · rw [if_pos (c1.mpr q), c1.mpr q]
    obtain ⟨v2, bf2, fr2, to2, tu2, co2, cs2, cm2, e2, g3, g4⟩ := valueTwo_l hJ hz hT (lmS z).length 0 (kF - 1 - (lmS z).length) (-100000) v1 bf fr1 to1 tu1 co1 cs1 cm1 (by omega) hr (by omega) (by omega)
    have e : kF - 1 - (lmS z).length + (lmS z).length + 1 = kF := by unfold kF; omega
    rw [e, List.drop_zero] at e2
    refine ⟨v2, bf2, fr2, to2, tu2, co2, cs2, cm2, ?_, g3, frmP_trans hf (frmP_up (by omega) g4)⟩
    have ev : vlS 2 z = ((lmS z).map (fun m => -(vlS 1 (mkM z m)))).foldl max (-100000) := if_pos q
    rw [ev]
    exact e2
  · rw [if_neg (fun z => q (c1.mp z))]
    have ev : vlS 2 z = endS 2 z := if_neg q
    rw [ev]
    refine ⟨v1, bf, fr1, to1, tu1, co1, cs1, cm1, ?_, fun _ _ => rfl, hf⟩
    have e : kF = kF - 1 + 1 := by unfold kF; omega
    rw [e, m_X10_valueTwo_l25_s]
    unfold m_X10_valueTwo_b25 m_X10_valueTwo_b77
    rw [if_neg (fun z => q (c1.mp z)), ite_self]
/-- behind a move: the value at one depth less -/
theorem x10_behind {J : Nat → Pz → Prop} (hJ : jOK J) {z : Pz} {d : Nat} (hd1 : 1 ≤ d) (hd3 : d ≤ 3) (hz : J d z) {top : Nat} (hT : top + 3 < 1030) (v : Int32) (bf fr to tu co cs cm : Nat → Int32) (hr : rowP d (lmS z) fr to tu co) {k : Nat} {m : Mv} (hk : k < 512) (hm1 : (lmS z)[k]? = some m) (hm2 : m ∈ lmS z) : ∃ (v' : Int32) (bf' fr' to' tu' co' cs' cm' : Nat → Int32), m_X10_behind (nI z.2.1) (nI z.2.2.1) (pI z.2.2.2.1) (nI z.2.2.2.2.1) (nI z.2.2.2.2.2) (nI top) v z.1 bf fr to tu co cs cm (nI d) (nI k) = some (iI (vlS (d - 1) (mkM z m)), nI z.2.1, nI z.2.2.1, pI z.2.2.2.1, nI z.2.2.2.2.1, nI z.2.2.2.2.2, nI top, v', z.1, bf', fr', to', tu', co', cs', cm') ∧ (∀ j, j < 69 * top → bf' j = bf j) ∧ frmP d fr to tu co fr' to' tu' co' := by
  have hok := hJ.1 d z hz
  have hJm : J (d - 1) (mkM z m) := hJ.2 (d - 1) z m (by rw [show d - 1 + 1 = d by omega]; exact hz) hm2
  have hokm := hJ.1 _ _ hJm
  obtain ⟨r1, r2, r3⟩ := hr.2 k m hm1
  obtain ⟨v1, bf1, cs1, cm1, e1, g1, g2⟩ := x10_makeMove hok bf (top := top) (by omega) v fr to tu cs cm (d := d) (k := k) (by omega) hk hm2 r1 r2 r3
  unfold m_X10_behind m_X10_behind_b34
  rw [ob_s e1]
  try dsimp only
  have : d = 1 ∨ d = 2 ∨ d = 3 := by omega
  rcases this with q | q | q
  · subst q
    rw [if_pos (by decide), ob_s (x10_worthNow hokm.1 hokm.2.1), ob_s (x10_pop (top := top) (by omega) g1 hok.1 hokm.1 _ _ _ _ _)]
    exact ⟨v1, bf1, fr, to, tu, co, cs1, cm1, rfl, g2, frmP_rfl⟩
  · subst q
    obtain ⟨v2, bf2, fr2, to2, tu2, co2, cs2, cm2, e2, g3, g4⟩ := x10_valueOne hJ hJm (top := top + 1) (by omega) v1 bf1 fr to tu co cs1 cm1
    rw [if_neg (by decide), if_pos (by decide), ob_s e2]
    try dsimp only
    rw [ob_s (x10_pop (top := top) (by omega) (hsP_cong g1 (fun j hj => g3 j hj)) hok.1 hokm.1 _ _ _ _ _)]
    exact ⟨v2, bf2, fr2, to2, tu2, co2, cs2, cm2, rfl, fun j hj => (g3 j (by omega)).trans (g2 j hj), g4⟩
  · subst q
    obtain ⟨v2, bf2, fr2, to2, tu2, co2, cs2, cm2, e2, g3, g4⟩ := x10_valueTwo hJ hJm (top := top + 1) (by omega) v1 bf1 fr to tu co cs1 cm1
    rw [if_neg (by decide), if_neg (by decide), ob_s e2]
    try dsimp only
    rw [ob_s (x10_pop (top := top) (by omega) (hsP_cong g1 (fun j hj => g3 j hj)) hok.1 hokm.1 _ _ _ _ _)]
    exact ⟨v2, bf2, fr2, to2, tu2, co2, cs2, cm2, rfl, fun j hj => (g3 j (by omega)).trans (g2 j hj), g4⟩
/-- the first of the moves behind which the value is the least: value and move -/
def lsS (g : Mv → Int) : List Mv → Int × Option Mv → Int × Option Mv
  | [], a => a
  | m :: l, a => lsS g l (if g m < a.1 then (g m, some m) else a)
def cvI : Option Mv → Int32 × Int32 × Int32
  | none => (-1, -1, -1)
  | some m => (nI m.1, nI m.2.1, nI m.2.2)
theorem lsS_bd {g : Mv → Int} {B : Int} : ∀ (l : List Mv) (a : Int × Option Mv), -B ≤ a.1 → a.1 ≤ B → (∀ m ∈ l, -B ≤ g m ∧ g m ≤ B) → -B ≤ (lsS g l a).1 ∧ (lsS g l a).1 ≤ B
  | [], a, h1, h2, _ => ⟨h1, h2⟩
  | m :: l, a, h1, h2, h => by
    have hm := h m List.mem_cons_self
    unfold lsS
    split
    · exact lsS_bd l _ hm.1 hm.2 (fun y hy => h y (List.mem_cons_of_mem _ hy))
    · exact lsS_bd l _ h1 h2 (fun y hy => h y (List.mem_cons_of_mem _ hy))
theorem search_l {J : Nat → Pz → Prop} (hJ : jOK J) {z : Pz} {d : Nat} (hd1 : 1 ≤ d) (hd3 : d ≤ 3) (hz : J d z) {top : Nat} (hT : top + 3 < 1030) (code : Int32) : ∀ (dd k n : Nat) (a : Int × Option Mv) (v : Int32) (bf fr to tu co cs cm : Nat → Int32), k + dd = (lmS z).length → rowP d (lmS z) fr to tu co → -100000 ≤ a.1 → a.1 ≤ 100000 → ∃ (v' : Int32) (bf' fr' to' tu' co' cs' cm' : Nat → Int32), m_X10_search_l53 (n + dd + 1) code (nI z.2.1) (nI z.2.2.1) (pI z.2.2.2.1) (nI z.2.2.2.2.1) (nI z.2.2.2.2.2) (nI top) (cvI a.2).1 (cvI a.2).2.1 (cvI a.2).2.2 v z.1 bf fr to tu co cs cm (nI d) (iI a.1) (nI k) = some (iI (if endS d z = 1 then -((lsS (fun m => vlS (d - 1) (mkM z m)) ((lmS z).drop k) a).1) else endS d z), code, nI z.2.1, nI z.2.2.1, pI z.2.2.2.1, nI z.2.2.2.2.1, nI z.2.2.2.2.2, nI top, (cvI (lsS (fun m => vlS (d - 1) (mkM z m)) ((lmS z).drop k) a).2).1, (cvI (lsS (fun m => vlS (d - 1) (mkM z m)) ((lmS z).drop k) a).2).2.1, (cvI (lsS (fun m => vlS (d - 1) (mkM z m)) ((lmS z).drop k) a).2).2.2, v', z.1, bf', fr', to', tu', co', cs', cm') ∧ (∀ j, j < 69 * top → bf' j = bf j) := by
  have hok := hJ.1 d z hz
  have hl := hok.2.2.2.2.2.1
  intro dd
  induction dd with
  | zero =>
    intro k n a v bf fr to tu co cs cm e hr h1 h2
    refine ⟨v, bf, fr, to, tu, co, cs, cm, ?_, fun _ _ => rfl⟩
    rw [m_X10_search_l53_s]
    unfold m_X10_search_b53 m_X10_search_b152
    have eb := endS_bd d (by omega) z
    have c1 : iI (endS d z) = 1 ↔ endS d z = 1 := iI_eq (b := 1) (by omega) (by omega) (by omega) (by omega)
    rw [oin_t (pk_in d 5 (by omega)), nI_clamp (by omega), hr.1, if_pos (nI_le (by omega) (by omega)), List.drop_eq_nil_of_le (by omega), ob_s (x10_ended hok (by omega) hr), iI_0neg]
    unfold lsS
    by_cases q : endS d z = 1
    · rw [if_pos (c1.mpr q), if_pos q]
    · rw [if_neg (fun z => q (c1.mp z)), if_neg q]
  | succ dd ih =>
    intro k n a v bf fr to tu co cs cm e hr h1 h2
    obtain ⟨m, hm1, hm2, hm3⟩ := drop_cons (l := lmS z) (k := k) (by omega)
    have hJm : J (d - 1) (mkM z m) := hJ.2 (d - 1) z m (by rw [show d - 1 + 1 = d by omega]; exact hz) hm2
    have bd := vlS_bd hJ (d - 1) _ (by omega) hJm
    obtain ⟨v1, bf1, fr1, to1, tu1, co1, cs1, cm1, e1, g1, g2⟩ := x10_behind hJ hd1 hd3 hz hT v bf fr to tu co cs cm hr (by omega) hm1 hm2
    have hr1 := rowP_frm (Nat.le_refl d) hr g2
    obtain ⟨r1, r2, r3⟩ := hr1.2 k m hm1
    have es : lsS (fun m => vlS (d - 1) (mkM z m)) ((lmS z).drop k) a = lsS (fun m => vlS (d - 1) (mkM z m)) ((lmS z).drop (k + 1)) (if vlS (d - 1) (mkM z m) < a.1 then (vlS (d - 1) (mkM z m), some m) else a) := by
      rw [hm3]
      rfl
    rw [es]
    have e2 : 512 * nI d = nI (512 * d) := pk_mul 512 d
    have step : ∀ a' : Int × Option Mv, a' = (if vlS (d - 1) (mkM z m) < a.1 then (vlS (d - 1) (mkM z m), some m) else a) → m_X10_search_l53 (n + (dd + 1) + 1) code (nI z.2.1) (nI z.2.2.1) (pI z.2.2.2.1) (nI z.2.2.2.2.1) (nI z.2.2.2.2.2) (nI top) (cvI a.2).1 (cvI a.2).2.1 (cvI a.2).2.2 v z.1 bf fr to tu co cs cm (nI d) (iI a.1) (nI k) = m_X10_search_l53 (n + dd + 1) code (nI z.2.1) (nI z.2.2.1) (pI z.2.2.2.1) (nI z.2.2.2.2.1) (nI z.2.2.2.2.2) (nI top) (cvI a'.2).1 (cvI a'.2).2.1 (cvI a'.2).2.2 v1 z.1 bf1 fr1 to1 tu1 co1 cs1 cm1 (nI d) (iI a'.1) (nI (k + 1)) := by
      intro a' ha
      rw [show n + (dd + 1) + 1 = n + dd + 1 + 1 from rfl, m_X10_search_l53_s]
      unfold m_X10_search_b53 m_X10_search_b128
      rw [oin_t (pk_in d 5 (by omega)), nI_clamp (by omega), hr.1, if_neg (nI_ge (by omega) (by omega)), ob_s e1]
      try dsimp only
      rw [e2, nI_add]
      simp only [ol_r, oin_n (show 512 * d + k < 2560 by omega) (show 2560 < 2 ^ 31 by omega), nI_clamp (show 512 * d + k < 2 ^ 31 by omega), r1, r2, r3]
      try dsimp only
      rw [nI_1]
      have cl : iI a.1 ≤ iI (vlS (d - 1) (mkM z m)) ↔ a.1 ≤ vlS (d - 1) (mkM z m) := iI_le (by omega) (by omega) (by omega) (by omega)
      by_cases q : vlS (d - 1) (mkM z m) < a.1
      · rw [if_pos q] at ha
        subst ha
        rw [if_neg (fun z => by have := cl.mp z; omega)]
        rfl
      · rw [if_neg q] at ha
        subst ha
        rw [if_pos (cl.mpr (by omega))]
    rw [step _ rfl]
    obtain ⟨v2, bf2, fr2, to2, tu2, co2, cs2, cm2, e3, g3⟩ := ih (k + 1) n (if vlS (d - 1) (mkM z m) < a.1 then (vlS (d - 1) (mkM z m), some m) else a) v1 bf1 fr1 to1 tu1 co1 cs1 cm1 (by omega) hr1 (by split <;> omega) (by split <;> omega)
    exact ⟨v2, bf2, fr2, to2, tu2, co2, cs2, cm2, e3, fun j hj => (g3 j hj).trans (g1 j hj)⟩
/-- what search answers, and what it chooses -/
def seS (d : Nat) (z : Pz) : Int × Option Mv := lsS (fun m => vlS (d - 1) (mkM z m)) (lmS z) (100000, none)
theorem x10_search {J : Nat → Pz → Prop} (hJ : jOK J) {z : Pz} {d : Nat} (hd1 : 1 ≤ d) (hd3 : d ≤ 3) (hz : J d z) {top : Nat} (hT : top + 3 < 1030) (code c1 c2 c3 v : Int32) (bf fr to tu co cs cm : Nat → Int32) : ∃ (v' : Int32) (bf' fr' to' tu' co' cs' cm' : Nat → Int32), m_X10_search code (nI z.2.1) (nI z.2.2.1) (pI z.2.2.2.1) (nI z.2.2.2.2.1) (nI z.2.2.2.2.2) (nI top) c1 c2 c3 v z.1 bf fr to tu co cs cm (nI d) = some (iI (if endS d z = 1 then -((seS d z).1) else endS d z), 0, nI z.2.1, nI z.2.2.1, pI z.2.2.2.1, nI z.2.2.2.2.1, nI z.2.2.2.2.2, nI top, (cvI (seS d z).2).1, (cvI (seS d z).2).2.1, (cvI (seS d z).2).2.2, v', z.1, bf', fr', to', tu', co', cs', cm') ∧ (∀ j, j < 69 * top → bf' j = bf j) := by
  have hok := hJ.1 d z hz
  have hl := hok.2.2.2.2.2.1
  obtain ⟨v1, fr1, to1, tu1, co1, cs1, cm1, e1, h1⟩ := x10_find hok.1 hok.2.1 hok.2.2.1 hok.2.2.2.1 hok.2.2.2.2.1 hl (d := d) (by omega) v fr to tu co cs cm
  obtain ⟨v2, bf2, fr2, to2, tu2, co2, cs2, cm2, e2, g2⟩ := search_l hJ hd1 hd3 hz hT 0 (lmS z).length 0 (kF - 1 - (lmS z).length) (100000, none) v1 bf fr1 to1 tu1 co1 cs1 cm1 (by omega) (stP_row h1) (by show (-100000 : Int) ≤ 100000; omega) (by show (100000 : Int) ≤ 100000; omega)
  have e : kF - 1 - (lmS z).length + (lmS z).length + 1 = kF := by unfold kF; omega
  rw [e, List.drop_zero] at e2
  refine ⟨v2, bf2, fr2, to2, tu2, co2, cs2, cm2, ?_, g2⟩
  unfold m_X10_search m_X10_search_b16
  have k1 : ¬ nI d < 1 := nI_nlt (b := 1) (by omega) (by omega)
  have k2 : nI d ≤ 3 := nI_le (b := 3) (by omega) (by omega)
  rw [if_neg k1, if_pos k2, if_pos (by decide), ob_s e1]
  exact e2
def wyS : Nat → Pz → Nat
  | 0, _ => 1
  | n + 1, z => ((lmS z).map (fun m => wyS n (mkM z m))).foldl (fun a b => a + b) 0
theorem wy1 (z : Pz) : wyS 1 z = (lmS z).length := by
  show ((lmS z).map (fun m => 1)).foldl (fun a b => a + b) 0 = _
  have : ∀ (l : List Mv) (a : Nat), (l.map (fun _ => 1)).foldl (fun a b => a + b) a = a + l.length := by
    intro l
    induction l with
    | nil => intro a; rfl
    | cons x l ih => intro a; rw [List.map_cons, List.foldl_cons, ih, List.length_cons]; omega
  rw [this]
  omega
theorem x10_waysOne {J : Nat → Pz → Prop} (hJ : jOK J) {z : Pz} {k : Nat} (hz : J k z) (v : Int32) (fr to tu co cs cm : Nat → Int32) : ∃ (v' : Int32) (fr' to' tu' co' cs' cm' : Nat → Int32), m_X10_waysOne (nI z.2.1) (nI z.2.2.1) (pI z.2.2.2.1) v z.1 fr to tu co cs cm = some (nI (wyS 1 z), v', z.1, fr', to', tu', co', cs', cm') ∧ frmP 2 fr to tu co fr' to' tu' co' := by
  have hok := hJ.1 k z hz
  obtain ⟨v1, fr1, to1, tu1, co1, cs1, cm1, e1, h1⟩ := x10_find hok.1 hok.2.1 hok.2.2.1 hok.2.2.2.1 hok.2.2.2.2.1 hok.2.2.2.2.2.1 (d := 1) (by omega) v fr to tu co cs cm
  have e1 : m_X10_find (nI z.2.1) (nI z.2.2.1) (pI z.2.2.2.1) v z.1 fr to tu co cs cm 1 = _ := e1
  refine ⟨v1, fr1, to1, tu1, co1, cs1, cm1, ?_, stP_frm h1⟩
  unfold m_X10_waysOne
  rw [ob_s e1, wy1, ← h1.1]
  rfl
theorem waysTwo_l {J : Nat → Pz → Prop} (hJ : jOK J) {z : Pz} (hz : J 2 z) {top : Nat} (hT : top + 2 < 1030) : ∀ (dd k n : Nat) (b : Nat) (v : Int32) (bf fr to tu co cs cm : Nat → Int32), k + dd = (lmS z).length → rowP 2 (lmS z) fr to tu co → ∃ (v' : Int32) (bf' fr' to' tu' co' cs' cm' : Nat → Int32), m_X10_waysTwo_l9 (n + dd + 1) (nI z.2.1) (nI z.2.2.1) (pI z.2.2.2.1) (nI z.2.2.2.2.1) (nI z.2.2.2.2.2) (nI top) v z.1 bf fr to tu co cs cm (nI b) (nI k) = some (nI ((((lmS z).drop k).map (fun m => wyS 1 (mkM z m))).foldl (fun a b => a + b) b), nI z.2.1, nI z.2.2.1, pI z.2.2.2.1, nI z.2.2.2.2.1, nI z.2.2.2.2.2, nI top, v', z.1, bf', fr', to', tu', co', cs', cm') ∧ (∀ j, j < 69 * top → bf' j = bf j) ∧ frmP 2 fr to tu co fr' to' tu' co' := by
  have hok := hJ.1 2 z hz
  have hl := hok.2.2.2.2.2.1
  intro dd
  induction dd with
  | zero =>
    intro k n b v bf fr to tu co cs cm e hr
    refine ⟨v, bf, fr, to, tu, co, cs, cm, ?_, fun _ _ => rfl, frmP_rfl⟩
    rw [m_X10_waysTwo_l9_s]
    unfold m_X10_waysTwo_b9
    have e1 : co (Int32.toNatClampNeg 2) = nI (lmS z).length := hr.1
    rw [e1, if_pos (nI_le (by omega) (by omega)), List.drop_eq_nil_of_le (by omega)]
    rfl
  | succ dd ih =>
    intro k n b v bf fr to tu co cs cm e hr
    obtain ⟨m, hm1, hm2, hm3⟩ := drop_cons (l := lmS z) (k := k) (by omega)
    obtain ⟨r1, r2, r3⟩ := hr.2 k m hm1
    have hJm := hJ.2 1 z m hz hm2
    have hokm := hJ.1 1 _ hJm
    obtain ⟨v1, bf1, cs1, cm1, e1, g1, g2⟩ := x10_makeMove hok bf (top := top) (by omega) v fr to tu cs cm (d := 2) (k := k) (by omega) (by omega) hm2 r1 r2 r3
    have e1 : m_X10_makeMove (nI z.2.1) (nI z.2.2.1) (pI z.2.2.2.1) (nI z.2.2.2.2.1) (nI z.2.2.2.2.2) (nI top) v z.1 bf fr to tu cs cm 2 (nI k) = _ := e1
    have ec : co (Int32.toNatClampNeg 2) = nI (lmS z).length := hr.1
    obtain ⟨v2, fr2, to2, tu2, co2, cs2, cm2, e2, g4⟩ := x10_waysOne hJ hJm v1 fr to tu co cs1 cm1
    obtain ⟨v3, bf3, fr3, to3, tu3, co3, cs3, cm3, e3, g5, g6⟩ := ih (k + 1) n (b + wyS 1 (mkM z m)) v2 bf1 fr2 to2 tu2 co2 cs2 cm2 (by omega) (rowP_frm (by omega) hr g4)
    refine ⟨v3, bf3, fr3, to3, tu3, co3, cs3, cm3, ?_, fun j hj => (g5 j hj).trans (g2 j hj), frmP_trans g4 g6⟩
    have g1' := g1
    have ep := x10_pop (top := top) (by omega) g1' hok.1 hokm.1 (nI (mkM z m).2.1) (nI (mkM z m).2.2.1) (pI (mkM z m).2.2.2.1) (nI (mkM z m).2.2.2.2.1) (nI (mkM z m).2.2.2.2.2)
    rw [show n + (dd + 1) + 1 = n + dd + 1 + 1 from rfl, m_X10_waysTwo_l9_s]
    unfold m_X10_waysTwo_b9
    rw [ec, if_neg (nI_ge (by omega) (by omega)), ob_s e1]
    try dsimp only
    rw [ob_s e2]
    try dsimp only
    rw [ol_r, nI_add, ob_s ep]
    try dsimp only
    rw [ol_r, nI_1, hm3, List.map_cons, List.foldl_cons]
    exact e3
theorem x10_waysTwo {J : Nat → Pz → Prop} (hJ : jOK J) {z : Pz} (hz : J 2 z) {top : Nat} (hT : top + 2 < 1030) (v : Int32) (bf fr to tu co cs cm : Nat → Int32) : ∃ (v' : Int32) (bf' fr' to' tu' co' cs' cm' : Nat → Int32), m_X10_waysTwo (nI z.2.1) (nI z.2.2.1) (pI z.2.2.2.1) (nI z.2.2.2.2.1) (nI z.2.2.2.2.2) (nI top) v z.1 bf fr to tu co cs cm = some (nI (wyS 2 z), nI z.2.1, nI z.2.2.1, pI z.2.2.2.1, nI z.2.2.2.2.1, nI z.2.2.2.2.2, nI top, v', z.1, bf', fr', to', tu', co', cs', cm') ∧ (∀ j, j < 69 * top → bf' j = bf j) ∧ frmP 3 fr to tu co fr' to' tu' co' := by
  have hok := hJ.1 2 z hz
  have hl := hok.2.2.2.2.2.1
  obtain ⟨v1, fr1, to1, tu1, co1, cs1, cm1, e1, h1⟩ := x10_find hok.1 hok.2.1 hok.2.2.1 hok.2.2.2.1 hok.2.2.2.2.1 hl (d := 2) (by omega) v fr to tu co cs cm
  have e1 : m_X10_find (nI z.2.1) (nI z.2.2.1) (pI z.2.2.2.1) v z.1 fr to tu co cs cm 2 = _ := e1
  obtain ⟨v2, bf2, fr2, to2, tu2, co2, cs2, cm2, e2, g3, g4⟩ := waysTwo_l hJ hz hT (lmS z).length 0 (kF - 1 - (lmS z).length) 0 v1 bf fr1 to1 tu1 co1 cs1 cm1 (by omega) (stP_row h1)
  have e : kF - 1 - (lmS z).length + (lmS z).length + 1 = kF := by unfold kF; omega
  rw [e, List.drop_zero] at e2
  refine ⟨v2, bf2, fr2, to2, tu2, co2, cs2, cm2, ?_, g3, frmP_trans (stP_frm h1) (frmP_up (by omega) g4)⟩
  unfold m_X10_waysTwo
  rw [ob_s e1]
  exact e2
theorem waysThree_l {J : Nat → Pz → Prop} (hJ : jOK J) {z : Pz} (hz : J 3 z) {top : Nat} (hT : top + 3 < 1030) : ∀ (dd k n : Nat) (b : Nat) (v : Int32) (bf fr to tu co cs cm : Nat → Int32), k + dd = (lmS z).length → rowP 3 (lmS z) fr to tu co → ∃ (v' : Int32) (bf' fr' to' tu' co' cs' cm' : Nat → Int32), m_X10_waysThree_l9 (n + dd + 1) (nI z.2.1) (nI z.2.2.1) (pI z.2.2.2.1) (nI z.2.2.2.2.1) (nI z.2.2.2.2.2) (nI top) v z.1 bf fr to tu co cs cm (nI b) (nI k) = some (nI ((((lmS z).drop k).map (fun m => wyS 2 (mkM z m))).foldl (fun a b => a + b) b), nI z.2.1, nI z.2.2.1, pI z.2.2.2.1, nI z.2.2.2.2.1, nI z.2.2.2.2.2, nI top, v', z.1, bf', fr', to', tu', co', cs', cm') ∧ (∀ j, j < 69 * top → bf' j = bf j) ∧ frmP 3 fr to tu co fr' to' tu' co' := by
  have hok := hJ.1 3 z hz
  have hl := hok.2.2.2.2.2.1
  intro dd
  induction dd with
  | zero =>
    intro k n b v bf fr to tu co cs cm e hr
    refine ⟨v, bf, fr, to, tu, co, cs, cm, ?_, fun _ _ => rfl, frmP_rfl⟩
    rw [m_X10_waysThree_l9_s]
    unfold m_X10_waysThree_b9
    have e1 : co (Int32.toNatClampNeg 3) = nI (lmS z).length := hr.1
    rw [e1, if_pos (nI_le (by omega) (by omega)), List.drop_eq_nil_of_le (by omega)]
    rfl
  | succ dd ih =>
    intro k n b v bf fr to tu co cs cm e hr
    obtain ⟨m, hm1, hm2, hm3⟩ := drop_cons (l := lmS z) (k := k) (by omega)
    obtain ⟨r1, r2, r3⟩ := hr.2 k m hm1
    have hJm := hJ.2 2 z m hz hm2
    have hokm := hJ.1 2 _ hJm
    obtain ⟨v1, bf1, cs1, cm1, e1, g1, g2⟩ := x10_makeMove hok bf (top := top) (by omega) v fr to tu cs cm (d := 3) (k := k) (by omega) (by omega) hm2 r1 r2 r3
    have e1 : m_X10_makeMove (nI z.2.1) (nI z.2.2.1) (pI z.2.2.2.1) (nI z.2.2.2.2.1) (nI z.2.2.2.2.2) (nI top) v z.1 bf fr to tu cs cm 3 (nI k) = _ := e1
    have ec : co (Int32.toNatClampNeg 3) = nI (lmS z).length := hr.1
    obtain ⟨v2, bf2, fr2, to2, tu2, co2, cs2, cm2, e2, g3, g4⟩ := x10_waysTwo hJ hJm (top := top + 1) (by omega) v1 bf1 fr to tu co cs1 cm1
    have g1' : hsP bf2 top z := hsP_cong g1 (fun j hj => g3 j hj)
    obtain ⟨v3, bf3, fr3, to3, tu3, co3, cs3, cm3, e3, g5, g6⟩ := ih (k + 1) n (b + wyS 2 (mkM z m)) v2 bf2 fr2 to2 tu2 co2 cs2 cm2 (by omega) (rowP_frm (by omega) hr g4)
    refine ⟨v3, bf3, fr3, to3, tu3, co3, cs3, cm3, ?_, fun j hj => (g5 j hj).trans ((g3 j (by omega)).trans (g2 j hj)), frmP_trans g4 g6⟩
    have ep := x10_pop (top := top) (by omega) g1' hok.1 hokm.1 (nI (mkM z m).2.1) (nI (mkM z m).2.2.1) (pI (mkM z m).2.2.2.1) (nI (mkM z m).2.2.2.2.1) (nI (mkM z m).2.2.2.2.2)
    rw [show n + (dd + 1) + 1 = n + dd + 1 + 1 from rfl, m_X10_waysThree_l9_s]
    unfold m_X10_waysThree_b9
    rw [ec, if_neg (nI_ge (by omega) (by omega)), ob_s e1]
    try dsimp only
    rw [ob_s e2]
    try dsimp only
    rw [ol_r, nI_add, ob_s ep]
    try dsimp only
    rw [ol_r, nI_1, hm3, List.map_cons, List.foldl_cons]
    exact e3
theorem x10_waysThree {J : Nat → Pz → Prop} (hJ : jOK J) {z : Pz} (hz : J 3 z) {top : Nat} (hT : top + 3 < 1030) (v : Int32) (bf fr to tu co cs cm : Nat → Int32) : ∃ (v' : Int32) (bf' fr' to' tu' co' cs' cm' : Nat → Int32), m_X10_waysThree (nI z.2.1) (nI z.2.2.1) (pI z.2.2.2.1) (nI z.2.2.2.2.1) (nI z.2.2.2.2.2) (nI top) v z.1 bf fr to tu co cs cm = some (nI (wyS 3 z), nI z.2.1, nI z.2.2.1, pI z.2.2.2.1, nI z.2.2.2.2.1, nI z.2.2.2.2.2, nI top, v', z.1, bf', fr', to', tu', co', cs', cm') ∧ (∀ j, j < 69 * top → bf' j = bf j) ∧ frmP 4 fr to tu co fr' to' tu' co' := by
  have hok := hJ.1 3 z hz
  have hl := hok.2.2.2.2.2.1
  obtain ⟨v1, fr1, to1, tu1, co1, cs1, cm1, e1, h1⟩ := x10_find hok.1 hok.2.1 hok.2.2.1 hok.2.2.2.1 hok.2.2.2.2.1 hl (d := 3) (by omega) v fr to tu co cs cm
  have e1 : m_X10_find (nI z.2.1) (nI z.2.2.1) (pI z.2.2.2.1) v z.1 fr to tu co cs cm 3 = _ := e1
  obtain ⟨v2, bf2, fr2, to2, tu2, co2, cs2, cm2, e2, g3, g4⟩ := waysThree_l hJ hz hT (lmS z).length 0 (kF - 1 - (lmS z).length) 0 v1 bf fr1 to1 tu1 co1 cs1 cm1 (by omega) (stP_row h1)
  have e : kF - 1 - (lmS z).length + (lmS z).length + 1 = kF := by unfold kF; omega
  rw [e, List.drop_zero] at e2
  refine ⟨v2, bf2, fr2, to2, tu2, co2, cs2, cm2, ?_, g3, frmP_trans (stP_frm h1) (frmP_up (by omega) g4)⟩
  unfold m_X10_waysThree
  rw [ob_s e1]
  exact e2
