/-! the net: reads -/
abbrev wtw (w : Wy) : Nat := wt (wK w) (wG w) (wL w)
abbrev miw (w : Wy) : Nat := mi (wK w) (wG w) (wT w)
theorem i32_0 : (0 : Int32).toInt = 0 := by decide
theorem i64_0 : (0 : Int64).toInt = 0 := by decide
theorem sub1 {n : Nat} (h : n < 2 ^ 30) : (nI n - 1).toInt = (n : Int) - 1 := pk_sub_toInt (a := n) (b := 1) h (by decide)
theorem isPoint8 {N : SX3} {P : Nat} (h : n_points N = nI P) (hP : P < 2 ^ 30) (a : Int32) : fX3_isPoint N a = some (if 0 ≤ a.toInt ∧ a.toInt < P then 1 else 0) := by
  unfold fX3_isPoint
  have hz := i32_0
  have hp := nI_toInt (n := P) (by omega)
  by_cases h1 : a < 0
  · rw [if_pos h1, if_neg (by rw [i32_lt] at h1; omega)]
  · rw [if_neg h1, h]
    by_cases h2 : nI P ≤ a
    · rw [if_pos h2, if_neg (by rw [i32_le] at h2; omega)]
    · rw [if_neg h2, if_pos (by rw [i32_le] at h2; rw [i32_lt] at h1; omega)]
theorem isWay8 {N : SX3} {P : Nat} (h : n_ways N = nI P) (hP : P < 2 ^ 30) (a : Int32) : fX3_isWay N a = some (if 0 ≤ a.toInt ∧ a.toInt < P then 1 else 0) := by
  unfold fX3_isWay
  have hz := i32_0
  have hp := nI_toInt (n := P) (by omega)
  by_cases h1 : a < 0
  · rw [if_pos h1, if_neg (by rw [i32_lt] at h1; omega)]
  · rw [if_neg h1, h]
    by_cases h2 : nI P ≤ a
    · rw [if_pos h2, if_neg (by rw [i32_le] at h2; omega)]
    · rw [if_neg h2, if_pos (by rw [i32_le] at h2; rw [i32_lt] at h1; omega)]
theorem isPoint9 {y : SX9} {P : Nat} (h : m_points y = nI P) (hP : P < 2 ^ 30) (a : Int32) : fX9_isPoint y a = some (if 0 ≤ a.toInt ∧ a.toInt < P then 1 else 0) := by
  unfold fX9_isPoint
  rw [h, isIn01 (l := 0) (h := (P : Int) - 1) (by decide) (by rw [i32_64, sub1 hP]), i32_64]
  congr 1
  by_cases q : 0 ≤ a.toInt ∧ a.toInt < P
  · rw [if_pos q, if_pos (by omega)]
  · rw [if_neg q, if_neg (by omega)]
theorem isWay9 {y : SX9} {P : Nat} (h : m_many y = nI P) (hP : P < 2 ^ 30) (a : Int32) : fX9_isWay y a = some (if 0 ≤ a.toInt ∧ a.toInt < P then 1 else 0) := by
  unfold fX9_isWay
  rw [h, isIn01 (l := 0) (h := (P : Int) - 1) (by decide) (by rw [i32_64, sub1 hP]), i32_64]
  congr 1
  by_cases q : 0 ≤ a.toInt ∧ a.toInt < P
  · rw [if_pos q, if_pos (by omega)]
  · rw [if_neg q, if_neg (by omega)]
theorem weight8 {N : SX3} {P k : Nat} {w : Wy} (hk : k < 11) (h : NWat N k w) (hw : Wok P w) : fX3_weight N (nI k) = some (nI (wtw w)) := by
  obtain ⟨h1, h2, h3, h4, h5, h6⟩ := h
  obtain ⟨w1, w2, w3, w4, w5, w6, w7, w8, w9⟩ := hw
  unfold fX3_weight
  rw [ga_ok hk (by decide), ga_ok hk (by decide), ga_ok hk (by decide), h3, h4, h5, fin_wt8 _ (by omega) _ (by omega) _ (by omega)]
  rfl
theorem weight9 {y : SX9} {P k : Nat} {w : Wy} (hk : k < 11) (h : MWat y k w) (hw : Wok P w) : fX9_weight y (nI k) = some (nI (wtw w)) := by
  obtain ⟨h1, h2, h3, h4, h5, h6⟩ := h
  obtain ⟨w1, w2, w3, w4, w5, w6, w7, w8, w9⟩ := hw
  unfold fX9_weight
  rw [ga_ok hk (by decide), ga_ok hk (by decide), ga_ok hk (by decide), h3, h4, h5, fin_wt9 _ (by omega) _ (by omega) _ (by omega)]
  rfl
theorem minutes8 {N : SX3} {P k : Nat} {w : Wy} (hk : k < 11) (h : NWat N k w) (hw : Wok P w) : fX3_minutes N (nI k) = some (nI (miw w)) := by
  obtain ⟨h1, h2, h3, h4, h5, h6⟩ := h
  obtain ⟨w1, w2, w3, w4, w5, w6, w7, w8, w9⟩ := hw
  unfold fX3_minutes
  rw [ga_ok hk (by decide), ga_ok hk (by decide), ga_ok hk (by decide), h3, h4, h6, fin_mi8 _ (by omega) _ (by omega) _ (by omega)]
  rfl
theorem fin_mi9 : ∀ k, k < 6 → ∀ g, g < 10 → ∀ l, l < 10 → (if nI k = (2 : Int32) then some ((nI l + 1) / 2) else if nI k = (3 : Int32) then some ((nI l + 1) / 2) else if nI k = (4 : Int32) then some (nI l + nI g) else if nI k = (5 : Int32) then some (nI l + nI g) else some (nI l)) = some (nI (mi k g l)) := by decide +kernel
theorem minutes9 {y : SX9} {P k : Nat} {w : Wy} (hk : k < 11) (h : MWat y k w) (hw : Wok P w) : fX9_minutes y (nI k) = some (nI (miw w)) := by
  obtain ⟨h1, h2, h3, h4, h5, h6⟩ := h
  obtain ⟨w1, w2, w3, w4, w5, w6, w7, w8, w9⟩ := hw
  unfold fX9_minutes qX9_minutes_36 qX9_minutes_47
  simp only [ga_ok hk (show 11 < 2 ^ 31 by decide), h3, h4, h6]
  exact fin_mi9 _ (by omega) _ (by omega) _ (by omega)
theorem touches8 {N : SX3} {k p : Nat} {w : Wy} (hk : k < 11) (h : NWat N k w) (hf : wF w < 2 ^ 31) (hs : wS w < 2 ^ 31) (hp : p < 2 ^ 31) : fX3_touches N (nI k) (nI p) = some (if wF w = p ∨ wS w = p then 1 else 0) := by
  unfold fX3_touches qX3_touches_20
  rw [ga_ok hk (by decide), h.1]
  by_cases e1 : wF w = p
  · rw [if_pos (by rw [e1]), if_pos (Or.inl e1)]
  · rw [if_neg (fun z => e1 ((nI_eq hf hp).mp z)), ga_ok hk (by decide), h.2.1]
    by_cases e2 : wS w = p
    · rw [if_pos (by rw [e2]), if_pos (Or.inr e2)]
    · rw [if_neg (fun z => e2 ((nI_eq hs hp).mp z)), if_neg (fun z => z.elim e1 e2)]
theorem other8 {N : SX3} {k p : Nat} {w : Wy} (hk : k < 11) (h : NWat N k w) (hf : wF w < 2 ^ 31) (hp : p < 2 ^ 31) : fX3_otherEnd N (nI k) (nI p) = some (nI (if wF w = p then wS w else wF w)) := by
  unfold fX3_otherEnd
  rw [ga_ok hk (by decide), h.1]
  by_cases e1 : wF w = p
  · rw [if_pos (by rw [e1]), if_pos e1, ga_ok hk (by decide), h.2.1]
  · rw [if_neg (fun z => e1 ((nI_eq hf hp).mp z)), if_neg e1, ga_ok hk (by decide), h.1]
