/-! kind, load, length -/
theorem isKind8 (a : Int32) : fX8_isKind a = some (if 0 ≤ a.toInt ∧ a.toInt < 6 then 1 else 0) := by
  have hz := i32_0
  have h6 : (6 : Int32).toInt = 6 := by decide
  unfold fX8_isKind
  by_cases h1 : a < 0
  · rw [if_pos h1, if_neg (by rw [i32_lt] at h1; omega)]
  · rw [if_neg h1]
    by_cases h2 : (6 : Int32) ≤ a
    · rw [if_pos h2, if_neg (by rw [i32_le] at h2; omega)]
    · rw [if_neg h2, if_pos (by rw [i32_le] at h2; rw [i32_lt] at h1; omega)]
theorem isKind9 (a : Int32) : fX9_isIn a.toInt64 0 5 = some (if 0 ≤ a.toInt ∧ a.toInt < 6 then 1 else 0) := by
  have h5 : (5 : Int64).toInt = 5 := by decide
  rw [isIn_eq, i64_0, h5, i32_64]
  congr 1
  by_cases q : 0 ≤ a.toInt ∧ a.toInt < 6
  · rw [if_pos q, if_pos (by omega)]
  · rw [if_neg q, if_neg (by omega)]
/-- a number of a way, changed in one of its six rows -/
theorem NE.set {N N' : SX3} {P W k : Nat} {w : Nat → Wy} {v : Wy} (hN : NE N P W w) (hp : n_points N' = n_points N) (hw : n_ways N' = n_ways N) (hk : NWat N' k v) (ho : ∀ j u, j ≠ k → NWat N j u → NWat N' j u) : NE N' P W (va_up w k v) := by
  refine ⟨hp.trans hN.1, hw.trans hN.2.1, fun j hj => ?_⟩
  by_cases e : j = k
  · subst e; rw [vaup_s]; exact hk
  · rw [vaup_n e]; exact ho j _ e (hN.2.2 j hj)
theorem ME6.set {p m : Int32} {f s kd g lo le f' s' kd' g' lo' le' : Nat → Int32} {P W k : Nat} {w : Nat → Wy} {v : Wy} (hM : ME6 p m f s kd g lo le P W w) (hk : Wat f' s' kd' g' lo' le' k v) (ho : ∀ j u, j ≠ k → Wat f s kd g lo le j u → Wat f' s' kd' g' lo' le' j u) : ME6 p m f' s' kd' g' lo' le' P W (va_up w k v) := by
  refine ⟨hM.1, hM.2.1, fun j hj => ?_⟩
  by_cases e : j = k
  · subst e; rw [vaup_s]; exact hk
  · rw [vaup_n e]; exact ho j _ e (hM.2.2 j hj)
theorem NV.set {P W k : Nat} {w : Nat → Wy} {v : Wy} (hV : NV P W w) (hv : Wok P v) : NV P W (va_up w k v) := by
  refine ⟨hV.1, hV.2.1, hV.2.2.1, fun j hj => ?_⟩
  by_cases e : j = k
  · subst e; rw [vaup_s]; exact hv
  · rw [vaup_n e]; exact hV.2.2.2 j hj
theorem rON9 {v : Int32} : (if (1 : Int32) ≤ v then (if v ≤ (9 : Int32) then some (0 : Int32) else some (-6 : Int32)) else some (-4 : Int32)) = some (if (1 : Int32) ≤ v then (if v ≤ (9 : Int32) then 0 else -6) else -4) := by
  split
  · split <;> rfl
  · rfl
theorem rON19 {v : Int32} : (∃ c, (c = -1 ∨ c = -2 ∨ c = -3 ∨ c = -4 ∨ c = -6) ∧ (if (1 : Int32) ≤ v then (if v ≤ (9 : Int32) then (0 : Int32) else -6) else -4) = c) ∨ ∃ n : Nat, 1 ≤ n ∧ n ≤ 9 ∧ v = nI n ∧ (if (1 : Int32) ≤ v then (if v ≤ (9 : Int32) then (0 : Int32) else -6) else -4) = 0 := by
  have z1 := i32_1
  have z9 := i32_9
  by_cases h1 : (1 : Int32) ≤ v
  · by_cases h2 : v ≤ (9 : Int32)
    · have h1' := h1; have h2' := h2
      rw [i32_le] at h1' h2'
      obtain ⟨n, hn, rfl, hn2⟩ := i32_nn (a := v) (by omega)
      exact Or.inr ⟨n, by omega, by omega, rfl, by rw [if_pos h1, if_pos h2]⟩
    · exact Or.inl ⟨-6, by decide, by rw [if_pos h1, if_neg h2]⟩
  · exact Or.inl ⟨-4, by decide, by rw [if_neg h1]⟩
theorem load_code {N : SX3} {y : SX9} {P W : Nat} {w : Nat → Wy} (hV : NV P W w) (hN : NE N P W w) (hM : ME y P W w) (a v : Int32) :
    (∃ c, (c = -1 ∨ c = -2 ∨ c = -3 ∨ c = -4 ∨ c = -6) ∧ fX3_changeLoad N a v = some (c, N) ∧ fX3_changeLength N a v = some (c, N) ∧ fX9_notNumber y a v = some c) ∨
    ∃ k n : Nat, k < W ∧ 1 ≤ n ∧ n ≤ 9 ∧ a = nI k ∧ v = nI n ∧ fX3_changeLoad N a v = qX3_changeLoad_19 a v N 0 ∧ fX3_changeLength N a v = qX3_changeLength_19 a v N 0 ∧ fX9_notNumber y a v = some 0 := by
  have hw : W < 2 ^ 30 := by have := hV.2.2.1; omega
  by_cases ha : 0 ≤ a.toInt ∧ a.toInt < W
  · have g1 : fX3_changeLoad N a v = qX3_changeLoad_19 a v N (if (1 : Int32) ≤ v then (if v ≤ (9 : Int32) then 0 else -6) else -4) := by
      unfold fX3_changeLoad
      rw [isWay8 hN.2.1 hw, if_pos ha, bind_s, if_neg (by decide), rON]; rfl
    have g2 : fX3_changeLength N a v = qX3_changeLength_19 a v N (if (1 : Int32) ≤ v then (if v ≤ (9 : Int32) then 0 else -6) else -4) := by
      unfold fX3_changeLength
      rw [isWay8 hN.2.1 hw, if_pos ha, bind_s, if_neg (by decide), rON]; rfl
    have g3 : fX9_notNumber y a v = some (if (1 : Int32) ≤ v then (if v ≤ (9 : Int32) then 0 else -6) else -4) := by
      unfold fX9_notNumber
      rw [isWay9 hM.2.1 hw, if_pos ha, bind_s, if_neg (by decide), rON9]
    rcases rON19 (v := v) with ⟨c, hc, e⟩ | ⟨n, n1, n2, rfl, e⟩
    · rw [e] at g1 g2 g3
      refine Or.inl ⟨c, hc, ?_, ?_, g3⟩
      · rw [g1]; unfold qX3_changeLoad_19; rw [if_neg (ref_ne hc)]
      · rw [g2]; unfold qX3_changeLength_19; rw [if_neg (ref_ne hc)]
    · rw [e] at g1 g2 g3
      obtain ⟨k, hk, rfl, hk2⟩ := i32_nn ha.1
      exact Or.inr ⟨k, n, by omega, n1, n2, rfl, rfl, g1, g2, g3⟩
  · refine Or.inl ⟨-1, by decide, ?_, ?_, ?_⟩
    · unfold fX3_changeLoad
      rw [isWay8 hN.2.1 hw, if_neg ha]; rfl
    · unfold fX3_changeLength
      rw [isWay8 hN.2.1 hw, if_neg ha]; rfl
    · unfold fX9_notNumber
      rw [isWay9 hM.2.1 hw, if_neg ha]; rfl
theorem load_set {N : SX3} {y : SX9} {P W : Nat} {w : Nat → Wy} (hV : NV P W w) (hN : NE N P W w) (hM : ME y P W w) {k n : Nat} (hk : k < W) (n1 : 1 ≤ n) (n2 : n ≤ 9) :
    qX3_changeLoad_19 (nI k) (nI n) N 0 = some (nI (wL (w k)), n_loads_s N (upd (n_loads N) k (nI n))) ∧ ∃ w', NV P W w' ∧ NE (n_loads_s N (upd (n_loads N) k (nI n))) P W w' ∧ ME6 (m_points y) (m_many y) (m_first y) (m_second y) (m_kind y) (m_figure y) (upd (m_load y) k (nI n)) (m_length y) P W w' := by
  have hk11 : k < 11 := by have := hV.2.2.1; omega
  have hwk := hN.2.2 k hk
  have hmk := hM.2.2 k hk
  have hok := hV.2.2.2 k hk
  refine ⟨?_, va_up w k (wF (w k), wS (w k), wK (w k), wG (w k), n, wT (w k)), hV.set ⟨hok.1, hok.2.1, hok.2.2.1, hok.2.2.2.1, hok.2.2.2.2.1, n1, n2, hok.2.2.2.2.2.2.2⟩, hN.set rfl rfl ⟨hwk.1, hwk.2.1, hwk.2.2.1, hwk.2.2.2.1, upd_s (α := Nat), hwk.2.2.2.2.2⟩ (fun j u hj h => ⟨h.1, h.2.1, h.2.2.1, h.2.2.2.1, (upd_n hj).trans h.2.2.2.2.1, h.2.2.2.2.2⟩), hM.set ⟨hmk.1, hmk.2.1, hmk.2.2.1, hmk.2.2.2.1, upd_s (α := Nat), hmk.2.2.2.2.2⟩ (fun j u hj h => ⟨h.1, h.2.1, h.2.2.1, h.2.2.2.1, (upd_n hj).trans h.2.2.2.2.1, h.2.2.2.2.2⟩)⟩
  unfold qX3_changeLoad_19
  rw [if_pos rfl, ga_ok hk11 (by decide), hwk.2.2.2.2.1]
  simp only [ltt, ga_ok hk11 (show 11 < 2 ^ 31 by decide)]
theorem length_set {N : SX3} {y : SX9} {P W : Nat} {w : Nat → Wy} (hV : NV P W w) (hN : NE N P W w) (hM : ME y P W w) {k n : Nat} (hk : k < W) (n1 : 1 ≤ n) (n2 : n ≤ 9) :
    qX3_changeLength_19 (nI k) (nI n) N 0 = some (nI (wT (w k)), n_lengths_s N (upd (n_lengths N) k (nI n))) ∧ ∃ w', NV P W w' ∧ NE (n_lengths_s N (upd (n_lengths N) k (nI n))) P W w' ∧ ME6 (m_points y) (m_many y) (m_first y) (m_second y) (m_kind y) (m_figure y) (m_load y) (upd (m_length y) k (nI n)) P W w' := by
  have hk11 : k < 11 := by have := hV.2.2.1; omega
  have hwk := hN.2.2 k hk
  have hmk := hM.2.2 k hk
  have hok := hV.2.2.2 k hk
  refine ⟨?_, va_up w k (wF (w k), wS (w k), wK (w k), wG (w k), wL (w k), n), hV.set ⟨hok.1, hok.2.1, hok.2.2.1, hok.2.2.2.1, hok.2.2.2.2.1, hok.2.2.2.2.2.1, hok.2.2.2.2.2.2.1, n1, n2⟩, hN.set rfl rfl ⟨hwk.1, hwk.2.1, hwk.2.2.1, hwk.2.2.2.1, hwk.2.2.2.2.1, upd_s (α := Nat)⟩ (fun j u hj h => ⟨h.1, h.2.1, h.2.2.1, h.2.2.2.1, h.2.2.2.2.1, (upd_n hj).trans h.2.2.2.2.2⟩), hM.set ⟨hmk.1, hmk.2.1, hmk.2.2.1, hmk.2.2.2.1, hmk.2.2.2.2.1, upd_s (α := Nat)⟩ (fun j u hj h => ⟨h.1, h.2.1, h.2.2.1, h.2.2.2.1, h.2.2.2.2.1, (upd_n hj).trans h.2.2.2.2.2⟩)⟩
  unfold qX3_changeLength_19
  rw [if_pos rfl, ga_ok hk11 (by decide), hwk.2.2.2.2.2]
  simp only [ltt, ga_ok hk11 (show 11 < 2 ^ 31 by decide)]
theorem op_load {x : SX8} {y : SX9} (h : Rel x y) (a v : Int32) : OpI (fX8_load x a v) (fX9_load y a v) := by
  obtain ⟨P, W, w, hV, hN, hM⟩ := h.1
  rcases load_code hV hN hM a v with ⟨c, hc, e8, -, e9⟩ | ⟨k, n, hk, n1, n2, rfl, rfl, e8, -, e9⟩
  · exact opI_no h hc (by unfold fX8_load; exact opw8 e8) (by unfold fX9_load; exact opw9 hc e9)
  · obtain ⟨r1, w', r3, r4, r5⟩ := load_set hV hN hM hk n1 n2
    have hk11 : k < 11 := by have := hV.2.2.1; omega
    obtain ⟨F8, hF8⟩ : ∃ f, f = upd (n_loads (w_net x)) k (nI n) := ⟨_, rfl⟩
    obtain ⟨F9, hF9⟩ : ∃ f, f = upd (m_load y) k (nI n) := ⟨_, rfl⟩
    rw [← hF8] at r1 r4
    rw [← hF9] at r5
    have hb : wL (w k) < 2 ^ 31 := by have := (hV.2.2.2 k hk).2.2.2.2.2.2.1; omega
    refine ⟨nI (wL (w k)), w_net_s x (n_loads_s (w_net x) F8), m_load_s y F9, ?_, ?_, ⟨P, W, w', r3, r4, r5⟩, h.2⟩
    · unfold fX8_load
      exact opw8k (nI_pos' hb) (by rw [e8, r1])
    · unfold fX9_load
      rw [e9, bind_s, if_pos rfl, ga_ok hk11 (by decide), (hM.2.2 k hk).2.2.2.2.1, hF9]
      simp only [ltt, ga_ok hk11 (show 11 < 2 ^ 31 by decide)]
theorem op_length {x : SX8} {y : SX9} (h : Rel x y) (a v : Int32) : OpI (fX8_length x a v) (fX9_length y a v) := by
  obtain ⟨P, W, w, hV, hN, hM⟩ := h.1
  rcases load_code hV hN hM a v with ⟨c, hc, -, e8, e9⟩ | ⟨k, n, hk, n1, n2, rfl, rfl, -, e8, e9⟩
  · exact opI_no h hc (by unfold fX8_length; exact opw8 e8) (by unfold fX9_length; exact opw9 hc e9)
  · obtain ⟨r1, w', r3, r4, r5⟩ := length_set hV hN hM hk n1 n2
    have hk11 : k < 11 := by have := hV.2.2.1; omega
    obtain ⟨F8, hF8⟩ : ∃ f, f = upd (n_lengths (w_net x)) k (nI n) := ⟨_, rfl⟩
    obtain ⟨F9, hF9⟩ : ∃ f, f = upd (m_length y) k (nI n) := ⟨_, rfl⟩
    rw [← hF8] at r1 r4
    rw [← hF9] at r5
    have hb : wT (w k) < 2 ^ 31 := by have := (hV.2.2.2 k hk).2.2.2.2.2.2.2.2; omega
    refine ⟨nI (wT (w k)), w_net_s x (n_lengths_s (w_net x) F8), m_length_s y F9, ?_, ?_, ⟨P, W, w', r3, r4, r5⟩, h.2⟩
    · unfold fX8_length
      exact opw8k (nI_pos' hb) (by rw [e8, r1])
    · unfold fX9_length
      rw [e9, bind_s, if_pos rfl, ga_ok hk11 (by decide), (hM.2.2 k hk).2.2.2.2.2, hF9]
      simp only [ltt, ga_ok hk11 (show 11 < 2 ^ 31 by decide)]
