/-! kind, of -/
theorem rON09 {v : Int32} : (∃ c, (c = -1 ∨ c = -2 ∨ c = -3 ∨ c = -4 ∨ c = -6) ∧ (if (0 : Int32) ≤ v then (if v ≤ (9 : Int32) then (0 : Int32) else -6) else -4) = c) ∨ ∃ n : Nat, n ≤ 9 ∧ v = nI n ∧ (if (0 : Int32) ≤ v then (if v ≤ (9 : Int32) then (0 : Int32) else -6) else -4) = 0 := by
  have z1 := i32_0
  have z9 := i32_9
  by_cases h1 : (0 : Int32) ≤ v
  · by_cases h2 : v ≤ (9 : Int32)
    · have h1' := h1; have h2' := h2
      rw [i32_le] at h1' h2'
      obtain ⟨n, hn, rfl, hn2⟩ := i32_nn (a := v) (by omega)
      exact Or.inr ⟨n, by omega, rfl, by rw [if_pos h1, if_pos h2]⟩
    · exact Or.inl ⟨-6, by decide, by rw [if_pos h1, if_neg h2]⟩
  · exact Or.inl ⟨-4, by decide, by rw [if_neg h1]⟩
theorem kind_code {N : SX3} {y : SX9} {P W : Nat} {w : Nat → Wy} (hV : NV P W w) (hN : NE N P W w) (hM : ME y P W w) (a b v : Int32) :
    (∃ c, (c = -1 ∨ c = -2 ∨ c = -3 ∨ c = -4 ∨ c = -6) ∧ fX3_changeKind N a b v = some (c, N) ∧ fX9_notKind y a b v = some c) ∨
    ∃ k q n : Nat, k < W ∧ q ≤ 5 ∧ n ≤ 9 ∧ a = nI k ∧ b = nI q ∧ v = nI n ∧ fX3_changeKind N a b v = qX3_changeKind_29 a b v N 0 ∧ fX9_notKind y a b v = some 0 := by
  have hw : W < 2 ^ 30 := by have := hV.2.2.1; omega
  by_cases ha : 0 ≤ a.toInt ∧ a.toInt < W
  · by_cases hb : 0 ≤ b.toInt ∧ b.toInt < 6
    · have g1 : fX3_changeKind N a b v = qX3_changeKind_29 a b v N (if (0 : Int32) ≤ v then (if v ≤ (9 : Int32) then 0 else -6) else -4) := by
        unfold fX3_changeKind
        rw [isWay8 hN.2.1 hw, if_pos ha, bind_s, if_neg (by decide), isKind8, if_pos hb, bind_s, if_neg (by decide), rON]; rfl
      have g3 : fX9_notKind y a b v = some (if (0 : Int32) ≤ v then (if v ≤ (9 : Int32) then 0 else -6) else -4) := by
        unfold fX9_notKind
        rw [isWay9 hM.2.1 hw, if_pos ha, bind_s, if_neg (by decide), isKind9, if_pos hb, bind_s, if_neg (by decide)]
        split
        · split <;> rfl
        · rfl
      rcases rON09 (v := v) with ⟨c, hc, e⟩ | ⟨n, n2, rfl, e⟩
      · rw [e] at g1 g3
        refine Or.inl ⟨c, hc, ?_, g3⟩
        rw [g1]; unfold qX3_changeKind_29; rw [if_neg (ref_ne hc)]
      · rw [e] at g1 g3
        obtain ⟨k, hk, rfl, hk2⟩ := i32_nn ha.1
        obtain ⟨q, hq, rfl, hq2⟩ := i32_nn hb.1
        exact Or.inr ⟨k, q, n, by omega, by omega, n2, rfl, rfl, rfl, g1, g3⟩
    · refine Or.inl ⟨-2, by decide, ?_, ?_⟩
      · unfold fX3_changeKind
        rw [isWay8 hN.2.1 hw, if_pos ha, bind_s, if_neg (by decide), isKind8, if_neg hb]; rfl
      · unfold fX9_notKind
        rw [isWay9 hM.2.1 hw, if_pos ha, bind_s, if_neg (by decide), isKind9, if_neg hb]; rfl
  · refine Or.inl ⟨-1, by decide, ?_, ?_⟩
    · unfold fX3_changeKind
      rw [isWay8 hN.2.1 hw, if_neg ha]; rfl
    · unfold fX9_notKind
      rw [isWay9 hM.2.1 hw, if_neg ha]; rfl
theorem kind_set {N : SX3} {y : SX9} {P W : Nat} {w : Nat → Wy} (hV : NV P W w) (hN : NE N P W w) (hM : ME y P W w) {k q n : Nat} (hk : k < W) (n1 : q ≤ 5) (n2 : n ≤ 9) :
    qX3_changeKind_29 (nI k) (nI q) (nI n) N 0 = some (nI (10 * wK (w k) + wG (w k)), n_figures_s (n_kinds_s N (upd (n_kinds N) k (nI q))) (upd (n_figures N) k (nI n))) ∧ ∃ w', NV P W w' ∧ NE (n_figures_s (n_kinds_s N (upd (n_kinds N) k (nI q))) (upd (n_figures N) k (nI n))) P W w' ∧ ME6 (m_points y) (m_many y) (m_first y) (m_second y) (upd (m_kind y) k (nI q)) (upd (m_figure y) k (nI n)) (m_load y) (m_length y) P W w' := by
  have hk11 : k < 11 := by have := hV.2.2.1; omega
  have hwk := hN.2.2 k hk
  have hmk := hM.2.2 k hk
  have hok := hV.2.2.2 k hk
  refine ⟨?_, va_up w k (wF (w k), wS (w k), q, n, wL (w k), wT (w k)), hV.set ⟨hok.1, hok.2.1, hok.2.2.1, n1, n2, hok.2.2.2.2.2⟩, hN.set rfl rfl ⟨hwk.1, hwk.2.1, upd_s (α := Nat), upd_s (α := Nat), hwk.2.2.2.2⟩ (fun j u hj h => ⟨h.1, h.2.1, (upd_n hj).trans h.2.2.1, (upd_n hj).trans h.2.2.2.1, h.2.2.2.2⟩), hM.set ⟨hmk.1, hmk.2.1, upd_s (α := Nat), upd_s (α := Nat), hmk.2.2.2.2⟩ (fun j u hj h => ⟨h.1, h.2.1, (upd_n hj).trans h.2.2.1, (upd_n hj).trans h.2.2.2.1, h.2.2.2.2⟩)⟩
  unfold qX3_changeKind_29
  rw [if_pos rfl, ga_ok hk11 (by decide), ga_ok hk11 (by decide), hwk.2.2.1, hwk.2.2.2.1, show (10 : Int32) = nI 10 from rfl, pk_mul, nI_add]
  simp only [ltt, ga_ok hk11 (show 11 < 2 ^ 31 by decide)]
theorem op_kind {x : SX8} {y : SX9} (h : Rel x y) (a b v : Int32) : OpI (fX8_kind x a b v) (fX9_kind y a b v) := by
  obtain ⟨P, W, w, hV, hN, hM⟩ := h.1
  rcases kind_code hV hN hM a b v with ⟨c, hc, e8, e9⟩ | ⟨k, q, n, hk, n1, n2, rfl, rfl, rfl, e8, e9⟩
  · exact opI_no h hc (by unfold fX8_kind; exact opw8 e8) (by unfold fX9_kind; exact opw9 hc e9)
  · obtain ⟨r1, w', r3, r4, r5⟩ := kind_set hV hN hM hk n1 n2
    have hk11 : k < 11 := by have := hV.2.2.1; omega
    have hok := hV.2.2.2 k hk
    obtain ⟨F8, hF8⟩ : ∃ f, f = upd (n_kinds (w_net x)) k (nI q) := ⟨_, rfl⟩
    obtain ⟨G8, hG8⟩ : ∃ f, f = upd (n_figures (w_net x)) k (nI n) := ⟨_, rfl⟩
    obtain ⟨F9, hF9⟩ : ∃ f, f = upd (m_kind y) k (nI q) := ⟨_, rfl⟩
    obtain ⟨G9, hG9⟩ : ∃ f, f = upd (m_figure y) k (nI n) := ⟨_, rfl⟩
    rw [← hF8, ← hG8] at r1 r4
    rw [← hF9, ← hG9] at r5
    have hb : 10 * wK (w k) + wG (w k) < 2 ^ 31 := by have := hok.2.2.2.1; have := hok.2.2.2.2.1; omega
    refine ⟨nI (10 * wK (w k) + wG (w k)), w_net_s x (n_figures_s (n_kinds_s (w_net x) F8) G8), m_figure_s (m_kind_s y F9) G9, ?_, ?_, ⟨P, W, w', r3, r4, r5⟩, h.2⟩
    · unfold fX8_kind
      exact opw8k (nI_pos' hb) (by rw [e8, r1])
    · unfold fX9_kind
      rw [e9, bind_s, if_pos rfl, ga_ok hk11 (by decide), ga_ok hk11 (by decide), (hM.2.2 k hk).2.2.1, (hM.2.2 k hk).2.2.2.1, hF9, hG9, show (10 : Int32) = nI 10 from rfl, pk_mul, nI_add]
      simp only [ltt, ga_ok hk11 (show 11 < 2 ^ 31 by decide)]
theorem op_of {x : SX8} {y : SX9} (h : Rel x y) (a b : Int32) : OpI (fX8_of x a b) (fX9_of y a b) := by
  obtain ⟨P, W, w, hV, hN, hM⟩ := h.1
  have hw : W < 2 ^ 30 := by have := hV.2.2.1; omega
  by_cases ha : 0 ≤ a.toInt ∧ a.toInt < W
  · obtain ⟨k, hk0, rfl, hk2⟩ := i32_nn ha.1
    have hk : k < W := by omega
    have hk11 : k < 11 := by have := hV.2.2.1; omega
    have hwk := hN.2.2 k hk
    have hmk := hM.2.2 k hk
    have hok := hV.2.2.2 k hk
    unfold fX8_of fX9_of
    rw [isWay8 hN.2.1 hw, if_pos ha, bind_s, if_neg (show ¬ (1 : Int32) = 0 by decide), isWay9 hM.2.1 hw, if_pos ha, bind_s, if_neg (show ¬ (1 : Int32) = 0 by decide)]
    simp only [ga_ok hk11 (show 11 < 2 ^ 31 by decide), weight8 hk11 hwk hok, weight9 hk11 hmk hok, minutes8 hk11 hwk hok, minutes9 hk11 hmk hok, bind_s]
    obtain ⟨a1, a2, a3, a4, a5, a6⟩ := hwk
    obtain ⟨b1, b2, b3, b4, b5, b6⟩ := hmk
    rw [a1, a2, a3, a4, a5, a6, b1, b2, b3, b4, b5, b6]
    by_cases c0 : b = 0
    · rw [if_pos c0, if_pos c0]; exact ⟨_, x, y, rfl, rfl, h⟩
    rw [if_neg c0, if_neg c0]
    by_cases c1 : b = 1
    · rw [if_pos c1, if_pos c1]; exact ⟨_, x, y, rfl, rfl, h⟩
    rw [if_neg c1, if_neg c1]
    by_cases c2 : b = 2
    · rw [if_pos c2, if_pos c2]; exact ⟨_, x, y, rfl, rfl, h⟩
    rw [if_neg c2, if_neg c2]
    by_cases c3 : b = 3
    · rw [if_pos c3, if_pos c3]; exact ⟨_, x, y, rfl, rfl, h⟩
    rw [if_neg c3, if_neg c3]
    by_cases c4 : b = 4
    · rw [if_pos c4, if_pos c4]; exact ⟨_, x, y, rfl, rfl, h⟩
    rw [if_neg c4, if_neg c4]
    by_cases c5 : b = 5
    · rw [if_pos c5, if_pos c5]; exact ⟨_, x, y, rfl, rfl, h⟩
    rw [if_neg c5, if_neg c5]
    by_cases c6 : b = 6
    · rw [if_pos c6, if_pos c6]; exact ⟨_, x, y, rfl, rfl, h⟩
    rw [if_neg c6, if_neg c6]
    by_cases c7 : b = 7
    · rw [if_pos c7, if_pos c7]; exact ⟨_, x, y, rfl, rfl, h⟩
    rw [if_neg c7, if_neg c7]
    exact opI_no h (c := -2) (by decide) (bind_id _) (bind_id _)
  · refine opI_no h (c := -1) (by decide) ?_ ?_
    · unfold fX8_of
      rw [isWay8 hN.2.1 hw, if_neg ha]
      exact bind_id (fX8_counted x (-1))
    · unfold fX9_of
      rw [isWay9 hM.2.1 hw, if_neg ha]
      exact bind_id (fX9_no y (-1))
