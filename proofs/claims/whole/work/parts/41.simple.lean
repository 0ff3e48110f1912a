/-! letter, row, clear -/
theorem opI_no {x : SX8} {y : SX9} (h : Rel x y) {c : Int32} (hc : c = -1 ∨ c = -2 ∨ c = -3 ∨ c = -4 ∨ c = -6) {r8 : Option (Int32 × SX8)} {r9 : Option (Int32 × SX9)} (e8 : r8 = fX8_counted x c) (e9 : r9 = fX9_no y c) : OpI r8 r9 := by
  obtain ⟨x', y', e1, e2, h'⟩ := no_ok h hc
  exact ⟨c, x', y', by rw [e8, e1], by rw [e9, e2], h'⟩
theorem bind_id {α β : Type} (x : Option (α × β)) : (x.bind fun o => some (o.1, o.2)) = x := by cases x <;> rfl
theorem rON {v a b : Int32} : fX8_refusalOfNumber v a b = some (if a ≤ v then (if v ≤ b then 0 else -6) else -4) := by
  unfold fX8_refusalOfNumber
  split
  · split <;> rfl
  · rfl
theorem op_letter {x : SX8} {y : SX9} (h : Rel x y) (c : Int32) : OpI (fX8_letter x c) (fX9_letter y c) := by
  obtain ⟨n, hn, s8, s9, hl⟩ := h.2.2.1
  by_cases h0 : (0 : Int32) ≤ c
  · by_cases h1 : (255 : Int32) < c
    · refine opI_no h (c := -6) (by decide) ?_ ?_
      · unfold fX8_letter fX7_take
        rw [rON, if_pos h0, if_neg (by rw [i32_le]; rw [i32_lt] at h1; omega)]
        exact bind_id (fX8_counted x (-6))
      · unfold fX9_letter
        rw [if_pos h0, if_pos h1]
        exact bind_id _
    · have h1' : c ≤ (255 : Int32) := by rw [i32_le]; rw [i32_lt] at h1; omega
      by_cases hf : n = 120
      · subst hf
        refine opI_no h (c := -6) (by decide) ?_ ?_
        · unfold fX8_letter fX7_take
          rw [rON, if_pos h0, if_pos h1', s8]
          exact bind_id (fX8_counted x (-6))
        · unfold fX9_letter
          rw [if_pos h0, if_neg h1, s9, if_pos (show nI 120 = (120 : Int32) from rfl)]
          exact bind_id _
      · have hlt : nI n < (120 : Int32) := nI_lt (b := 120) (by omega) (by decide)
        have e8 : fX8_letter x c = some (nI (n + 1), w_telling_s x (te_size_s (te_letters_s (w_telling x) (upd (te_letters (w_telling x)) n c)) (nI (n + 1)))) := by
          unfold fX8_letter fX7_take
          rw [rON, if_pos h0, if_pos h1', bind_s, if_pos rfl, s8, if_pos hlt]
          unfold qX7_take_25
          rw [if_pos rfl, s8, ga_ok (by omega) (by decide)]
          have e1 : te_size (te_letters_s (w_telling x) (upd (te_letters (w_telling x)) n c)) + 1 = nI (n + 1) := by
            show te_size (w_telling x) + 1 = _
            rw [s8, nI_1]
          simp only [ltt, bind_s]
          rw [e1]
          exact (congrArg (fun o : Option (Int32 × SX8) => o.bind fun o2 => some (o2.1, o2.2)) (counted_pos (nI_pos' (by omega)))).trans rfl
        have e9 : fX9_letter y c = some (nI (n + 1), m_lettered_s (m_letters_s y (upd (m_letters y) n c)) (nI (n + 1))) := by
          unfold fX9_letter
          rw [if_pos h0, if_neg h1, s9, if_neg (by rw [show (120 : Int32) = nI 120 from rfl, nI_eq (by omega) (by decide)]; omega), ga_ok (by omega) (by decide)]
          have e1 : m_lettered (m_letters_s y (upd (m_letters y) n c)) + 1 = nI (n + 1) := by
            show m_lettered y + 1 = _
            rw [s9, nI_1]
          simp only [ltt]
          rw [e1]
        refine ⟨_, _, _, e8, e9, h.1, h.2.1, ⟨n + 1, by omega, rfl, rfl, ?_⟩, h.2.2.2⟩
        intro k hk
        show upd (te_letters (w_telling x)) n c k = upd (m_letters y) n c k
        unfold upd
        by_cases e : k = n
        · rw [if_pos e, if_pos e]
        · rw [if_neg e, if_neg e, hl k (by omega)]
  · refine opI_no h (c := -4) (by decide) ?_ ?_
    · unfold fX8_letter fX7_take
      rw [rON, if_neg h0]
      exact bind_id (fX8_counted x (-4))
    · unfold fX9_letter
      rw [if_neg h0]
      exact bind_id _
theorem op_row {x : SX8} {y : SX9} (h : Rel x y) (c : Int32) : OpI (fX8_row x c) (fX9_row y c) := by
  obtain ⟨n, hn, s8, s9, hl⟩ := h.2.2.2.1
  by_cases h0 : (0 : Int32) ≤ c
  · by_cases h1 : (99 : Int32) < c
    · refine opI_no h (c := -6) (by decide) ?_ ?_
      · unfold fX8_row
        rw [rON, if_pos h0, if_neg (by rw [i32_le]; rw [i32_lt] at h1; omega)]
        exact bind_id (fX8_counted x (-6))
      · unfold fX9_row
        rw [if_pos h0, if_pos h1]
        exact bind_id _
    · have h1' : c ≤ (99 : Int32) := by rw [i32_le]; rw [i32_lt] at h1; omega
      by_cases hf : n = 10
      · subst hf
        refine opI_no h (c := -6) (by decide) ?_ ?_
        · unfold fX8_row
          rw [rON, if_pos h0, if_pos h1', s8]
          exact bind_id (fX8_counted x (-6))
        · unfold fX9_row
          rw [if_pos h0, if_neg h1, s9, if_pos (show nI 10 = (10 : Int32) from rfl)]
          exact bind_id _
      · have hlt : nI n < (10 : Int32) := nI_lt (b := 10) (by omega) (by decide)
        have e8 : fX8_row x c = some (nI (n + 1), w_rowSize_s (w_rowNumbers_s x (upd (w_rowNumbers x) n c)) (nI (n + 1))) := by
          unfold fX8_row
          rw [rON, if_pos h0, if_pos h1', bind_s, if_pos rfl, s8, if_pos hlt]
          unfold qX8_row_24
          have e1 : w_rowSize (w_rowNumbers_s x (upd (w_rowNumbers x) n c)) + 1 = nI (n + 1) := by
            show w_rowSize x + 1 = _
            rw [s8, nI_1]
          rw [if_pos rfl, s8, ga_ok (by omega) (by decide)]
          simp only [ltt]
          rw [e1]
        have e9 : fX9_row y c = some (nI (n + 1), m_rowMany_s (m_row_s y (upd (m_row y) n c)) (nI (n + 1))) := by
          unfold fX9_row
          rw [if_pos h0, if_neg h1, s9, if_neg (by rw [show (10 : Int32) = nI 10 from rfl, nI_eq (by omega) (by decide)]; omega), ga_ok (by omega) (by decide)]
          have e1 : m_rowMany (m_row_s y (upd (m_row y) n c)) + 1 = nI (n + 1) := by
            show m_rowMany y + 1 = _
            rw [s9, nI_1]
          simp only [ltt]
          rw [e1]
        refine ⟨_, _, _, e8, e9, h.1, h.2.1, h.2.2.1, ⟨n + 1, by omega, rfl, rfl, ?_⟩, h.2.2.2.2⟩
        intro k hk
        show upd (w_rowNumbers x) n c k = upd (m_row y) n c k
        unfold upd
        by_cases e : k = n
        · rw [if_pos e, if_pos e]
        · rw [if_neg e, if_neg e, hl k (by omega)]
  · refine opI_no h (c := -4) (by decide) ?_ ?_
    · unfold fX8_row
      rw [rON, if_neg h0]
      exact bind_id (fX8_counted x (-4))
    · unfold fX9_row
      rw [if_neg h0]
      exact bind_id _
theorem op_clear {x : SX8} {y : SX9} (h : Rel x y) : OpI (fX8_clear x) (fX9_clear y) := by
  obtain ⟨n, hn, s8, s9, hl⟩ := h.2.2.2.1
  refine ⟨nI n, w_rowSize_s x 0, m_rowMany_s y 0, ?_, ?_, h.1, h.2.1, h.2.2.1, ⟨0, by omega, rfl, rfl, fun k hk => by omega⟩, h.2.2.2.2⟩
  · unfold fX8_clear
    rw [s8]; rfl
  · unfold fX9_clear
    rw [s9]; rfl
