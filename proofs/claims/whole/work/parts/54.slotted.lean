/-! slots, slotted -/
theorem place5 {x : SX8} {y : SX9} (h : Rel x y) {q : Nat} (hq : q < 3) (b : Int32) : (∃ c, (c = -11 ∨ c = -13) ∧ fX5_refusalOfPlace (w_slotRows x) (nI q) b = some c ∧ fX9_notSlotted y (nI q) b = some c) ∨ ∃ n k : Nat, n ≤ 9 ∧ k < n ∧ b = nI k ∧ fX5_refusalOfPlace (w_slotRows x) (nI q) b = some 0 ∧ fX9_notSlotted y (nI q) b = some 0 ∧ sl_madeFor (w_slotRows x) q = m_slotKind y q ∧ (∃ kk : Nat, kk ≤ 5 ∧ m_slotKind y q = nI kk) ∧ sl_kinds (w_slotRows x) q k = m_lies y (9 * q + k) ∧ (m_lies y (9 * q + k) = -1 ∨ ((∃ kk : Nat, kk ≤ 5 ∧ m_lies y (9 * q + k) = nI kk) ∧ sl_figures (w_slotRows x) q k = m_liesFigure y (9 * q + k) ∧ ∃ ff : Nat, ff ≤ 9 ∧ m_liesFigure y (9 * q + k) = nI ff)) := by
  have i0 : (0 : Int32).toInt = 0 := by decide
  have i00 : (0 : Int64).toInt = 0 := by decide
  rcases h.2.2.2.2.2.1 q hq with ⟨o1, o2⟩ | ⟨n, hn, o1, o2, o3, o4, o5⟩
  · refine Or.inl ⟨-11, Or.inl rfl, ?_, ?_⟩
    · unfold fX5_refusalOfPlace
      rw [ga_ok hq (by decide), o1]; rfl
    · unfold fX9_notSlotted
      rw [ga_ok hq (by decide), o2]; rfl
  · have em : (nI n - 1).toInt = (n : Int) - 1 := sub1 (by omega)
    by_cases hb : 0 ≤ b.toInt ∧ b.toInt < n
    · obtain ⟨k, hk, rfl, hk2⟩ := i32_nn hb.1
      have hkn : k < n := by omega
      refine Or.inr ⟨n, k, hn, hkn, rfl, ?_, ?_, o3, o4, o5 k hkn⟩
      · unfold fX5_refusalOfPlace
        rw [ga_ok hq (by decide), o1, if_pos (nI_pos' (by omega)), if_neg (nI_pos (by omega)), ga_ok hq (by decide), o1, if_neg (nI_ge (by omega) (by omega))]
      · unfold fX9_notSlotted
        rw [ga_ok hq (by decide), o2, if_pos (nI_pos' (by omega)), ga_ok hq (by decide), o2, isIn_eq, i32_64, i32_64, em, i00, if_pos (by omega)]
        rfl
    · refine Or.inl ⟨-13, Or.inr rfl, ?_, ?_⟩
      · unfold fX5_refusalOfPlace
        rw [ga_ok hq (by decide), o1, if_pos (nI_pos' (by omega))]
        by_cases h1 : b < 0
        · rw [if_pos h1]
        · rw [if_neg h1, ga_ok hq (by decide), o1, if_pos (by rw [i32_le, nI_toInt (by omega)]; rw [i32_lt] at h1; omega)]
      · unfold fX9_notSlotted
        rw [ga_ok hq (by decide), o2, if_pos (nI_pos' (by omega)), ga_ok hq (by decide), o2, isIn_eq, i32_64, i32_64, em, i00, if_neg (by omega)]
        rfl
theorem op_slotted {x : SX8} {y : SX9} (h : Rel x y) (a b v : Int32) : OpI (fX8_slotted x a b v) (fX9_slotted y a b v) := by
  have n1 : ¬ (1 : Int32) = 0 := by decide
  by_cases ha : 0 ≤ a.toInt ∧ a.toInt < 3
  · by_cases h1 : (1 : Int32) ≤ v
    · by_cases h9 : v ≤ (9 : Int32)
      · obtain ⟨q, hq, rfl, hq2⟩ := i32_nn ha.1
        have hq3 : q < 3 := by omega
        have hv : 0 ≤ v.toInt := by rw [i32_le, i32_1] at h1; omega
        obtain ⟨n, hn, rfl, hn2⟩ := i32_nn hv
        have hn9 : n < 11 := by rw [i32_le, i32_9] at h9; omega
        have en : fX8_refusalOfNumber (nI n) 1 9 = some 0 := by rw [rON, if_pos h1, if_pos h9]
        rcases place5 h hq3 b with ⟨c, hc, e1, e2⟩ | ⟨m, k, hm, hk, rfl, e1, e2, s1, s2, s3, s4⟩
        · refine ⟨c, x, y, ?_, ?_, h⟩
          · unfold fX8_slotted fX5_weightIn qX5_weightIn_18 qX5_weightIn_33
            rw [isSlot8, if_pos ha, bind_s, if_neg n1, en, bind_s, if_pos rfl, e1]
            rcases hc with rfl | rfl <;> rfl
          · unfold fX9_slotted
            rw [isSlot9, if_pos ha, bind_s, if_neg n1, if_pos h1, if_pos h9, e2, bind_s]
            rcases hc with rfl | rfl <;> rfl
        · have e0 : (9 : Int32) * nI q + nI k = nI (9 * q + k) := by rw [show (9 : Int32) = nI 9 from rfl, pk_mul, nI_add]
          rcases s4 with s4 | ⟨⟨kk, k1, k2⟩, k3, ff, k4, k5⟩
          · refine ⟨-9, x, y, ?_, ?_, h⟩
            · unfold fX8_slotted fX5_weightIn qX5_weightIn_18 qX5_weightIn_33
              rw [isSlot8, if_pos ha, bind_s, if_neg n1, en, bind_s, if_pos rfl, e1, bind_s, if_pos rfl, ga_ok hq3 (by decide), ga_ok (by omega) (by decide), s3, s4]
              rfl
            · unfold fX9_slotted
              rw [isSlot9, if_pos ha, bind_s, if_neg n1, if_pos h1, if_pos h9, e2, bind_s, if_pos rfl, e0, ga_ok (by omega) (by decide), ltt_e, s4]
              rfl
          · have hw : wt kk ff n < 2 ^ 31 := by
              unfold wt
              have : n < 11 := hn9
              repeat' split
              all_goals omega
            refine ⟨nI (wt kk ff n), x, y, ?_, ?_, h⟩
            · unfold fX8_slotted fX5_weightIn qX5_weightIn_18 qX5_weightIn_33
              rw [isSlot8, if_pos ha, bind_s, if_neg n1, en, bind_s, if_pos rfl, e1, bind_s, if_pos rfl, ga_ok hq3 (by decide), ga_ok (by omega) (by decide), if_pos (by rw [s3, k2]; exact nI_pos' (by omega)), ga_ok hq3 (by decide), ga_ok (by omega) (by decide), ga_ok hq3 (by decide), ga_ok (by omega) (by decide), s3, k2, k3, k5, fin_wt8 kk (by omega) ff (by omega) n hn9, bind_s, bind_s, counted_pos (nI_pos' hw)]
              rfl
            · unfold fX9_slotted
              rw [isSlot9, if_pos ha, bind_s, if_neg n1, if_pos h1, if_pos h9, e2, bind_s, if_pos rfl, e0, ga_ok (by omega) (by decide), ltt_e, if_pos (by rw [k2]; exact nI_pos' (by omega)), ga_ok (by omega) (by decide), k2, k5, fin_wt9 kk (by omega) ff (by omega) n hn9]
              rfl
      · have en : fX8_refusalOfNumber v 1 9 = some (-6) := by rw [rON, if_pos h1, if_neg h9]
        refine opI_no h (c := -6) (by decide) ?_ ?_
        · unfold fX8_slotted fX5_weightIn qX5_weightIn_18 qX5_weightIn_33
          rw [isSlot8, if_pos ha, bind_s, if_neg n1, en]
          exact bind_id (fX8_counted x (-6))
        · unfold fX9_slotted
          rw [isSlot9, if_pos ha, bind_s, if_neg n1, if_pos h1, if_neg h9]
          exact bind_id (fX9_no y (-6))
    · have en : fX8_refusalOfNumber v 1 9 = some (-4) := by rw [rON, if_neg h1]
      refine opI_no h (c := -4) (by decide) ?_ ?_
      · unfold fX8_slotted fX5_weightIn qX5_weightIn_18 qX5_weightIn_33
        rw [isSlot8, if_pos ha, bind_s, if_neg n1, en]
        exact bind_id (fX8_counted x (-4))
      · unfold fX9_slotted
        rw [isSlot9, if_pos ha, bind_s, if_neg n1, if_neg h1]
        exact bind_id (fX9_no y (-4))
  · refine opI_no h (c := -1) (by decide) ?_ ?_
    · unfold fX8_slotted fX5_weightIn qX5_weightIn_18 qX5_weightIn_33
      rw [isSlot8, if_neg ha]
      exact bind_id (fX8_counted x (-1))
    · unfold fX9_slotted
      rw [isSlot9, if_neg ha]
      exact bind_id (fX9_no y (-1))
theorem lay_rel {x : SX8} {y : SX9} (h : Rel x y) {q k : Nat} (hq : q < 3) (hk : k < 9) {u v : Int32} (hu : u = -1 ∨ ((∃ kk : Nat, kk ≤ 5 ∧ u = nI kk) ∧ ∃ ff : Nat, ff ≤ 9 ∧ v = nI ff)) : Rel (w_slotRows_s x (sl_figures_s (sl_kinds_s (w_slotRows x) (va_up (sl_kinds (w_slotRows x)) q (upd (sl_kinds (w_slotRows x) q) k u))) (va_up (sl_figures (w_slotRows x)) q (upd (sl_figures (w_slotRows x) q) k v)))) (ls9 y (upd (m_lies y) (9 * q + k) u) (upd (m_liesFigure y) (9 * q + k) v)) := by
  refine ⟨h.1, h.2.1, h.2.2.1, h.2.2.2.1, h.2.2.2.2.1, ?_, h.2.2.2.2.2.2⟩
  intro r hr
  rcases h.2.2.2.2.2.1 r hr with ⟨o1, o2⟩ | ⟨n, hn, o1, o2, o3, o4, o5⟩
  · exact Or.inl ⟨o1, o2⟩
  · refine Or.inr ⟨n, hn, o1, o2, o3, o4, fun j hj => ?_⟩
    show va_up (sl_kinds (w_slotRows x)) q (upd (sl_kinds (w_slotRows x) q) k u) r j = upd (m_lies y) (9 * q + k) u (9 * r + j) ∧ (upd (m_lies y) (9 * q + k) u (9 * r + j) = -1 ∨ ((∃ kk : Nat, kk ≤ 5 ∧ upd (m_lies y) (9 * q + k) u (9 * r + j) = nI kk) ∧ va_up (sl_figures (w_slotRows x)) q (upd (sl_figures (w_slotRows x) q) k v) r j = upd (m_liesFigure y) (9 * q + k) v (9 * r + j) ∧ ∃ ff : Nat, ff ≤ 9 ∧ upd (m_liesFigure y) (9 * q + k) v (9 * r + j) = nI ff))
    by_cases e : r = q ∧ j = k
    · obtain ⟨rfl, rfl⟩ := e
      rw [vaup_s, vaup_s, upd_s (α := Nat), upd_s (α := Nat), upd_s (α := Nat), upd_s (α := Nat)]
      refine ⟨rfl, ?_⟩
      rcases hu with hu | ⟨a, b⟩
      · exact Or.inl hu
      · exact Or.inr ⟨a, rfl, b⟩
    · have hne : 9 * r + j ≠ 9 * q + k := by omega
      rw [upd_n hne, upd_n hne]
      have t1 : va_up (sl_kinds (w_slotRows x)) q (upd (sl_kinds (w_slotRows x) q) k u) r j = sl_kinds (w_slotRows x) r j := by
        by_cases hr : r = q
        · subst hr
          rw [vaup_s, upd_n (fun z => e ⟨rfl, z⟩)]
        · rw [vaup_n hr]
      have t2 : va_up (sl_figures (w_slotRows x)) q (upd (sl_figures (w_slotRows x) q) k v) r j = sl_figures (w_slotRows x) r j := by
        by_cases hr : r = q
        · subst hr
          rw [vaup_s, upd_n (fun z => e ⟨rfl, z⟩)]
        · rw [vaup_n hr]
      rw [t1, t2]
      exact o5 j hj
