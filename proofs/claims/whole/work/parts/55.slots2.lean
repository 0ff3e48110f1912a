/-! slots -/
theorem lay47 {q k : Nat} (hq : q < 3) (hk : k < 9) (u v : Int32) (s : SX5) : qX5_lay_47 (nI q) (nI k) u v s = some (1, sl_figures_s (sl_kinds_s s (va_up (sl_kinds s) q (upd (sl_kinds s q) k u))) (va_up (sl_figures s) q (upd (sl_figures s q) k v))) := by
  unfold qX5_lay_47
  rw [ga_ok hq (by decide), ga_ok hk (by decide), ltt_e, ga_ok hq (by decide), ga_ok hk (by decide), ltt_e]
theorem slots116 {q k : Nat} {pc_ : Int32} (hq : q < 3) (hk : k < 9) (v : Int32) (s : SX9) : qX9_slots_116 (nI q) (nI k) pc_ s (nI (9 * q + k)) v = some (1, m_liesFigure_s s (upd (m_liesFigure s) (9 * q + k) v)) := by
  unfold qX9_slots_116
  rw [ga_ok (by omega) (by decide), ltt_e]
theorem lay_ref {x : SX5} {q : Nat} {b u v c : Int32} (ha : 0 ≤ (nI q).toInt ∧ (nI q).toInt < 3) (e1 : fX5_refusalOfPlace x (nI q) b = some c) (hc : ¬ c = 0) : fX5_lay x (nI q) b u v = some (c, x) := by
  unfold fX5_lay qX5_lay_17
  rw [isSlot8, if_pos ha, bind_s, if_neg (show ¬ (1 : Int32) = 0 by decide), e1, bind_s, if_neg hc]
theorem lay_bad {x : SX5} {a b u v : Int32} (ha : ¬ (0 ≤ a.toInt ∧ a.toInt < 3)) : fX5_lay x a b u v = some (-1, x) := by
  unfold fX5_lay qX5_lay_17
  rw [isSlot8, if_neg ha, bind_s, if_pos rfl, if_neg (show ¬ (-1 : Int32) = 0 by decide)]
theorem slots60 {x : SX8} {a b p u v c : Int32} {s' : SX5} (e : fX5_lay (w_slotRows x) a b u v = some (c, s')) : qX8_slots_60 a b p x u v = fX8_counted (w_slotRows_s x s') c := by
  unfold qX8_slots_60
  rw [e, bind_s, ltt_e]
  exact bind_id (fX8_counted (w_slotRows_s x s') c)
theorem slots8_m {x : SX8} {a b : Int32} : fX8_slots x a b (-1) = qX8_slots_60 a b (-1) x (-1) 0 := by
  unfold fX8_slots qX8_slots_22 qX8_slots_40
  rw [if_pos rfl, if_pos rfl, if_pos rfl]
theorem slots8_w {x : SX8} {a b : Int32} {P W k : Nat} {w : Nat → Wy} (hV : NV P W w) (hN : NE (w_net x) P W w) (hk : k < W) : fX8_slots x a b (nI k) = qX8_slots_60 a b (nI k) x (nI (wK (w k))) (nI (wG (w k))) := by
  have hW := hV.2.2.1
  have ht : (nI k).toInt = k := nI_toInt (by omega)
  have hm : ¬ nI k = -1 := by
    intro z
    have := congrArg Int32.toInt z
    rw [ht, show (-1 : Int32).toInt = -1 by decide] at this
    omega
  unfold fX8_slots qX8_slots_22 qX8_slots_40
  rw [if_neg hm, isWay8 hN.2.1 (by omega), if_pos (by omega), bind_s, if_neg (show ¬ (1 : Int32) = 0 by decide), if_neg hm, ga_ok (by omega) (by decide), if_neg hm, ga_ok (by omega) (by decide), (hN.2.2 k hk).2.2.1, (hN.2.2 k hk).2.2.2.1]
theorem slots8_x {x : SX8} {a b p : Int32} {P W : Nat} {w : Nat → Wy} (hV : NV P W w) (hN : NE (w_net x) P W w) (hp : ¬ p = -1) (hk : ¬ (0 ≤ p.toInt ∧ p.toInt < W)) : fX8_slots x a b p = fX8_counted x (-1) := by
  unfold fX8_slots
  rw [if_neg hp, isWay8 hN.2.1 (by have := hV.2.2.1; omega), if_neg hk, bind_s, if_pos rfl]
  exact bind_id (fX8_counted x (-1))
theorem op_slots {x : SX8} {y : SX9} (h : Rel x y) (a b p : Int32) : OpI (fX8_slots x a b p) (fX9_slots y a b p) := by
  have n1 : ¬ (1 : Int32) = 0 := by decide
  obtain ⟨P, W, w, hV, hN, hM⟩ := h.1
  have hW := hV.2.2.1
  by_cases ha : 0 ≤ a.toInt ∧ a.toInt < 3
  · obtain ⟨q, hq, rfl, hq2⟩ := i32_nn ha.1
    have hq3 : q < 3 := by omega
    by_cases hp : p = -1
    · subst hp
      rcases place5 h hq3 b with ⟨c, hc, e1, e2⟩ | ⟨m, k, hm, hk, rfl, e1, e2, s1, s2, s3, s4⟩
      · refine ⟨c, x, y, ?_, ?_, h⟩
        · rw [slots8_m, slots60 (lay_ref ha e1 (by rcases hc with rfl | rfl <;> decide)), counted_low (by rcases hc with rfl | rfl <;> decide)]
        · unfold fX9_slots qX9_slots_26
          rw [isSlot9, if_pos ha, bind_s, if_neg n1, if_pos rfl, e2, bind_s, if_neg (by rcases hc with rfl | rfl <;> decide)]
      · have e0 : (9 : Int32) * nI q + nI k = nI (9 * q + k) := by rw [show (9 : Int32) = nI 9 from rfl, pk_mul, nI_add]
        have hk9 : k < 9 := by omega
        refine ⟨1, _, _, ?_, ?_, lay_rel h hq3 hk9 (u := -1) (v := 0) (Or.inl rfl)⟩
        · have hl : fX5_lay (w_slotRows x) (nI q) (nI k) (-1) 0 = qX5_lay_47 (nI q) (nI k) (-1) 0 (w_slotRows x) := by
            unfold fX5_lay qX5_lay_17
            rw [isSlot8, if_pos ha, bind_s, if_neg n1, e1, bind_s, if_pos rfl, if_pos (show (-1 : Int32) < 0 by decide)]
          rw [slots8_m, slots60 (hl.trans (lay47 hq3 hk9 (-1) 0 (w_slotRows x))), counted_pos (by decide)]
        · unfold fX9_slots qX9_slots_26 qX9_slots_67 qX9_slots_91
          rw [isSlot9, if_pos ha, bind_s, if_neg n1, if_pos rfl, e2, bind_s, if_pos rfl, if_pos (show (-1 : Int32) < 0 by decide), if_neg (show ¬ (0 : Int32) ≤ -1 by decide), e0, ga_ok (by omega) (by decide), ltt_e, if_neg (show ¬ (0 : Int32) ≤ -1 by decide), slots116 hq3 hk9]
          rfl
    · by_cases hw : 0 ≤ p.toInt ∧ p.toInt < W
      · obtain ⟨j, hj, rfl, hj2⟩ := i32_nn hw.1
        have hjW : j < W := by omega
        have hp0 : ¬ nI j < 0 := nI_pos (by omega)
        have hp1 : (0 : Int32) ≤ nI j := nI_pos' (by omega)
        have hOk := hV.2.2.2 j hjW
        have hy : fX9_slots y (nI q) b (nI j) = qX9_slots_26 (nI q) b (nI j) y := by
          unfold fX9_slots
          rw [isSlot9, if_pos ha, bind_s, if_neg n1, if_neg hp, isWay9 hM.2.1 (by omega), if_pos hw, bind_s, if_neg n1]
        rw [hy, slots8_w hV hN hjW]
        rcases place5 h hq3 b with ⟨c, hc, e1, e2⟩ | ⟨m, k, hm, hk, rfl, e1, e2, s1, ⟨sk, s2, s5⟩, s3, s4⟩
        · refine ⟨c, x, y, ?_, ?_, h⟩
          · rw [slots60 (lay_ref ha e1 (by rcases hc with rfl | rfl <;> decide)), counted_low (by rcases hc with rfl | rfl <;> decide)]
          · unfold qX9_slots_26
            rw [e2, bind_s, if_neg (by rcases hc with rfl | rfl <;> decide)]
        · have e0 : (9 : Int32) * nI q + nI k = nI (9 * q + k) := by rw [show (9 : Int32) = nI 9 from rfl, pk_mul, nI_add]
          have hk9 : k < 9 := by omega
          have hK5 : wK (w j) ≤ 5 := hOk.2.2.2.1
          have hG9 : wG (w j) ≤ 9 := hOk.2.2.2.2.1
          have hK : m_kind y j = nI (wK (w j)) := (hM.2.2 j hjW).2.2.1
          have hG : m_figure y j = nI (wG (w j)) := (hM.2.2 j hjW).2.2.2.1
          have hl : fX5_lay (w_slotRows x) (nI q) (nI k) (nI (wK (w j))) (nI (wG (w j))) = (fX9_isUnder (nI (wK (w j))) (nI sk)).bind fun o2 => (if o2 = (0 : Int32) then some ((-16 : Int32), w_slotRows x) else qX5_lay_47 (nI q) (nI k) (nI (wK (w j))) (nI (wG (w j))) (w_slotRows x)) := by
            unfold fX5_lay qX5_lay_17
            rw [isSlot8, if_pos ha, bind_s, if_neg n1, e1, bind_s, if_pos rfl, if_neg (nI_pos (by omega)), ga_ok hq3 (by decide), s1, s5, fin_under _ (by omega) _ (by omega)]
          rcases fin_under01 (wK (w j)) (by omega) sk (by omega) with u | u
          · refine ⟨-16, x, y, ?_, ?_, h⟩
            · rw [slots60 (hl.trans (by rw [u, bind_s, if_pos rfl])), counted_low (by decide)]
            · unfold qX9_slots_26
              rw [e2, bind_s, if_pos rfl, if_neg hp0, ga_ok (by omega) (by decide), ga_ok hq3 (by decide), hK, s5, u, bind_s, if_pos rfl]
          · refine ⟨1, _, _, ?_, ?_, lay_rel h hq3 hk9 (u := nI (wK (w j))) (v := nI (wG (w j))) (Or.inr ⟨⟨_, hK5, rfl⟩, _, hG9, rfl⟩)⟩
            · rw [slots60 (hl.trans (by rw [u, bind_s, if_neg n1, lay47 hq3 hk9])), counted_pos (by decide)]
            · unfold qX9_slots_26 qX9_slots_67 qX9_slots_91
              rw [e2, bind_s, if_pos rfl, if_neg hp0, ga_ok (by omega) (by decide), ga_ok hq3 (by decide), hK, s5, u, bind_s, if_neg n1, if_pos hp1, ga_ok (by omega) (by decide), e0, ga_ok (by omega) (by decide), ltt_e, if_pos hp1, ga_ok (by omega) (by decide), slots116 hq3 hk9, hK]
              rw [show m_figure (m_lies_s y (upd (m_lies y) (9 * q + k) (nI (wK (w j))))) j = nI (wG (w j)) from hG]
              rfl
      · refine opI_no h (c := -1) (by decide) (slots8_x hV hN hp hw) ?_
        unfold fX9_slots qX9_slots_20
        rw [isSlot9, if_pos ha, bind_s, if_neg n1, if_neg hp, isWay9 hM.2.1 (by omega), if_neg hw, bind_s, if_pos rfl]
        exact bind_id (fX9_no y (-1))
  · have h9 : fX9_slots y a b p = fX9_no y (-1) := by
      unfold fX9_slots qX9_slots_20
      rw [isSlot9, if_neg ha, bind_s, if_pos rfl]
      exact bind_id (fX9_no y (-1))
    refine opI_no h (c := -1) (by decide) ?_ h9
    by_cases hp : p = -1
    · subst hp
      rw [slots8_m, slots60 (lay_bad ha)]
    · by_cases hw : 0 ≤ p.toInt ∧ p.toInt < W
      · obtain ⟨j, hj, rfl, hj2⟩ := i32_nn hw.1
        rw [slots8_w hV hN (by omega), slots60 (lay_bad ha)]
      · exact slots8_x hV hN hp hw
