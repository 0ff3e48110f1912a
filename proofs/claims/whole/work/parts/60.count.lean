/-! count -/
theorem allw_loop {x : SX8} {y : SX9} {P W : Nat} {w : Nat → Wy} (hV : NV P W w) (hN : NE (w_net x) P W w) (hM : ME y P W w) : ∀ (d fu i : Nat) (l : Int32), i + d = W → d < fu → ∃ r, qX3_weightsOfAll_4 (w_net x) fu l (nI i) = some r ∧ qX9_allWeights_4 y fu l (nI i) = some r := by
  have hW := hV.2.2.1
  intro d
  induction d with
  | zero =>
    intro fu i l h1 h2
    match fu, h2 with
    | fu + 1, _ =>
      have hi : i = W := by omega
      subst hi
      refine ⟨l, ?_, ?_⟩
      · unfold qX3_weightsOfAll_4
        rw [hN.2.1, if_pos (nI_le (Nat.le_refl i) (by omega))]
      · unfold qX9_allWeights_4
        rw [hM.2.1, if_pos (nI_le (Nat.le_refl i) (by omega))]
  | succ d ih =>
    intro fu i l h1 h2
    match fu, h2 with
    | fu + 1, h2 =>
      obtain ⟨r, q1, q2⟩ := ih fu (i + 1) (l + nI (wtw (w i))) (by omega) (by omega)
      refine ⟨r, ?_, ?_⟩
      · unfold qX3_weightsOfAll_4
        rw [hN.2.1, if_neg (nI_ge (by omega) (by omega)), weight8 (by omega) (hN.2.2 i (by omega)) (hV.2.2.2 i (by omega)), bind_s, ltt_e, ltt_e, nI_1, q1]
      · unfold qX9_allWeights_4
        rw [hM.2.1, if_neg (nI_ge (by omega) (by omega)), weight9 (by omega) (hM.2.2 i (by omega)) (hV.2.2.2 i (by omega)), bind_s, ltt_e, ltt_e, nI_1, q2]
theorem andn_or (o s r : Nat) : andn (andn o s) r = andn o (s ||| r) := by
  apply bit_eq
  intro k
  rw [andn_bit, andn_bit, andn_bit, Nat.testBit_or]
  cases o.testBit k <;> cases s.testBit k <;> cases r.testBit k <;> rfl
theorem sets_loop {x : SX8} {y : SX9} {P W : Nat} {w : Nat → Wy} (hV : NV P W w) (hN : NE (w_net x) P W w) (hM : ME y P W w) : ∀ (d fu i s : Nat) (l : Int32), i + d = P → d < fu → s < 2 ^ P → ∃ r, qX3_sets_6 (w_net x) fu (nI s) l (nI i) = some r ∧ qX9_sets_17 fu (at9 y (nI W) (nI (2 ^ W - 1))) (nI (andn (2 ^ P - 1) s)) l (nI i) = some (r, at9 y (nI W) (nI (2 ^ W - 1))) := by
  have hW := hV.2.2.1
  have hP := hV.2.1
  intro d
  induction d with
  | zero =>
    intro fu i s l h1 h2 hs
    match fu, h2 with
    | fu + 1, _ =>
      have hi : i = P := by omega
      subst hi
      refine ⟨l, ?_, ?_⟩
      · unfold qX3_sets_6
        rw [hN.1, if_pos (nI_le (Nat.le_refl i) (by omega))]
      · unfold qX9_sets_17
        rw [show m_points (at9 y (nI W) (nI (2 ^ W - 1))) = nI i from hM.1, if_pos (nI_le (Nat.le_refl i) (by omega))]
  | succ d ih =>
    intro fu i s l h1 h2 hs
    match fu, h2 with
    | fu + 1, h2 =>
      have hiP : i < P := by omega
      have hbit : (andn (2 ^ P - 1) s).testBit i = !s.testBit i := by
        rw [andn_bit, ones_bit, decide_eq_true hiP, Bool.true_and]
      have hR := Rch_lt (t := 2 ^ W - 1) hV.g (two_lt hiP)
      have hA : andn (2 ^ P - 1) s < 2 ^ 31 := andn_lt (ones_lt (by omega))
      by_cases hb : s.testBit i = true
      · obtain ⟨r, q1, q2⟩ := ih fu (i + 1) s l (by omega) (by omega) hs
        refine ⟨r, ?_, ?_⟩
        · unfold qX3_sets_6 qX3_sets_39
          rw [hN.1, if_neg (nI_ge (by omega) (by omega)), has8 (lt31 hP hs) (by omega), if_pos hb, bind_s, if_neg (show ¬ (1 : Int32) = 0 by decide), ltt_e, nI_1, q1]
        · unfold qX9_sets_17 qX9_sets_49
          rw [show m_points (at9 y (nI W) (nI (2 ^ W - 1))) = nI P from hM.1, if_neg (nI_ge (by omega) (by omega)), has9 hA (by omega), hbit, hb, if_neg (show ¬ (!true) = true by decide), bind_s, if_pos rfl, ltt_e, nI_1, q2]
      · obtain ⟨r, q1, q2⟩ := ih fu (i + 1) (s ||| Rch (2 ^ W - 1) w W (2 ^ i)) (l + 1) (by omega) (by omega) (or_lt hs hR)
        refine ⟨r, ?_, ?_⟩
        · unfold qX3_sets_6 qX3_sets_39
          rw [hN.1, if_neg (nI_ge (by omega) (by omega)), has8 (lt31 hP hs) (by omega), if_neg hb, bind_s, if_pos rfl, allWays8 (by omega) hN, bind_s, fin_sh1 i (by omega), reached8 hV.g hN (ones_lt (by omega)) (two_lt hiP), bind_s, nI_or, ltt_e, ltt_e, ltt_e, nI_1, q1]
        · unfold qX9_sets_17 qX9_sets_49
          rw [show m_points (at9 y (nI W) (nI (2 ^ W - 1))) = nI P from hM.1, if_neg (nI_ge (by omega) (by omega)), has9 hA (by omega), hbit, Bool.eq_false_iff.mpr hb, if_pos (show (!false) = true by decide), bind_s, if_neg (show ¬ (1 : Int32) = 0 by decide), reach9 hV.g (at9_MA hM _) (ones_lt (by omega)) hiP, bind_s, nI_andn, andn_or, ltt_e, ltt_e, ltt_e, nI_1, q2]
theorem op_count {x : SX8} {y : SX9} (h : Rel x y) (a : Int32) : ∃ r y', fX8_count x a = some r ∧ fX9_count y a = some (r, y') ∧ Rel x y' := by
  obtain ⟨P, W, w, hV, hN, hM⟩ := h.1
  have hW := hV.2.2.1
  have hP := hV.2.1
  by_cases h0 : a = 0
  · refine ⟨nI P, y, ?_, ?_, h⟩
    · unfold fX8_count
      rw [if_pos h0, hN.1]
    · unfold fX9_count
      rw [if_pos h0, hM.1]
  by_cases h1 : a = 1
  · refine ⟨nI W, y, ?_, ?_, h⟩
    · unfold fX8_count
      rw [if_neg h0, if_pos h1, hN.2.1]
    · unfold fX9_count
      rw [if_neg h0, if_pos h1, hM.2.1]
  by_cases h2 : a = 2
  · obtain ⟨n, hn, e8, e9, -⟩ := h.2.2.1
    refine ⟨nI n, y, ?_, ?_, h⟩
    · unfold fX8_count
      rw [if_neg h0, if_neg h1, if_pos h2, e8]
    · unfold fX9_count
      rw [if_neg h0, if_neg h1, if_pos h2, e9]
  by_cases h3 : a = 3
  · obtain ⟨n, hn, e8, e9, -⟩ := h.2.2.2.1
    refine ⟨nI n, y, ?_, ?_, h⟩
    · unfold fX8_count
      rw [if_neg h0, if_neg h1, if_neg h2, if_pos h3, e8]
    · unfold fX9_count
      rw [if_neg h0, if_neg h1, if_neg h2, if_pos h3, e9]
  by_cases h4 : a = 4
  · obtain ⟨r, q1, q2⟩ := allw_loop hV hN hM W FU 0 0 (by omega) (by unfold FU; omega)
    rw [show nI 0 = (0 : Int32) from rfl] at q1 q2
    refine ⟨r, y, ?_, ?_, h⟩
    · unfold fX8_count fX3_weightsOfAll
      rw [if_neg h0, if_neg h1, if_neg h2, if_neg h3, if_pos h4, q1, bind_s]
    · unfold fX9_count fX9_allWeights
      rw [if_neg h0, if_neg h1, if_neg h2, if_neg h3, if_pos h4, q2, bind_s]
  by_cases h5 : a = 5
  · obtain ⟨r, q1, q2⟩ := sets_loop hV hN hM P FU 0 0 0 (by omega) (by unfold FU; omega) (Nat.two_pow_pos P)
    rw [show andn (2 ^ P - 1) 0 = 2 ^ P - 1 by unfold andn; rw [Nat.and_zero, Nat.xor_zero]] at q2
    rw [show nI 0 = (0 : Int32) from rfl] at q1 q2
    refine ⟨r, at9 y (nI W) (nI (2 ^ W - 1)), ?_, ?_, at9_rel h _ _⟩
    · unfold fX8_count fX3_sets
      rw [if_neg h0, if_neg h1, if_neg h2, if_neg h3, if_neg h4, if_pos h5, q1, bind_s]
    · unfold fX9_count fX9_sets
      rw [if_neg h0, if_neg h1, if_neg h2, if_neg h3, if_neg h4, if_pos h5, allThere9 (by omega) hM, bind_s, show m_points (at9 y (nI W) (nI (2 ^ W - 1))) = nI P from hM.1, fin_shm P (by omega), ltt_e, q2, bind_s]
  have e8 : fX8_count x a = if 11 ≤ a.toInt ∧ a.toInt ≤ 16 then ga 7 (a - 10) fun j1 => some ((w_refusals x) j1) else some (-9) := by
    unfold fX8_count
    rw [if_neg h0, if_neg h1, if_neg h2, if_neg h3, if_neg h4, if_neg h5]
    have i11 : (11 : Int32).toInt = 11 := by decide
    have i16 : (16 : Int32).toInt = 16 := by decide
    by_cases g1 : a < 11
    · rw [if_pos g1, if_neg (by rw [i32_lt] at g1; omega)]
    · rw [if_neg g1]
      by_cases g2 : (16 : Int32) < a
      · rw [if_pos g2, if_neg (by rw [i32_lt] at g2; omega)]
      · rw [if_neg g2, if_pos (by rw [i32_lt] at g1 g2; omega)]
  have e9 : fX9_count y a = if 11 ≤ a.toInt ∧ a.toInt ≤ 16 then ga 7 (a - 10) fun j1 => some ((m_refusals y) j1, y) else some (-9, y) := by
    unfold fX9_count
    rw [if_neg h0, if_neg h1, if_neg h2, if_neg h3, if_neg h4, if_neg h5, isIn_eq, i32_64, show (11 : Int64).toInt = 11 by decide, show (16 : Int64).toInt = 16 by decide, bind_s]
    by_cases g : 11 ≤ a.toInt ∧ a.toInt ≤ 16
    · rw [if_pos g, if_pos g, if_neg (show ¬ (1 : Int32) = 0 by decide)]
    · rw [if_neg g, if_neg g, if_pos rfl]
  by_cases g : 11 ≤ a.toInt ∧ a.toInt ≤ 16
  · obtain ⟨n, hn, rfl, hn2⟩ := i32_nn (a := a) (by omega)
    have hn3 : 11 ≤ n ∧ n ≤ 16 := by omega
    have es : nI n - 10 = nI (n - 10) := by
      apply nI_of_toInt (by omega)
      have := pk_sub_toInt (a := n) (b := 10) (by omega) (by decide)
      rw [show (10 : Int32) = nI 10 from rfl, this]
      omega
    refine ⟨m_refusals y (n - 10), y, ?_, ?_, h⟩
    · rw [e8, if_pos g, es, ga_ok (by omega) (by decide), h.2.2.2.2.2.2.1 (n - 10) (by omega)]
    · rw [e9, if_pos g, es, ga_ok (by omega) (by decide)]
  · exact ⟨-9, y, by rw [e8, if_neg g], by rw [e9, if_neg g], h⟩
