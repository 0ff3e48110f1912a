/-! visits -/
theorem share_aa {y : SX9} {P A t : Nat} {w : Nat → Wy} (hV : GV P A w) (hM : MA y P A t w) (ht : t < 2 ^ 31) {b c : Nat} (hb : b < P) (hc : c < P) : fX9_share y (nI b) (nI b) (nI c) = some (0, y) := by
  have hP := hV.2.1
  have hR := lt31 hP (Rch_lt (t := t) hV (two_lt hb))
  unfold fX9_share
  rw [reach9 hV hM ht hb, bind_s]
  by_cases e : nI c = nI b
  · rw [if_pos e]
  · rw [if_neg e, has9 hR (by omega), bind_s]
    by_cases h : (Rch t w A (2 ^ b)).testBit c = true
    · rw [if_pos h, if_neg (show ¬ (1 : Int32) = 0 by decide), if_pos rfl]
    · rw [if_neg h, if_pos rfl]
theorem op_visits {x : SX8} {y : SX9} (h : Rel x y) (a b d c : Int32) : OpL (fX8_visits x a b d c) (fX9_visits y a b d c) := by
  have n1 : ¬ (1 : Int32) = 0 := by decide
  obtain ⟨P, W, w, hV, hN, hM⟩ := h.1
  have hW := hV.2.2.1
  have hP := hV.2.1
  have hfar : ∀ k : Int32, ¬ k = 0 → qX8_visits_28 a b d c x k = fX8_refused x k := fun k hk => by
    unfold qX8_visits_28
    rw [if_neg hk]
    exact bind_id (fX8_refused x k)
  have hno8 : ((0 ≤ a.toInt ∧ a.toInt < P) ∧ (0 ≤ b.toInt ∧ b.toInt < P) ∧ (0 ≤ d.toInt ∧ d.toInt < P) ∧ ¬ d = b) ∨ (fX8_visits x a b d c = fX8_refused x (-1) ∧ fX9_visits y a b d c = fX9_far y (-1)) := by
    by_cases hq : (0 ≤ a.toInt ∧ a.toInt < P) ∧ (0 ≤ b.toInt ∧ b.toInt < P) ∧ (0 ≤ d.toInt ∧ d.toInt < P) ∧ ¬ d = b
    · exact Or.inl hq
    · refine Or.inr ⟨?_, ?_⟩
      · unfold fX8_visits qX8_visits_16
        rw [isPoint8 hN.1 (by omega), bind_s]
        by_cases hd : 0 ≤ d.toInt ∧ d.toInt < P
        · rw [if_pos hd, if_neg n1]
          by_cases e : d = b
          · rw [if_pos e, hfar _ (by decide)]
          · rw [if_neg e, jr_a hV hN (fun z => hq ⟨z.1, z.2, hd, e⟩), bind_s, hfar _ (by decide)]
        · rw [if_neg hd, if_pos rfl, hfar _ (by decide)]
      · unfold fX9_visits qX9_visits_29
        rw [isPoint9 hM.1 (by omega), bind_s]
        by_cases ha : 0 ≤ a.toInt ∧ a.toInt < P
        · rw [if_pos ha, if_neg n1, isPoint9 hM.1 (by omega), bind_s]
          by_cases hb : 0 ≤ b.toInt ∧ b.toInt < P
          · rw [if_pos hb, if_neg n1, isPoint9 hM.1 (by omega), bind_s]
            by_cases hd : 0 ≤ d.toInt ∧ d.toInt < P
            · rw [if_pos hd, if_neg n1, if_pos (Classical.byContradiction fun z => hq ⟨ha, hb, hd, z⟩)]
              exact bind_id _
            · rw [if_neg hd, if_pos rfl]
              exact bind_id _
          · rw [if_neg hb, if_pos rfl]
            exact bind_id _
        · rw [if_neg ha, if_pos rfl]
          exact bind_id _
  rcases hno8 with ⟨ha, hb, hd, hdb⟩ | ⟨e8, e9⟩
  · obtain ⟨p, hp, rfl⟩ := isPt ha
    obtain ⟨q, hq, rfl⟩ := isPt hb
    obtain ⟨s, hs, rfl⟩ := isPt hd
    have e8 : fX8_visits x (nI p) (nI q) (nI s) c = (fX8_refusalOfJourney x (nI p) (nI q) c).bind fun o7 => qX8_visits_28 (nI p) (nI q) (nI s) c x o7 := by
      unfold fX8_visits
      rw [isPoint8 hN.1 (by omega), if_pos hd, bind_s, if_neg n1, if_neg hdb]
    rw [e8]
    unfold fX9_visits
    rw [isPoint9 hM.1 (by omega), if_pos ha, bind_s, if_neg n1, isPoint9 hM.1 (by omega), if_pos hb, bind_s, if_neg n1, isPoint9 hM.1 (by omega), if_pos hd, bind_s, if_neg n1, if_neg hdb, isPart9, bind_s]
    by_cases hc : c = 0 ∨ c = 1
    · rw [if_pos hc, if_neg n1, jr_ok hV hN hp hq hc, bind_s, allThere9 (by omega) hM, bind_s]
      have hone := ones_lt (show W ≤ 11 by omega)
      have hMA := at9_MA hM (2 ^ W - 1)
      have hR0 := at9_rel h (nI W) (nI (2 ^ W - 1))
      generalize at9 y (nI W) (nI (2 ^ W - 1)) = y1 at *
      rw [reach9 hV.g hMA hone hp, bind_s, has9 (lt31 hP (Rch_lt hV.g (two_lt hp))) (by omega), bind_s]
      by_cases hr : (Rch (2 ^ W - 1) w W (2 ^ p)).testBit q = true
      · rw [if_pos hr, if_pos hr, if_neg n1]
        rw [Rch_symb hV.g hp hq] at hr
        obtain ⟨E, q1, q2⟩ := current8 (t := 2 ^ W - 1) hV.g hN hV.bd hone hp hq (w_equations x)
        obtain ⟨-, -, hD1, hD2⟩ := sys_b (t := 2 ^ W - 1) hV.g hV.bd hq
        obtain ⟨y2, d1, d2, d3, d4⟩ := down9 hV.g hMA hone hq
        have hdg := dg_b (t := 2 ^ W - 1) (x := s) hV.g W (Nat.le_refl W)
        have hO := op_lt (t := 2 ^ W - 1) hV.g (two_lt hq)
        have key : ∃ (v : Int) (y3 : SX9), 0 ≤ v ∧ v < 2 ^ 48 ∧ eq_above E s = zI v ∧ Kp y2 y3 ∧ fX9_share y2 (nI p) (nI q) (nI s) = some (zI v, y3) ∧ m_down y3 = m_down y2 := by
          by_cases hpq : p = q
          · subst hpq
            refine ⟨0, y2, by decide, by decide, ?_, Kp.rfl y2, share_aa hV.g (d1.ma hMA) hone hq hs, rfl⟩
            rw [q2.2 s (by omega)]
            by_cases hb : (op (2 ^ W - 1) w W (2 ^ p)).testBit s = true
            · rw [if_pos hb, Xk_0 (ct_lt hO (by omega) hb) (fun i hi => un_out hO (by rw [op_bit]; simp) hi)]
            · rw [if_neg hb]; rfl
          · obtain ⟨v1, a1, a2, a3, a4⟩ := share_eq hV.g hV.bd hp hq hs hr hpq q2
            obtain ⟨y3, s1, s2, s3, s4⟩ := share9 hV.g (d1.ma hMA) hone hp hq hs hr hpq
            rw [a4] at s2
            exact ⟨v1, y3, a1, a2, a3, s1, s2, s4⟩
        obtain ⟨v, y3, v1, v2, v3, v4, v5, v6⟩ := key
        have hm := mm (show ((dg (2 ^ W - 1) w s W : Nat) : Int) ≤ 198 by omega) (show v ≤ 2 ^ 48 by omega) v1 (by decide)
        have hm0 := Int.mul_nonneg (show (0 : Int) ≤ ((dg (2 ^ W - 1) w s W : Nat) : Int) by omega) v1
        obtain ⟨r, r8, r9⟩ := LT (a := ((dg (2 ^ W - 1) w s W : Nat) : Int) * v) (by omega) (by omega) hD1 hD2 c
        refine ⟨r, w_equations_s x E, y3, ?_, ?_, rel_eq (v4.rel (d1.rel hR0)) E⟩
        · unfold qX8_visits_28
          rw [if_pos rfl, allWays8 (by omega) hN, bind_s, q1, bind_s, ltt_e, show w_net (w_equations_s x E) = w_net x from rfl, weightsAt8 hV.g hN hs, bind_s, ga_ok (by omega) (by decide), ltt_e]
          show (fX8_leastTerms ((nI (dg (2 ^ W - 1) w s W)).toInt64 * eq_above E s) (eq_below E) c).bind _ = _
          rw [v3, zI_n (by omega), zI_mul, q2.1, r8, bind_s]
        · rw [d2, bind_s, v5, bind_s, weightsAt9 hV.g (v4.ma (d1.ma hMA)) hone hs, bind_s, zI_n (by omega), zI_mul, v6, d4, Int.mul_comm, r9, bind_s]
      · rw [if_neg hr, if_neg hr, if_pos rfl, hfar _ (by decide)]
        exact opL_far hR0 (c := -3) (by decide) rfl (bind_id _)
    · rw [if_neg hc, if_pos rfl, jr_c hV hN hp hq hc, bind_s, hfar _ (by decide)]
      exact opL_far h (c := -2) (by decide) rfl (bind_id _)
  · exact opL_far h (c := -1) (by decide) e8 e9
