/-! way, kind, load, length -/
theorem ref_ne {c : Int32} (hc : c = -1 ∨ c = -2 ∨ c = -3 ∨ c = -4 ∨ c = -6) : ¬ c = 0 := by rcases hc with rfl | rfl | rfl | rfl | rfl <;> decide
theorem opw8 {x : SX8} {c : Int32} {r8 : Option (Int32 × SX3)} (e8 : r8 = some (c, w_net x)) : (r8.bind fun o1 => ltt (w_net_s x o1.2) fun xs1 => (fX8_counted xs1 o1.1).bind fun o2 => some (o2.1, o2.2)) = fX8_counted x c := by
  rw [e8]
  exact bind_id (fX8_counted x c)
theorem opw9 {y : SX9} {c : Int32} {r9 : Option Int32} {A : Option (Int32 × SX9)} (hc : c = -1 ∨ c = -2 ∨ c = -3 ∨ c = -4 ∨ c = -6) (e9 : r9 = some c) : (r9.bind fun o1 => if o1 = 0 then A else (fX9_no y o1).bind fun o3 => some (o3.1, o3.2)) = fX9_no y c := by
  rw [e9, bind_s, if_neg (ref_ne hc)]
  exact bind_id _
theorem opw8k {x : SX8} {r : Int32} {N' : SX3} {r8 : Option (Int32 × SX3)} (hr : 0 ≤ r) (e8 : r8 = some (r, N')) : (r8.bind fun o1 => ltt (w_net_s x o1.2) fun xs1 => (fX8_counted xs1 o1.1).bind fun o2 => some (o2.1, o2.2)) = some (r, w_net_s x N') := by
  rw [e8]
  show (fX8_counted (w_net_s x N') r).bind _ = _
  rw [counted_pos hr]
  rfl
theorem i32_1 : (1 : Int32).toInt = 1 := by decide
theorem i32_9 : (9 : Int32).toInt = 9 := by decide
theorem more8 {N : SX3} {W : Nat} (hW : n_ways N = nI W) (h : W ≤ 10) : fX3_more N = some (nI W, n_ways_s N (nI (W + 1))) := by
  unfold fX3_more
  rw [hW, if_neg (by rw [show (10 : Int32) = nI 10 from rfl]; exact nI_nlt (by omega) (by decide)), nI_1]
  show qX3_more_19 (n_ways_s N (nI (W + 1))) = _
  unfold qX3_more_19
  show some (nI (W + 1) - 1, _) = _
  rw [nI_pred]
/-- the refusal of a way, on both sides, or the numbers -/
theorem way_code {x : SX8} {y : SX9} {P W : Nat} {w : Nat → Wy} (hV : NV P W w) (hN : NE (w_net x) P W w) (hM : ME y P W w) (a b v l : Int32) :
    (∃ c, (c = -1 ∨ c = -2 ∨ c = -3 ∨ c = -4 ∨ c = -6) ∧ fX3_join (w_net x) a b v l = some (c, w_net x) ∧ fX9_notWay y a b v l = some c) ∨
    ∃ a' b' v' l' : Nat, a' < P ∧ b' < P ∧ a' ≠ b' ∧ 1 ≤ v' ∧ v' ≤ 9 ∧ 1 ≤ l' ∧ l' ≤ 9 ∧ W < 10 ∧ a = nI a' ∧ b = nI b' ∧ v = nI v' ∧ l = nI l' ∧ fX9_notWay y a b v l = some 0 ∧
      fX3_join (w_net x) a b v l = (fX3_lay (n_ways_s (w_net x) (nI (W + 1))) (nI W) a b v l).bind (fun o4 => some (nI W, o4)) := by
  obtain ⟨v1, v2, v3, v4⟩ := hV
  have z1 := i32_1
  have z9 := i32_9
  have hp : P < 2 ^ 30 := by omega
  by_cases ha : 0 ≤ a.toInt ∧ a.toInt < P
  · by_cases hb : 0 ≤ b.toInt ∧ b.toInt < P
    · by_cases hab : a = b
      · refine Or.inl ⟨-1, by decide, ?_, ?_⟩
        · unfold fX3_join
          rw [isPoint8 hN.1 hp, if_pos ha, bind_s, if_neg (by decide), isPoint8 hN.1 hp, if_pos hb, bind_s, if_neg (by decide), if_pos hab]
        · unfold fX9_notWay
          rw [isPoint9 hM.1 hp, if_pos ha, bind_s, if_neg (by decide), isPoint9 hM.1 hp, if_pos hb, bind_s, if_neg (by decide), if_pos hab]
      · have g8 : fX3_join (w_net x) a b v l = (if v < (1 : Int32) then some ((-4 : Int32), w_net x) else if (1 : Int32) ≤ l then (if (9 : Int32) < v then some ((-6 : Int32), w_net x) else if (9 : Int32) < l then some ((-6 : Int32), w_net x) else if nI W < (10 : Int32) then (fX3_more (w_net x)).bind fun o3 => (fX3_lay o3.2 o3.1 a b v l).bind fun o4 => some (o3.1, o4) else some ((-6 : Int32), w_net x)) else some ((-4 : Int32), w_net x)) := by
          unfold fX3_join
          rw [isPoint8 hN.1 hp, if_pos ha, bind_s, if_neg (by decide), isPoint8 hN.1 hp, if_pos hb, bind_s, if_neg (by decide), if_neg hab, hN.2.1]
        have g9 : fX9_notWay y a b v l = (if v < (1 : Int32) then some (-4 : Int32) else if (1 : Int32) ≤ l then (if (9 : Int32) < v then some (-6 : Int32) else if (9 : Int32) < l then some (-6 : Int32) else if nI W = (10 : Int32) then some (-6 : Int32) else some (0 : Int32)) else some (-4 : Int32)) := by
          unfold fX9_notWay qX9_notWay_59
          rw [isPoint9 hM.1 hp, if_pos ha, bind_s, if_neg (by decide), isPoint9 hM.1 hp, if_pos hb, bind_s, if_neg (by decide), if_neg hab, hM.2.1]
        by_cases hv : v < 1
        · exact Or.inl ⟨-4, by decide, by rw [g8, if_pos hv], by rw [g9, if_pos hv]⟩
        · by_cases hl : (1 : Int32) ≤ l
          · by_cases hv9 : (9 : Int32) < v
            · exact Or.inl ⟨-6, by decide, by rw [g8, if_neg hv, if_pos hl, if_pos hv9], by rw [g9, if_neg hv, if_pos hl, if_pos hv9]⟩
            · by_cases hl9 : (9 : Int32) < l
              · exact Or.inl ⟨-6, by decide, by rw [g8, if_neg hv, if_pos hl, if_neg hv9, if_pos hl9], by rw [g9, if_neg hv, if_pos hl, if_neg hv9, if_pos hl9]⟩
              · by_cases hW : W = 10
                · subst hW
                  exact Or.inl ⟨-6, by decide, by rw [g8, if_neg hv, if_pos hl, if_neg hv9, if_neg hl9]; rfl, by rw [g9, if_neg hv, if_pos hl, if_neg hv9, if_neg hl9]; rfl⟩
                · rw [i32_lt] at hv hv9 hl9
                  rw [i32_le] at hl
                  obtain ⟨a', ha1, rfl, ha2⟩ := i32_nn ha.1
                  obtain ⟨b', hb1, rfl, hb2⟩ := i32_nn hb.1
                  obtain ⟨v', hv1, rfl, hv2⟩ := i32_nn (a := v) (by omega)
                  obtain ⟨l', hl1, rfl, hl2⟩ := i32_nn (a := l) (by omega)
                  refine Or.inr ⟨a', b', v', l', by omega, by omega, fun e => hab (by rw [e]), by omega, by omega, by omega, by omega, by omega, rfl, rfl, rfl, rfl, ?_, ?_⟩
                  · rw [g9, if_neg (by rw [i32_lt]; omega), if_pos (by rw [i32_le]; omega), if_neg (by rw [i32_lt]; omega), if_neg (by rw [i32_lt]; omega), if_neg (by rw [show (10 : Int32) = nI 10 from rfl, nI_eq (by omega) (by decide)]; omega)]
                  · rw [g8, if_neg (by rw [i32_lt]; omega), if_pos (by rw [i32_le]; omega), if_neg (by rw [i32_lt]; omega), if_neg (by rw [i32_lt]; omega), if_pos (show nI W < (10 : Int32) from nI_lt (b := 10) (by omega) (by decide)), more8 hN.2.1 (by omega)]
                    rfl
          · exact Or.inl ⟨-4, by decide, by rw [g8, if_neg hv, if_neg hl], by rw [g9, if_neg hv, if_neg hl]⟩
    · refine Or.inl ⟨-1, by decide, ?_, ?_⟩
      · unfold fX3_join
        rw [isPoint8 hN.1 hp, if_pos ha, bind_s, if_neg (by decide), isPoint8 hN.1 hp, if_neg hb, bind_s, if_pos rfl]
      · unfold fX9_notWay
        rw [isPoint9 hM.1 hp, if_pos ha, bind_s, if_neg (by decide), isPoint9 hM.1 hp, if_neg hb, bind_s, if_pos rfl]
  · refine Or.inl ⟨-1, by decide, ?_, ?_⟩
    · unfold fX3_join
      rw [isPoint8 hN.1 hp, if_neg ha, bind_s, if_pos rfl]
    · unfold fX9_notWay
      rw [isPoint9 hM.1 hp, if_neg ha, bind_s, if_pos rfl]
/-- one way more on both sides -/
theorem way_more {N : SX3} {y : SX9} {P W : Nat} {w : Nat → Wy} (hV : NV P W w) (hN : NE N P W w) (hM : ME y P W w) {a b v l : Nat} (ha : a < P) (hb : b < P) (hab : a ≠ b) (hv : 1 ≤ v ∧ v ≤ 9) (hl : 1 ≤ l ∧ l ≤ 9) (hW : W < 10) :
    ∃ (N' : SX3) (f s kd g lo le : Nat → Int32) (w' : Nat → Wy), fX3_lay (n_ways_s N (nI (W + 1))) (nI W) (nI a) (nI b) (nI v) (nI l) = some N' ∧ fX9_comes y (nI a) (nI b) (nI v) (nI l) = some (net9 y (m_points y) (nI (W + 1)) f s kd g lo le) ∧ NV P (W + 1) w' ∧ NE N' P (W + 1) w' ∧ ME6 (m_points y) (nI (W + 1)) f s kd g lo le P (W + 1) w' := by
  obtain ⟨N', e1, e2, e3, e4, e5⟩ := lay8 (N := n_ways_s N (nI (W + 1))) (k := W) (a := a) (b := b) (l := v) (t := l) (by omega)
  obtain ⟨f, s, kd, g, lo, le, g1, g2, g3⟩ := comes9 (y := y) (k := W) (a := a) (b := b) (l := v) (t := l) (by omega) hM.2.1
  refine ⟨N', f, s, kd, g, lo, le, va_up w W (a, b, 0, 0, v, l), e1, g1, ⟨hV.1, hV.2.1, by omega, fun k hk => ?_⟩, ⟨e2.trans hN.1, e3, fun k hk => ?_⟩, hM.1, rfl, fun k hk => ?_⟩
  · by_cases e : k = W
    · subst e
      rw [vaup_s]
      exact ⟨ha, hb, hab, Nat.zero_le _, Nat.zero_le _, hv.1, hv.2, hl.1, hl.2⟩
    · rw [vaup_n e]
      exact hV.2.2.2 k (by omega)
  · by_cases e : k = W
    · subst e
      rw [vaup_s]
      exact e4
    · rw [vaup_n e]
      exact e5 k _ e (hN.2.2 k (by omega))
  · by_cases e : k = W
    · subst e
      rw [vaup_s]
      exact g2
    · rw [vaup_n e]
      exact g3 k _ e (hM.2.2 k (by omega))
theorem op_way {x : SX8} {y : SX9} (h : Rel x y) (a b v l : Int32) : OpI (fX8_way x a b v l) (fX9_way y a b v l) := by
  obtain ⟨P, W, w, hV, hN, hM⟩ := h.1
  rcases way_code hV hN hM a b v l with ⟨c, hc, e8, e9⟩ | ⟨a', b', v', l', k1, k2, k3, k4, k5, k6, k7, k8, rfl, rfl, rfl, rfl, e9, e8⟩
  · exact opI_no h hc (by unfold fX8_way; exact opw8 e8) (by unfold fX9_way; exact opw9 hc e9)
  · obtain ⟨N', f, s, kd, g, lo, le, w', r1, r2, r3, r4, r5⟩ := way_more hV hN hM k1 k2 k3 ⟨k4, k5⟩ ⟨k6, k7⟩ k8
    refine ⟨nI W, w_net_s x N', net9 y (m_points y) (nI (W + 1)) f s kd g lo le, ?_, ?_, ⟨P, W + 1, w', r3, r4, r5⟩, h.2⟩
    · unfold fX8_way
      exact opw8k (nI_pos' (by omega)) (by rw [e8, r1]; rfl)
    · unfold fX9_way
      rw [e9, bind_s, if_pos rfl, r2]
      show some (nI (W + 1) - 1, _) = _
      rw [nI_pred]
