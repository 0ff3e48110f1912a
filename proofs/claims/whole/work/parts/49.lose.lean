/-! lose -/
def wdel (w : Nat → Wy) (k : Nat) : Nat → Wy := fun j => if j < k then w j else w (j + 1)
theorem wdel_lt {w : Nat → Wy} {k j : Nat} (h : j < k) : wdel w k j = w j := if_pos h
theorem wdel_ge {w : Nat → Wy} {k j : Nat} (h : k ≤ j) : wdel w k j = w (j + 1) := if_neg (by omega)
theorem NV.del {P W k : Nat} {w : Nat → Wy} (hV : NV P W w) (hk : k < W) : NV P (W - 1) (wdel w k) := by
  refine ⟨hV.1, hV.2.1, by have := hV.2.2.1; omega, fun j hj => ?_⟩
  by_cases h : j < k
  · rw [wdel_lt h]; exact hV.2.2.2 j (by omega)
  · rw [wdel_ge (by omega)]; exact hV.2.2.2 (j + 1) (by omega)
theorem drop_loop {P W k : Nat} {w : Nat → Wy} (hW : W ≤ 10) (hk : k < W) (pa : Int32) : ∀ (fu i : Nat) (N : SX3), k + 1 ≤ i → i ≤ W → W - i < fu → n_points N = nI P → n_ways N = nI W → (∀ j, j + 1 < i → NWat N j (wdel w k j)) → (∀ j, i ≤ j → j < W → NWat N j (w j)) → ∃ N' : SX3, qX3_drop_14 pa fu N (nI i) = some (nI (W - 1), N') ∧ NE N' P (W - 1) (wdel w k) := by
  intro fu
  induction fu with
  | zero => intro i N h1 h2 h3; omega
  | succ fu ih =>
    intro i N h1 h2 h3 hp hw ha hb
    unfold qX3_drop_14
    rw [hw]
    by_cases hc : i = W
    · subst hc
      rw [if_pos (nI_le (Nat.le_refl i) (by omega)), show nI i = nI ((i - 1) + 1) from by rw [show i - 1 + 1 = i by omega], nI_pred]
      exact ⟨n_ways_s N (nI (i - 1)), rfl, hp, rfl, fun j hj => ha j (by omega)⟩
    · rw [if_neg (nI_ge (by omega) (by omega))]
      have e1 : nI i - 1 = nI (i - 1) := by rw [show nI i = nI ((i - 1) + 1) from by rw [show i - 1 + 1 = i by omega], nI_pred]
      obtain ⟨N', r1, r2, r3, r4, r5⟩ := copyWay8 (N := N) (p := i) (q := i - 1) (by omega) (by omega)
      rw [e1, r1, bind_s]
      simp only [ltt, nI_1]
      refine ih (i + 1) N' (by omega) (by omega) (by omega) (r2.trans hp) (r3.trans hw) (fun j hj => ?_) (fun j hj hj2 => r5 j _ (by omega) (hb j (by omega) hj2))
      by_cases e : j = i - 1
      · subst e
        rw [wdel_ge (by omega), show i - 1 + 1 = i by omega]
        exact r4 _ (hb i (Nat.le_refl i) (by omega))
      · exact r5 j _ e (ha j (by omega))
theorem drop8 {N : SX3} {P W k : Nat} {w : Nat → Wy} (hV : NV P W w) (hN : NE N P W w) (hk : k < W) : ∃ N' : SX3, fX3_drop N (nI k) = some (nI (W - 1), N') ∧ NE N' P (W - 1) (wdel w k) := by
  have hW := hV.2.2.1
  have e : (nI k).toInt = k := nI_toInt (by omega)
  unfold fX3_drop
  rw [isWay8 hN.2.1 (by omega), if_pos (by omega), bind_s, if_neg (by decide)]
  simp only [ltt, nI_1]
  exact drop_loop hW hk (nI k) FU (k + 1) N (Nat.le_refl _) (by omega) (by unfold FU; omega) hN.1 hN.2.1 (fun j hj => by rw [wdel_lt (by omega)]; exact hN.2.2 j (by omega)) (fun j _ hj => hN.2.2 j hj)
theorem loses_loop {W k : Nat} {w : Nat → Wy} (hW : W ≤ 10) (hk : k < W) (pa : Int32) (z : SX9) : ∀ (fu i : Nat) (f s kd g lo le : Nat → Int32), k ≤ i → i ≤ W - 1 → W - 1 - i < fu → (∀ j, j < i → Wat f s kd g lo le j (wdel w k j)) → (∀ j, i < j → j < W → Wat f s kd g lo le j (w j)) → ∃ f' s' kd' g' lo' le', qX9_loses_12 pa fu (net9 z (m_points z) (nI (W - 1)) f s kd g lo le) (nI i) = some (net9 z (m_points z) (nI (W - 1)) f' s' kd' g' lo' le') ∧ ∀ j, j < W - 1 → Wat f' s' kd' g' lo' le' j (wdel w k j) := by
  intro fu
  induction fu with
  | zero => intro i f s kd g lo le h1 h2 h3; omega
  | succ fu ih =>
    intro i f s kd g lo le h1 h2 h3 ha hb
    unfold qX9_loses_12
    by_cases hc : i = W - 1
    · rw [if_pos (show nI (W - 1) ≤ nI i from by rw [hc]; exact nI_le (Nat.le_refl _) (by omega))]
      exact ⟨f, s, kd, g, lo, le, rfl, fun j hj => ha j (by omega)⟩
    · rw [if_neg (show ¬ nI (W - 1) ≤ nI i from nI_ge (by omega) (by omega)), nI_1]
      obtain ⟨f', s', kd', g', lo', le', r1, r2, r3⟩ := shifts9 (y := net9 z (m_points z) (nI (W - 1)) f s kd g lo le) (p := i + 1) (q := i) (by omega) (by omega)
      rw [r1, bind_s]
      simp only [ltt]
      refine ih (i + 1) f' s' kd' g' lo' le' (by omega) (by omega) (by omega) (fun j hj => ?_) (fun j hj hj2 => r3 j _ (by omega) (hb j (by omega) hj2))
      by_cases e : j = i
      · subst e
        rw [wdel_ge (by omega)]
        exact r2 _ (hb (j + 1) (by omega) (by omega))
      · exact r3 j _ e (ha j (by omega))
theorem loses9 {y : SX9} {P W k : Nat} {w : Nat → Wy} (hW : W ≤ 10) (hM : ME y P W w) (hk : k < W) : ∃ f s kd g lo le, fX9_loses y (nI k) = some (net9 y (m_points y) (nI (W - 1)) f s kd g lo le) ∧ ME6 (m_points y) (nI (W - 1)) f s kd g lo le P (W - 1) (wdel w k) := by
  have e1 : m_many y - 1 = nI (W - 1) := by rw [hM.2.1, show nI W = nI ((W - 1) + 1) from by rw [show W - 1 + 1 = W by omega], nI_pred]
  obtain ⟨f, s, kd, g, lo, le, r1, r2⟩ := loses_loop hW hk (nI k) y FU k (m_first y) (m_second y) (m_kind y) (m_figure y) (m_load y) (m_length y) (Nat.le_refl k) (by omega) (by unfold FU; omega) (fun j hj => by rw [wdel_lt hj]; exact hM.2.2 j (by omega)) (fun j _ hj => hM.2.2 j hj)
  refine ⟨f, s, kd, g, lo, le, ?_, hM.1, rfl, r2⟩
  unfold fX9_loses
  rw [e1]
  exact r1
theorem op_lose {x : SX8} {y : SX9} (h : Rel x y) (a : Int32) : OpI (fX8_lose x a) (fX9_lose y a) := by
  obtain ⟨P, W, w, hV, hN, hM⟩ := h.1
  have hW := hV.2.2.1
  have hw : W < 2 ^ 30 := by omega
  by_cases ha : 0 ≤ a.toInt ∧ a.toInt < W
  · obtain ⟨k, hk0, rfl, hk2⟩ := i32_nn ha.1
    have hk : k < W := by omega
    obtain ⟨N', r1, r2⟩ := drop8 hV hN hk
    obtain ⟨f, s, kd, g, lo, le, q1, q2⟩ := loses9 hW hM hk
    refine ⟨nI (W - 1), w_net_s x N', net9 y (m_points y) (nI (W - 1)) f s kd g lo le, ?_, ?_, ⟨P, W - 1, wdel w k, hV.del hk, r2, q2⟩, h.2⟩
    · unfold fX8_lose
      exact opw8k (nI_pos' (by omega)) r1
    · unfold fX9_lose
      rw [isWay9 hM.2.1 hw, if_pos ha, bind_s, if_neg (by decide), q1]
      rfl
  · refine opI_no h (c := -1) (by decide) ?_ ?_
    · unfold fX8_lose
      refine opw8 ?_
      unfold fX3_drop
      rw [isWay8 hN.2.1 hw, if_neg ha]; rfl
    · unfold fX9_lose
      rw [isWay9 hM.2.1 hw, if_neg ha]
      exact bind_id (fX9_no y (-1))
