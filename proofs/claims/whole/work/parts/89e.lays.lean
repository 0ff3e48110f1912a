/-! lays, judge -/
theorem com9 {a b : Int} (h1 : -(2 ^ 63) < a) (h2 : a < 2 ^ 63) (h3 : 0 < b) (h4 : b < 2 ^ 48) : fX9_common (zI a) (zI b) = some (lN (Nat.gcd a.natAbs b.natAbs)) ∧ lN (Nat.gcd a.natAbs b.natAbs) ≠ 0 := by
  have hb : zI b = lN b.natAbs := by
    rw [lN_zI (by omega)]
    congr 1
    omega
  have hg := gcd9_loop (zI a) (zI b) 48 FU a.natAbs b.natAbs (by omega) (by omega) (by omega) (by unfold FU; omega)
  have hgp : 0 < Nat.gcd a.natAbs b.natAbs := Nat.gcd_pos_of_pos_right _ (by omega)
  have hgl : Nat.gcd a.natAbs b.natAbs ≤ b.natAbs := Nat.gcd_le_right _ (by omega)
  have hne : ¬ lN (Nat.gcd a.natAbs b.natAbs) = (0 : Int64) := by
    rw [show (0 : Int64) = lN 0 by decide, pk_lEQ (by omega) (by decide)]
    omega
  refine ⟨?_, hne⟩
  unfold fX9_common qX9_common_12
  by_cases h0 : 0 ≤ a
  · rw [if_pos (by rw [show (0 : Int64) = zI 0 from rfl, zI_le (by omega) (by omega) (by omega) h2]; exact h0)]
    have ha : zI a = lN a.natAbs := by
      rw [lN_zI (by omega)]
      congr 1
      omega
    rw [← hg, hb, ← ha]
  · rw [if_neg (by rw [show (0 : Int64) = zI 0 from rfl, zI_le (by omega) (by omega) (by omega) h2]; exact h0)]
    have ha : - zI a = lN a.natAbs := by
      rw [zI_neg, lN_zI (by omega)]
      congr 1
      omega
    rw [← hg, hb, ← ha]
/-- what is told of the point z -/
theorem told {P W : Nat} {w : Nat → Wy} (hV : NV P W w) {b : Nat} (hb : b < P) {E : SX0} (hE1 : eq_below E = zI (bD (2 ^ W - 1) w W b)) (hE2 : ∀ a, a < P → (Rch (2 ^ W - 1) w W (2 ^ b)).testBit a = true → eq_above E a = zI (tU (2 ^ W - 1) w W a b)) {z : Nat} (hz : z < P) : ∃ r0 r1 : Int64, (∀ xs : SX8, w_equations xs = E → fX8_toldTime xs (nI (Rch (2 ^ W - 1) w W (2 ^ b))) (nI (2 * z)) = some r0 ∧ fX8_toldTime xs (nI (Rch (2 ^ W - 1) w W (2 ^ b))) (nI (2 * z + 1)) = some r1) ∧ ∀ y : SX9, MA y P W (2 ^ W - 1) w → ∃ y', Kp y y' ∧ fX9_findTold y (nI z) (nI b) = some y' ∧ m_up y' = r0 ∧ m_down y' = r1 := by
  have hW := hV.2.2.1
  have hP := hV.2.1
  have n1 : ¬ (1 : Int32) = 0 := by decide
  have hone := ones_lt (show W ≤ 11 by omega)
  have hR := lt31 hP (Rch_lt (t := 2 ^ W - 1) hV.g (two_lt hb))
  have d1 : nI (2 * z) / (2 : Int32) = nI z := by
    rw [show (2 : Int32) = nI 2 from rfl, pk_div (by omega) (by decide) (by decide), show 2 * z / 2 = z by omega]
  have d2 : nI (2 * z + 1) / (2 : Int32) = nI z := by
    rw [show (2 : Int32) = nI 2 from rfl, pk_div (by omega) (by decide) (by decide), show (2 * z + 1) / 2 = z by omega]
  have m1 : nI (2 * z) - nI (2 * z) / (2 : Int32) * (2 : Int32) = 0 := by
    rw [show (2 : Int32) = nI 2 from rfl, pk_rem (by omega) (by decide) (by decide), show 2 * z % 2 = 0 by omega]
    rfl
  have m2 : nI (2 * z + 1) - nI (2 * z + 1) / (2 : Int32) * (2 : Int32) = 1 := by
    rw [show (2 : Int32) = nI 2 from rfl, pk_rem (by omega) (by decide) (by decide), show (2 * z + 1) % 2 = 1 by omega]
    rfl
  by_cases hr : (Rch (2 ^ W - 1) w W (2 ^ b)).testBit z = true
  · have tr := tU_r (t := 2 ^ W - 1) hV.g hV.bd hz hb hr
    have dr := bD_r (t := 2 ^ W - 1) hV.g hV.bd hb
    have key : ∃ r0 r1, fX8_leastTerms (zI (tU (2 ^ W - 1) w W z b)) (zI (bD (2 ^ W - 1) w W b)) 0 = some r0 ∧ fX8_leastTerms (zI (tU (2 ^ W - 1) w W z b)) (zI (bD (2 ^ W - 1) w W b)) 1 = some r1 ∧ ∃ g, fX9_common (zI (tU (2 ^ W - 1) w W z b)) (zI (if z = b then 1 else bD (2 ^ W - 1) w W b)) = some g ∧ g ≠ 0 ∧ zI (tU (2 ^ W - 1) w W z b) / g = r0 ∧ zI (if z = b then 1 else bD (2 ^ W - 1) w W b) / g = r1 := by
      by_cases e : z = b
      · have h0 : tU (2 ^ W - 1) w W z b = 0 := if_pos e
        rw [h0, if_pos e]
        obtain ⟨r0, a0, b0⟩ := LT0 dr.1 dr.2 0
        obtain ⟨r1, a1, b1⟩ := LT0 dr.1 dr.2 1
        have c := com9 (a := 0) (b := 1) (by decide) (by decide) (by decide) (by decide)
        have q0 := lt9 (a := 0) (b := 1) (by decide) (by decide) (by decide) (by decide) 0
        have q1 := lt9 (a := 0) (b := 1) (by decide) (by decide) (by decide) (by decide) 1
        rw [if_pos rfl] at q0
        rw [if_neg n1] at q1
        refine ⟨r0, r1, a0, a1, _, c.1, c.2, ?_, ?_⟩
        · exact Option.some.inj (q0.symm.trans b0)
        · exact Option.some.inj (q1.symm.trans b1)
      · rw [if_neg e]
        have c := com9 (a := tU (2 ^ W - 1) w W z b) (b := bD (2 ^ W - 1) w W b) (by omega) (by omega) dr.1 dr.2
        have q0 := lt8 (a := tU (2 ^ W - 1) w W z b) (b := bD (2 ^ W - 1) w W b) (by omega) (by omega) dr.1 dr.2 0
        have q1 := lt8 (a := tU (2 ^ W - 1) w W z b) (b := bD (2 ^ W - 1) w W b) (by omega) (by omega) dr.1 dr.2 1
        rw [if_pos rfl] at q0
        rw [if_neg n1] at q1
        exact ⟨_, _, q0, q1, _, c.1, c.2, rfl, rfl⟩
    obtain ⟨r0, r1, k0, k1, g, g1, g2, g3, g4⟩ := key
    refine ⟨r0, r1, fun xs hxs => ⟨?_, ?_⟩, fun y hM => ?_⟩
    · unfold fX8_toldTime
      rw [m1, ltt_e, ltt_e, d1, has8 hR (by omega), if_pos hr, bind_s, if_neg n1, ga_ok (by omega) (by decide), hxs, hE1, hE2 z hz hr, k0, bind_s]
    · unfold fX8_toldTime
      rw [m2, ltt_e, ltt_e, d2, has8 hR (by omega), if_pos hr, bind_s, if_neg n1, ga_ok (by omega) (by decide), hxs, hE1, hE2 z hz hr, k1, bind_s]
    · obtain ⟨y1, l1, l2, l3⟩ := find9T hV.g hM hone hz hb
      obtain ⟨u1, u2⟩ := l3 hr
      obtain ⟨aa, n, mx, rg, ds, u, d, hy1⟩ := l1
      subst hy1
      rw [mg_up] at u1
      rw [mg_down] at u2
      subst u1
      subst u2
      refine ⟨ms9 y aa n mx rg ds r0 r1, ⟨_, _, _, _, _, _, _, rfl⟩, ?_, rfl, rfl⟩
      unfold fX9_findTold gzl
      rw [l2, bind_s, if_pos hr, if_neg n1, mg_up, mg_down, g1, bind_s, if_neg g2, ltt_e, ltt_e, ms_up, if_neg g2, mg_down, g3, g4, ltt_e, ltt_e, ms_down]
  · refine ⟨1, 0, fun xs hxs => ⟨?_, ?_⟩, fun y hM => ?_⟩
    · unfold fX8_toldTime
      rw [m1, ltt_e, ltt_e, d1, has8 hR (by omega), if_neg hr, bind_s, if_pos rfl, if_pos rfl]
    · unfold fX8_toldTime
      rw [m2, ltt_e, ltt_e, d2, has8 hR (by omega), if_neg hr, bind_s, if_pos rfl, if_neg n1]
    · obtain ⟨y1, l1, l2, -⟩ := find9T hV.g hM hone hz hb
      obtain ⟨aa, n, mx, rg, ds, u, d, hy1⟩ := l1
      subst hy1
      refine ⟨ms9 y aa n mx rg ds 1 0, ⟨_, _, _, _, _, _, _, rfl⟩, ?_, rfl, rfl⟩
      unfold fX9_findTold
      rw [l2, bind_s, if_neg hr, if_pos rfl, ltt_e, ltt_e, ms_up, ms_down]
theorem hasP8 {x : SX8} {q n : Nat} (hq : q < 3) (hn : n ≤ 20) (h : li_sizes (w_listRows x) q = nI n) (k : Nat) (hk : k < 2 ^ 31) : fX1_hasPlace (w_listRows x) (nI q) (nI k) = some (if k < n then 1 else 0) := by
  unfold fX1_hasPlace
  rw [if_neg (nI_pos hk), ga_ok hq (by decide), h]
  by_cases e : k < n
  · rw [if_neg (nI_ge e (by omega)), if_pos e]
  · rw [if_pos (nI_le (by omega) hk), if_neg e]
theorem Kp_lm {y y' : SX9} (h : Kp y y') : m_listMany y' = m_listMany y ∧ m_items y' = m_items y := by
  obtain ⟨a, n, mx, rg, ds, u, d, rfl⟩ := h
  exact ⟨rfl, rfl⟩
theorem list_n {x : SX8} {y : SX9} (h : Rel x y) {q n : Nat} (hq : q < 3) (hn : m_listMany y q = nI n) (hn20 : n ≤ 20) : ∀ k, k < n → li_rows (w_listRows x) q k = m_items y (20 * q + k) := by
  rcases h.2.2.2.2.1 q hq with ⟨o1, o2⟩ | ⟨m, hm, o1, o2, o3⟩
  · rw [o2] at hn
    exact absurd hn.symm (neg1_ne (by omega))
  · have : m = n := (nI_eq (by omega) (by omega)).mp (o2.symm.trans hn)
    subst this
    exact o3
theorem fin_div2 : ∀ k, k < 20 → nI k / (2 : Int32) = nI (k / 2) := by decide +kernel
theorem judge_loop {x : SX8} {P W : Nat} {w : Nat → Wy} (hV : NV P W w) (hN : NE (w_net x) P W w) {b q n : Nat} (hb : b < P) (hq : q < 3) (hn : n ≤ 20) (hsz : li_sizes (w_listRows x) q = nI n) {E : SX0} (hE1 : eq_below E = zI (bD (2 ^ W - 1) w W b)) (hE2 : ∀ a, a < P → (Rch (2 ^ W - 1) w W (2 ^ b)).testBit a = true → eq_above E a = zI (tU (2 ^ W - 1) w W a b)) {c : Nat → Int64} (hc : ∀ k, k < n → li_rows (w_listRows x) q k = c (20 * q + k)) : ∀ (d fu fu9 z : Nat) (y : SX9), z + d = P → 2 * d < fu → d < fu9 → Rel x y → MA y P W (2 ^ W - 1) w → m_listMany y q = nI n → m_items y = c → ∃ r y', qX8_judge_75 (nI q) (nI b) fu (w_equations_s x E) (nI (Rch (2 ^ W - 1) w W (2 ^ b))) (nI (2 * z)) = some (r, w_equations_s x E) ∧ qX9_judge_39 (nI q) (nI b) fu9 y (nI z) = some (r, y') ∧ Rel x y' := by
  have hW := hV.2.2.1
  have hP := hV.2.1
  intro d
  induction d with
  | zero =>
    intro fu fu9 z y h1 h2 h3 hR hM hl hi
    match fu, fu9, h2, h3 with
    | fu + 1, fu9 + 1, _, _ =>
      have hz : z = P := by omega
      subst hz
      refine ⟨-9, y, ?_, ?_, hR⟩
      · rw [qX8_judge_75, show n_points (w_net (w_equations_s x E)) = nI z from hN.1, show (2 : Int32) = nI 2 from rfl, pk_mul, if_pos (nI_le (Nat.le_refl _) (by omega))]
      · rw [qX9_judge_39, hM.1, if_pos (nI_le (Nat.le_refl z) (by omega))]
  | succ d ih =>
    intro fu fu9 z y h1 h2 h3 hR hM hl hi
    match fu, fu9, h2, h3 with
    | fu + 2, fu9 + 1, h2, h3 =>
      have hz : z < P := by omega
      obtain ⟨r0, r1, t8, t9⟩ := told hV hb hE1 hE2 hz
      obtain ⟨a8, b8⟩ := t8 (w_equations_s x E) rfl
      obtain ⟨y1, k1, k2, k3, k4⟩ := t9 y hM
      have hR1 := k1.rel hR
      have hM1 := k1.ma hM
      have hl1 : m_listMany y1 q = nI n := by rw [(Kp_lm k1).1]; exact hl
      have hi1 : m_items y1 = c := by rw [(Kp_lm k1).2]; exact hi
      have s8 : ∀ fu k, k < 2 * P → k < 20 → ∀ v, fX8_toldTime (w_equations_s x E) (nI (Rch (2 ^ W - 1) w W (2 ^ b))) (nI k) = some v → qX8_judge_75 (nI q) (nI b) (fu + 1) (w_equations_s x E) (nI (Rch (2 ^ W - 1) w W (2 ^ b))) (nI k) = if k < n then (if c (20 * q + k) = v then qX8_judge_75 (nI q) (nI b) fu (w_equations_s x E) (nI (Rch (2 ^ W - 1) w W (2 ^ b))) (nI (k + 1)) else some (nI (k / 2), w_equations_s x E)) else some (nI (100 + k / 2), w_equations_s x E) := by
        intro fu k hk hk20 v hv
        rw [qX8_judge_75, show n_points (w_net (w_equations_s x E)) = nI P from hN.1, show (2 : Int32) = nI 2 from rfl, pk_mul, if_neg (nI_ge (by omega) (by omega)), show w_listRows (w_equations_s x E) = w_listRows x from rfl, hasP8 hq hn hsz k (by omega), bind_s, show nI 2 = (2 : Int32) from rfl, fin_div2 k hk20]
        by_cases e : k < n
        · rw [if_pos e, if_pos e, if_neg (show ¬ (1 : Int32) = 0 by decide), ga_ok hq (by decide), ga_ok hk20 (by decide), hv, bind_s, hc k e, ltt_e, nI_1]
        · rw [if_neg e, if_neg e, if_pos rfl, show (100 : Int32) = nI 100 from rfl, nI_add]
      have s9 : ∀ fu k v, k < 2 → (if k = 0 then m_up y1 else m_down y1) = v → qX9_judge_56 (nI q) (nI b) (qX9_judge_39 (nI q) (nI b) fu9) (fu + 1) y1 (nI z) (nI k) = if 2 * z + k < n then (if c (20 * q + (2 * z + k)) = v then qX9_judge_56 (nI q) (nI b) (qX9_judge_39 (nI q) (nI b) fu9) fu y1 (nI z) (nI (k + 1)) else some (nI z, y1)) else some (nI (100 + z), y1) := by
        intro fu k v hk hv
        rw [qX9_judge_56]
        unfold qX9_judge_114
        rw [if_neg (show ¬ (2 : Int32) ≤ nI k from nI_ge (b := 2) hk (by decide)), ga_ok hq (by decide), hl1, show (2 : Int32) * nI z = nI (2 * z) by rw [show (2 : Int32) = nI 2 from rfl, pk_mul], nI_add, show (20 : Int32) * nI q = nI (20 * q) by rw [show (20 : Int32) = nI 20 from rfl, pk_mul], nI_add, nI_add]
        by_cases e : 2 * z + k < n
        · rw [if_pos (nI_lt e (by omega)), if_pos e, ga_ok (by omega) (by decide), hi1, show 20 * q + 2 * z + k = 20 * q + (2 * z + k) by omega, ltt_e, nI_1]
          by_cases hk0 : k = 0
          · subst hk0
            rw [if_pos rfl] at hv
            rw [if_pos (show nI 0 = (0 : Int32) from rfl), hv]
          · rw [if_neg hk0] at hv
            rw [if_neg (nI_ne0 (by omega) (by omega)), hv]
        · rw [if_neg (nI_nlt (by omega) (by omega)), if_neg e, show (100 : Int32) = nI 100 from rfl, nI_add]
      have o9 : ∀ fu9, qX9_judge_39 (nI q) (nI b) (fu9 + 1) y (nI z) = qX9_judge_56 (nI q) (nI b) (qX9_judge_39 (nI q) (nI b) fu9) FU y1 (nI z) (nI 0) := by
        intro fu9
        rw [qX9_judge_39, hM.1, if_neg (nI_ge (by omega) (by omega)), k2, bind_s]
        rfl
      rw [show fu + 2 = fu + 1 + 1 from rfl, s8 (fu + 1) (2 * z) (by omega) (by omega) r0 a8, o9, show FU = 1999 + 1 from rfl, s9 1999 0 r0 (by decide) (by rw [if_pos rfl, k3]), show 2 * z + 0 = 2 * z from rfl]
      by_cases e0 : 2 * z < n
      · rw [if_pos e0, if_pos e0]
        by_cases v0 : c (20 * q + 2 * z) = r0
        · rw [if_pos v0, if_pos v0, s8 fu (2 * z + 1) (by omega) (by omega) r1 b8, show (1999 : Nat) = 1998 + 1 from rfl, Nat.zero_add, s9 1998 1 r1 (by decide) (by rw [if_neg (by decide), k4])]
          by_cases e1 : 2 * z + 1 < n
          · rw [if_pos e1, if_pos e1]
            by_cases v1 : c (20 * q + (2 * z + 1)) = r1
            · rw [if_pos v1, if_pos v1]
              obtain ⟨r, y', i1, i2, i3⟩ := ih fu fu9 (z + 1) y1 (by omega) (by omega) (by omega) hR1 hM1 hl1 hi1
              refine ⟨r, y', ?_, ?_, i3⟩
              · rw [show 2 * z + 1 + 1 = 2 * (z + 1) by omega, i1]
              · rw [show (1998 : Nat) = 1997 + 1 from rfl, qX9_judge_56, if_pos (show (2 : Int32) ≤ nI (1 + 1) by decide), ltt_e, nI_1, i2]
            · rw [if_neg v1, if_neg v1, show (2 * z + 1) / 2 = z by omega]
              exact ⟨nI z, y1, rfl, rfl, hR1⟩
          · rw [if_neg e1, if_neg e1, show (2 * z + 1) / 2 = z by omega]
            exact ⟨nI (100 + z), y1, rfl, rfl, hR1⟩
        · rw [if_neg v0, if_neg v0, show 2 * z / 2 = z by omega]
          exact ⟨nI z, y1, rfl, rfl, hR1⟩
      · rw [if_neg e0, if_neg e0, show 2 * z / 2 = z by omega]
        exact ⟨nI (100 + z), y1, rfl, rfl, hR1⟩
theorem op_judge {x : SX8} {y : SX9} (h : Rel x y) (a b : Int32) : OpI (fX8_judge x a b) (fX9_judge y a b) := by
  have n1 : ¬ (1 : Int32) = 0 := by decide
  obtain ⟨P, W, w, hV, hN, hM⟩ := h.1
  have hW := hV.2.2.1
  have hP := hV.2.1
  have hcnt : ∀ k : Int32, ¬ k = 0 → qX8_judge_23 a b x k = fX8_counted x k := fun k hk => by
    unfold qX8_judge_23
    rw [if_neg hk]
    exact bind_id (fX8_counted x k)
  unfold fX8_judge fX9_judge qX9_judge_15
  rw [isPoint8 hN.1 (by omega), bind_s, isList_eq, bind_s]
  by_cases hb : 0 ≤ b.toInt ∧ b.toInt < P
  · rw [if_pos hb, if_neg n1]
    by_cases ha : 0 ≤ a.toInt ∧ a.toInt < 3
    · rw [if_pos ha, if_neg n1, isPoint9 hM.1 (by omega), if_pos hb, bind_s, if_neg n1]
      obtain ⟨q, hq, rfl⟩ := isPt (P := 3) ha
      obtain ⟨p, hp, rfl⟩ := isPt hb
      rw [ga_ok hq (by decide)]
      rcases refOf_eq h hq with ⟨o1, o2, o3⟩ | ⟨n, hn, o1, o2, o3, o4⟩
      · rw [o1, bind_s, hcnt _ (by decide), o2, if_neg (show ¬ (0 : Int32) ≤ -1 by decide)]
        exact ⟨-11, x, y, counted_low (by decide), rfl, h⟩
      · have hone := ones_lt (show W ≤ 11 by omega)
        obtain ⟨E, q1, q2, q3⟩ := times8T hV.g hN hV.bd hone hp (w_equations x)
        obtain ⟨r, y', j1, j2, j3⟩ := judge_loop hV hN hp hq hn o2 q2 q3 (c := m_items y) o4 P FU FU 0 (at9 y (nI W) (nI (2 ^ W - 1))) (by omega) (by unfold FU; omega) (by unfold FU; omega) (at9_rel h _ _) (at9_MA hM _) o3 rfl
        refine ⟨r, w_equations_s x E, y', ?_, ?_, rel_eq j3 E⟩
        · unfold qX8_judge_23
          rw [o1, bind_s, if_pos rfl, allWays8 (by omega) hN, bind_s, fin_sh1 p (by omega), reached8 hV.g hN hone (two_lt hp), bind_s, bind_s, q1, bind_s, ltt_e, show (0 : Int32) = nI (2 * 0) from rfl]
          exact j1
        · rw [o3, if_pos (nI_pos' (by omega)), allThere9 (by omega) hM, bind_s, show (0 : Int32) = nI 0 from rfl]
          exact j2
    · rw [if_neg ha, if_pos rfl, refOf_bad ha, bind_s, hcnt _ (by decide)]
      exact opI_no h (c := -1) (by decide) rfl (bind_id _)
  · rw [if_neg hb, if_pos rfl, hcnt _ (by decide)]
    refine opI_no h (c := -1) (by decide) rfl ?_
    by_cases ha : 0 ≤ a.toInt ∧ a.toInt < 3
    · rw [if_pos ha, if_neg n1, isPoint9 hM.1 (by omega), if_neg hb, bind_s, if_pos rfl]
      exact bind_id _
    · rw [if_neg ha, if_pos rfl]
      exact bind_id _
theorem put_rel {x : SX8} {y : SX9} (h : Rel x y) {q k : Nat} (hk : k < 20) (v : Int64) : Rel (w_listRows_s x (li_rows_s (w_listRows x) (va_up (li_rows (w_listRows x)) q (vp_updL (li_rows (w_listRows x) q) k v)))) (m_items_s y (vp_updL (m_items y) (20 * q + k) v)) := by
  refine ⟨h.1, h.2.1, h.2.2.1, h.2.2.2.1, ?_, h.2.2.2.2.2⟩
  intro r hr
  rcases h.2.2.2.2.1 r hr with ⟨o1, o2⟩ | ⟨m, hm, o1, o2, o3⟩
  · exact Or.inl ⟨o1, o2⟩
  · refine Or.inr ⟨m, hm, o1, o2, fun j hj => ?_⟩
    show va_up (li_rows (w_listRows x)) q (vp_updL (li_rows (w_listRows x) q) k v) r j = vp_updL (m_items y) (20 * q + k) v (20 * r + j)
    by_cases hrq : r = q
    · subst hrq
      rw [vaup_s]
      by_cases hjk : j = k
      · subst hjk
        rw [updL_s, updL_s]
      · rw [updL_n hjk, updL_n (by omega)]
        exact o3 j hj
    · rw [vaup_n hrq, updL_n (by omega)]
      exact o3 j hj
theorem laid9 {y : SX9} {q n : Nat} (hq : q < 3) (hn : n ≤ 20) (hl : m_listMany y q = nI n) (j : Int) (hj1 : -(2 ^ 40) < j) (hj2 : j < 2 ^ 40) (v : Int64) : fX9_isLaid y (nI q) (zI j) v = if 0 ≤ j ∧ j < n then some (1, m_items_s y (vp_updL (m_items y) (20 * q + j.toNat) v)) else some (0, y) := by
  unfold fX9_isLaid
  rw [ga_ok hq (by decide), hl, isIn_eq, i32_64, sub1 (by omega), zI_t (by omega) (by omega), show (0 : Int64).toInt = 0 by decide, bind_s]
  by_cases e : 0 ≤ j ∧ j < n
  · have e20 : (20 : Int32) * nI q = nI (20 * q) := by rw [show (20 : Int32) = nI 20 from rfl, pk_mul]
    have ej : (zI j).toInt32 = nI j.toNat := by
      apply nI_of_toInt (by omega)
      rw [Int64.toInt_toInt32, zI_t (by omega) (by omega), Int.bmod_def]
      split <;> omega
    rw [if_pos (show 0 ≤ j ∧ j ≤ (n : Int) - 1 by omega), if_pos e, if_neg (show ¬ (1 : Int32) = 0 by decide), e20, ej, nI_add, ga_ok (by omega) (by decide), ltt_e]
  · rw [if_neg (show ¬ (0 ≤ j ∧ j ≤ (n : Int) - 1) by omega), if_neg e, if_pos rfl]
theorem lays_loop {x : SX8} {P W : Nat} {w : Nat → Wy} (hV : NV P W w) {b q n k0 : Nat} (hb : b < P) (hq : q < 3) (hn : n ≤ 20) (hk0 : k0 < 20) {E : SX0} (hE1 : eq_below E = zI (bD (2 ^ W - 1) w W b)) (hE2 : ∀ a, a < P → (Rch (2 ^ W - 1) w W (2 ^ b)).testBit a = true → eq_above E a = zI (tU (2 ^ W - 1) w W a b)) : ∀ (d fu fu9 z : Nat) (xs : SX8) (y : SX9), z + d = P → 2 * d < fu → d < fu9 → NE (w_net xs) P W w → w_equations xs = E → li_sizes (w_listRows xs) q = nI n → Rel xs y → MA y P W (2 ^ W - 1) w → m_listMany y q = nI n → ∃ r x' y', qX8_lays_81 (nI q) (nI b) (nI k0) fu xs (nI (Rch (2 ^ W - 1) w W (2 ^ b))) (nI (k0 + 2 * z)) (nI (2 * z)) = some (r, x') ∧ qX9_lays_40 (nI q) (nI b) (nI k0) fu9 y (nI z) = some (r, y') ∧ Rel x' y' := by
  have hW := hV.2.2.1
  have hP := hV.2.1
  intro d
  induction d with
  | zero =>
    intro fu fu9 z xs y h1 h2 h3 hN hE hsz hR hM hl
    match fu, fu9, h2, h3 with
    | fu + 1, fu9 + 1, _, _ =>
      have hz : z = P := by omega
      subst hz
      refine ⟨nI z, xs, y, ?_, ?_, hR⟩
      · rw [qX8_lays_81, hN.1, show (2 : Int32) = nI 2 from rfl, pk_mul, if_pos (nI_le (Nat.le_refl _) (by omega))]
      · rw [qX9_lays_40, hM.1, if_pos (nI_le (Nat.le_refl z) (by omega))]
  | succ d ih =>
    intro fu fu9 z xs y h1 h2 h3 hN hE hsz hR hM hl
    match fu, fu9, h2, h3 with
    | fu + 2, fu9 + 1, h2, h3 =>
      have hz : z < P := by omega
      obtain ⟨r0, r1, t8, t9⟩ := told hV hb hE1 hE2 hz
      obtain ⟨y1, k1, k2, k3, k4⟩ := t9 y hM
      have hR1 := k1.rel hR
      have hM1 := k1.ma hM
      have hl1 : m_listMany y1 q = nI n := by rw [(Kp_lm k1).1]; exact hl
      have s8 : ∀ (fu : Nat) (xs : SX8) (k : Nat) (v : Int64), k < 2 * P → NE (w_net xs) P W w → li_sizes (w_listRows xs) q = nI n → fX8_toldTime xs (nI (Rch (2 ^ W - 1) w W (2 ^ b))) (nI k) = some v → qX8_lays_81 (nI q) (nI b) (nI k0) (fu + 1) xs (nI (Rch (2 ^ W - 1) w W (2 ^ b))) (nI (k0 + k)) (nI k) = if k0 + k < n then qX8_lays_81 (nI q) (nI b) (nI k0) fu (w_listRows_s xs (li_rows_s (w_listRows xs) (va_up (li_rows (w_listRows xs)) q (vp_updL (li_rows (w_listRows xs) q) (k0 + k) v)))) (nI (Rch (2 ^ W - 1) w W (2 ^ b))) (nI (k0 + k + 1)) (nI (k + 1)) else some (-13, xs) := by
        intro fu xs k v hk hN hsz hv
        rw [qX8_lays_81, hN.1, show (2 : Int32) = nI 2 from rfl, pk_mul, if_neg (nI_ge (by omega) (by omega)), hasP8 hq hn hsz (k0 + k) (by omega), bind_s]
        by_cases e : k0 + k < n
        · rw [if_pos e, if_pos e, if_neg (show ¬ (1 : Int32) = 0 by decide), ga_ok hq (by decide), hv, bind_s, ga_ok (by omega) (by decide), ltt_e, ltt_e, ltt_e, nI_1, nI_1]
        · rw [if_neg e, if_neg e, if_pos rfl]
      obtain ⟨a8, -⟩ := t8 xs hE
      have ix0 : (nI k0).toInt64 + ((2 : Int32) * nI z).toInt64 = zI ((k0 + 2 * z : Nat) : Int) := by
        rw [show (2 : Int32) * nI z = nI (2 * z) by rw [show (2 : Int32) = nI 2 from rfl, pk_mul], zI_n (by omega), zI_n (by omega), zI_add]
        congr 1
      have ix1 : zI ((k0 + 2 * z : Nat) : Int) + (1 : Int64) = zI ((k0 + 2 * z + 1 : Nat) : Int) := by
        rw [show (1 : Int64) = zI 1 from rfl, zI_add]
        congr 1
      rw [show fu + 2 = fu + 1 + 1 from rfl, s8 (fu + 1) xs (2 * z) r0 (by omega) hN hsz a8]
      rw [qX9_lays_40, hM.1, if_neg (nI_ge (by omega) (by omega)), k2, bind_s, ix0, ix1, laid9 hq hn hl1 _ (by omega) (by omega), k3]
      by_cases e0 : k0 + 2 * z < n
      · rw [if_pos e0, if_pos (by omega), bind_s, if_neg (show ¬ (1 : Int32) = 0 by decide), show ((k0 + 2 * z : Nat) : Int).toNat = k0 + 2 * z by omega]
        have hR2 := put_rel hR1 (q := q) (k := k0 + 2 * z) (by omega) r0
        obtain ⟨xs2, hxs2⟩ : ∃ z', z' = w_listRows_s xs (li_rows_s (w_listRows xs) (va_up (li_rows (w_listRows xs)) q (vp_updL (li_rows (w_listRows xs) q) (k0 + 2 * z) r0))) := ⟨_, rfl⟩
        obtain ⟨y2, hy2⟩ : ∃ z', z' = m_items_s y1 (vp_updL (m_items y1) (20 * q + (k0 + 2 * z)) r0) := ⟨_, rfl⟩
        have hN2 : NE (w_net xs2) P W w := by rw [hxs2]; exact hN
        have hEq2 : w_equations xs2 = E := by rw [hxs2]; exact hE
        have hsz2 : li_sizes (w_listRows xs2) q = nI n := by rw [hxs2]; exact hsz
        have hM2 : MA y2 P W (2 ^ W - 1) w := by rw [hy2]; exact ⟨hM1.1, hM1.2.1, hM1.2.2.1, hM1.2.2.2⟩
        have hl2 : m_listMany y2 q = nI n := by rw [hy2]; exact hl1
        have hd2 : m_down y2 = r1 := by rw [hy2]; exact k4
        rw [← hxs2, ← hy2] at hR2
        rw [← hxs2, ← hy2]
        obtain ⟨-, b8⟩ := t8 xs2 hEq2
        rw [show k0 + 2 * z + 1 = k0 + (2 * z + 1) by omega, s8 fu xs2 (2 * z + 1) r1 (by omega) hN2 hsz2 b8, laid9 hq hn hl2 _ (by omega) (by omega), hd2]
        by_cases e1 : k0 + (2 * z + 1) < n
        · rw [if_pos e1, if_pos (by omega), bind_s, if_neg (show ¬ (1 : Int32) = 0 by decide), show ((k0 + (2 * z + 1) : Nat) : Int).toNat = k0 + (2 * z + 1) by omega, ltt_e, nI_1]
          have hR3 := put_rel hR2 (q := q) (k := k0 + (2 * z + 1)) (by omega) r1
          rw [show k0 + (2 * z + 1) + 1 = k0 + 2 * (z + 1) by omega, show 2 * z + 1 + 1 = 2 * (z + 1) by omega]
          exact ih fu fu9 (z + 1) _ _ (by omega) (by omega) (by omega) hN2 hEq2 hsz2 hR3 ⟨hM2.1, hM2.2.1, hM2.2.2.1, hM2.2.2.2⟩ hl2
        · rw [if_neg e1, if_neg (by omega), bind_s, if_pos rfl]
          exact ⟨-13, xs2, y2, rfl, rfl, hR2⟩
      · rw [if_neg e0, if_neg (by omega), bind_s, if_pos rfl]
        exact ⟨-13, xs, y1, rfl, rfl, hR1⟩
theorem op_lays {x : SX8} {y : SX9} (h : Rel x y) (a b i : Int32) : OpI (fX8_lays x a b i) (fX9_lays y a b i) := by
  have n1 : ¬ (1 : Int32) = 0 := by decide
  obtain ⟨P, W, w, hV, hN, hM⟩ := h.1
  have hW := hV.2.2.1
  have hP := hV.2.1
  have hcnt : ∀ k : Int32, ¬ k = 0 → qX8_lays_23 a b i x k = fX8_counted x k := fun k hk => by
    unfold qX8_lays_23
    rw [if_neg hk]
    exact bind_id (fX8_counted x k)
  unfold fX8_lays fX9_lays qX9_lays_15
  rw [isPoint8 hN.1 (by omega), bind_s, isList_eq, bind_s]
  by_cases hb : 0 ≤ b.toInt ∧ b.toInt < P
  · rw [if_pos hb, if_neg n1]
    by_cases ha : 0 ≤ a.toInt ∧ a.toInt < 3
    · rw [if_pos ha, if_neg n1, isPoint9 hM.1 (by omega), if_pos hb, bind_s, if_neg n1]
      obtain ⟨q, hq, rfl⟩ := isPt (P := 3) ha
      obtain ⟨p, hp, rfl⟩ := isPt hb
      rw [ga_ok hq (by decide)]
      rcases refOf_eq h hq with ⟨o1, o2, o3⟩ | ⟨n, hn, o1, o2, o3, o4⟩
      · rw [o1, bind_s, hcnt _ (by decide), o2, if_neg (show ¬ (0 : Int32) ≤ -1 by decide)]
        exact ⟨-11, x, y, counted_low (by decide), rfl, h⟩
      · have hone := ones_lt (show W ≤ 11 by omega)
        obtain ⟨E, q1, q2, q3⟩ := times8T hV.g hN hV.bd hone hp (w_equations x)
        have e8 : (fX1_refusalOf (w_listRows x) (nI q)).bind (fun o9 => qX8_lays_23 (nI q) (nI p) i x o9) = qX8_lays_81 (nI q) (nI p) i FU (w_equations_s x E) (nI (Rch (2 ^ W - 1) w W (2 ^ p))) i 0 := by
          unfold qX8_lays_23
          rw [o1, bind_s, if_pos rfl, allWays8 (by omega) hN, bind_s, fin_sh1 p (by omega), reached8 hV.g hN hone (two_lt hp), bind_s, bind_s, q1, bind_s, ltt_e]
        have e9 : (if (0 : Int32) ≤ m_listMany y q then (fX9_allThere y).bind (fun o4 => qX9_lays_40 (nI q) (nI p) i FU o4 0) else some (-11, y)) = qX9_lays_40 (nI q) (nI p) i FU (at9 y (nI W) (nI (2 ^ W - 1))) 0 := by
          rw [o3, if_pos (nI_pos' (by omega)), allThere9 (by omega) hM, bind_s]
        rw [e8, e9]
        have hRt := at9_rel h (nI W) (nI (2 ^ W - 1))
        have hMt := at9_MA hM (2 ^ W - 1)
        have hlt : m_listMany (at9 y (nI W) (nI (2 ^ W - 1))) q = nI n := o3
        generalize at9 y (nI W) (nI (2 ^ W - 1)) = y1 at *
        by_cases hi : 0 ≤ i.toInt ∧ i.toInt < 20
        · obtain ⟨k0, hk0, rfl⟩ := isPt (P := 20) hi
          obtain ⟨r, x', y', j1, j2, j3⟩ := lays_loop (x := x) hV hp hq hn hk0 q2 q3 P FU FU 0 (w_equations_s x E) y1 (by omega) (by unfold FU; omega) (by unfold FU; omega) hN rfl o2 (rel_eq hRt E) hMt hlt
          rw [show k0 + 2 * 0 = k0 from rfl, show 2 * 0 = 0 from rfl, show nI 0 = (0 : Int32) from rfl] at j1
          rw [show nI 0 = (0 : Int32) from rfl] at j2
          exact ⟨r, x', y', j1, j2, j3⟩
        · obtain ⟨r0, r1, t8, t9⟩ := told hV hp q2 q3 (show 0 < P by have := hV.1; omega)
          obtain ⟨y2, k1, k2, k3, k4⟩ := t9 y1 hMt
          have hl2 : m_listMany y2 q = nI n := by rw [(Kp_lm k1).1]; exact hlt
          have hir := i32_rng i
          refine ⟨-13, w_equations_s x E, y2, ?_, ?_, rel_eq (k1.rel hRt) E⟩
          · rw [show FU = 1999 + 1 from rfl, qX8_lays_81, show n_points (w_net (w_equations_s x E)) = nI P from hN.1, show (2 : Int32) = nI 2 from rfl, pk_mul, if_neg (show ¬ nI (2 * P) ≤ (0 : Int32) from nI_nle (by have := hV.1; omega) (by omega))]
            have hno : fX1_hasPlace (w_listRows (w_equations_s x E)) (nI q) i = some 0 := by
              unfold fX1_hasPlace
              by_cases h0 : i < 0
              · rw [if_pos h0]
              · have i0 : (0 : Int32).toInt = 0 := by decide
                have hge : nI n ≤ i := by
                  rw [i32_lt] at h0
                  rw [i32_le, nI_toInt (by omega)]
                  omega
                rw [if_neg h0, ga_ok hq (by decide), show li_sizes (w_listRows (w_equations_s x E)) q = nI n from o2, if_pos hge]
            rw [hno, bind_s, if_pos rfl]
          · have hm64 : i.toInt64 = zI i.toInt := by
              apply Int64.toInt_inj.mp
              rw [i32_64, zI_t (by omega) (by omega)]
            have ix : i.toInt64 + ((2 : Int32) * nI 0).toInt64 = zI i.toInt := by
              rw [show ((2 : Int32) * nI 0).toInt64 = zI 0 by decide, hm64, zI_add, Int.add_zero]
            rw [show FU = 1999 + 1 from rfl, show (0 : Int32) = nI 0 from rfl, qX9_lays_40, hMt.1, if_neg (nI_ge (by have := hV.1; omega) (by omega)), k2, bind_s, ix, laid9 hq hn hl2 _ (by omega) (by omega), if_neg (by omega), bind_s, if_pos rfl]
    · rw [if_neg ha, if_pos rfl, refOf_bad ha, bind_s, hcnt _ (by decide)]
      exact opI_no h (c := -1) (by decide) rfl (bind_id _)
  · rw [if_neg hb, if_pos rfl, hcnt _ (by decide)]
    refine opI_no h (c := -1) (by decide) rfl ?_
    by_cases ha : 0 ≤ a.toInt ∧ a.toInt < 3
    · rw [if_pos ha, if_neg n1, isPoint9 hM.1 (by omega), if_neg hb, bind_s, if_pos rfl]
      exact bind_id _
    · rw [if_neg ha, if_pos rfl]
      exact bind_id _
