/-! lots -/
theorem nI_gt0' {n : Nat} (h0 : 0 < n) (h : n < 2 ^ 31) : (0 : Int32) < nI n := nI_lt (a := 0) h0 h
theorem rel_z {x : SX8} {y : SX9} (h : Rel x y) (v : Int32) : Rel x (m_z_s y v) := ⟨h.1, h.2.1, h.2.2.1, h.2.2.2.1, h.2.2.2.2.1, h.2.2.2.2.2.1, h.2.2.2.2.2.2.1, h.2.2.2.2.2.2.2⟩
theorem rel_lot {x : SX8} {y : SX9} (h : Rel x y) (L : SX2) : Rel (w_lot_s x L) y := ⟨h.1, h.2.1, h.2.2.1, h.2.2.2.1, h.2.2.2.2.1, h.2.2.2.2.2.1, h.2.2.2.2.2.2.1, h.2.2.2.2.2.2.2⟩
theorem wk_b {P A : Nat} {w : Nat → Wy} (hV : GV P A w) {k p : Nat} (hk : k < A) : (if wF (w k) = p then wS (w k) else wF (w k)) < P := by
  have := hV.2.2.2 k hk
  split
  · exact this.2.1
  · exact this.1
theorem walk_loop {N : SX3} {y : SX9} {P A : Nat} {w : Nat → Wy} (hV : GV P A w) (hN : NE N P A w) (hM : MA y P A (2 ^ A - 1) w) {L : SX2} (hL : ∀ j, j < P → lo_weights L j = nI (dg (2 ^ A - 1) w j A)) {pa pc_ pd pe : Int32} {b : Nat} (hb : b < P) : ∀ (d fu i p m : Nat) (z : Int32), i + d = 60 → d < fu → p < P → p ≠ b → m ≤ 18 * i → ∃ (r z' : Int32), (r = -1 ∨ ∃ m' : Nat, m' ≤ 1080 ∧ r = nI m') ∧ qX2_walk_9 N pa (nI b) fu (lo_seed_s L z) (nI p) (nI m) (nI i) = some (r, lo_seed_s L z') ∧ ∀ (k89 : SX9 → Int32 → Int32 → Int32 → Option (Int32 × SX9)) (l6 l7 l8 : Int32), qX9_lots_104 pa (nI b) pc_ pd pe k89 fu (m_z_s y z) l6 l7 l8 (nI p) (nI m) (nI i) = k89 (m_z_s y z') (if r < 0 then l6 else l6 + 1) (if r < 0 then l7 else l7 + r) (l8 + 1) := by
  have hA := hV.2.2.1
  have hP := hV.2.1
  have n1 : ¬ (1 : Int32) = 0 := by decide
  have hone := ones_lt hA
  intro d
  induction d with
  | zero =>
    intro fu i p m z h1 h2 hp hpb hm
    match fu, h2 with
    | fu + 1, _ =>
      have hi : i = 60 := by omega
      subst hi
      refine ⟨-1, z, Or.inl rfl, ?_, fun k89 l6 l7 l8 => ?_⟩
      · unfold qX2_walk_9
        rw [if_pos (show (60 : Int32) ≤ nI 60 by decide)]
      · unfold qX9_lots_104 qX9_lots_182 qX9_lots_195 qX9_lots_212
        have hne : ¬ nI p = nI b := fun e => hpb ((nI_eq (by omega) (by omega)).mp e)
        rw [if_pos (show (60 : Int32) ≤ nI 60 by decide), if_neg hne, ltt_e, if_neg hne, ltt_e, ltt_e, if_pos (show (-1 : Int32) < 0 by decide), if_pos (show (-1 : Int32) < 0 by decide), show l6 + (0 : Int32) = l6 by simp, show l7 + (0 : Int32) = l7 by simp]
  | succ d ih =>
    intro fu i p m z h1 h2 hp hpb hm
    match fu, h2 with
    | fu + 1, h2 =>
      have hi : ¬ (60 : Int32) ≤ nI i := nI_ge (b := 60) (by omega) (by decide)
      have hne : ¬ nI p = nI b := fun e => hpb ((nI_eq (by omega) (by omega)).mp e)
      have hMz : ∀ v, MA (m_z_s y v) P A (2 ^ A - 1) w := fun v => ⟨hM.1, hM.2.1, hM.2.2.1, hM.2.2.2⟩
      have hD := dg_b (t := 2 ^ A - 1) (x := p) hV A (Nat.le_refl A)
      by_cases h0 : dg (2 ^ A - 1) w p A = 0
      · refine ⟨-1, z, Or.inl rfl, ?_, fun k89 l6 l7 l8 => ?_⟩
        · unfold qX2_walk_9
          rw [if_neg hi, ga_ok (by omega) (by decide), show lo_weights (lo_seed_s L z) p = nI (dg (2 ^ A - 1) w p A) from hL p hp, h0, if_neg (show ¬ (0 : Int32) < nI 0 by decide)]
        · unfold qX9_lots_104 qX9_lots_182 qX9_lots_195 qX9_lots_212
          rw [if_neg hi, if_neg hne, weightsAt9 hV (hMz z) hone hp, bind_s, h0, if_pos (show nI 0 ≤ (0 : Int32) by decide), if_neg hne, ltt_e, if_neg hne, ltt_e, ltt_e, if_pos (show (-1 : Int32) < 0 by decide), if_pos (show (-1 : Int32) < 0 by decide), show l6 + (0 : Int32) = l6 by simp, show l7 + (0 : Int32) = l7 by simp]
      · have hD0 : 0 < dg (2 ^ A - 1) w p A := by omega
        obtain ⟨v, hv, ev⟩ := lcg_d z hD0 (by omega)
        have hvv : v < 2 ^ 30 := by omega
        obtain ⟨k, k1, k2, q1, q2⟩ := wayBy_loop (y := m_z_s y (lcg z)) hV hN (hMz (lcg z)).2.2.2 hp hv A FU 0 (by omega) (by unfold FU; omega) (Nat.zero_le _)
        rw [show nI (dg (2 ^ A - 1) w p 0) = (0 : Int32) from rfl, show nI 0 = (0 : Int32) from rfl] at q1
        rw [show v - dg (2 ^ A - 1) w p 0 = v from Nat.sub_zero v, show nI 0 = (0 : Int32) from rfl] at q2
        have hk11 : k < 11 := by omega
        have hOk := hV.2.2.2 k k1
        have hF := hOk.1
        have hS := hOk.2.1
        have hw8 := hN.2.2 k k1
        have hw9 := hM.2.2.2 k k1
        have hmi := miw_b hOk
        obtain ⟨o, ho⟩ : ∃ o, o = (if wF (w k) = p then wS (w k) else wF (w k)) := ⟨_, rfl⟩
        have hoP : o < P := by rw [ho]; exact wk_b hV k1
        have e8 : qX2_walk_9 N pa (nI b) (fu + 1) (lo_seed_s L z) (nI p) (nI m) (nI i) = if nI o = nI b then some (nI (m + miw (w k)), lo_seed_s L (lcg z)) else qX2_walk_9 N pa (nI b) fu (lo_seed_s L (lcg z)) (nI o) (nI (m + miw (w k))) (nI (i + 1)) := by
          rw [qX2_walk_9]
          unfold fX2_draw fX2_wayBy
          rw [if_neg hi, ga_ok (by omega) (by decide), show lo_weights (lo_seed_s L z) p = nI (dg (2 ^ A - 1) w p A) from hL p hp, if_pos (nI_gt0' hD0 (by omega)), ga_ok (by omega) (by decide), show lo_weights (lo_seed_s L z) p = nI (dg (2 ^ A - 1) w p A) from hL p hp, ltt_e, ltt_e, ltt_e, if_pos (nI_gt0' hD0 (by omega)), gz, if_neg (nI_ne0 hD0 (by omega)), bind_s]
          rw [show lo_seed (lo_seed_s (lo_seed_s L z) (lo_seed (lo_seed_s L z) * 1664525 + 1013904223)) = lcg z from rfl, show lo_seed_s (lo_seed_s L z) (lo_seed (lo_seed_s L z) * 1664525 + 1013904223) = lo_seed_s L (lcg z) from rfl, ev, q1, bind_s, minutes8 hk11 hw8 hOk, bind_s, nI_add, ltt_e, other8 hk11 hw8 (by omega) (by omega), bind_s, ← ho, nI_1, ltt_e]
        have e9 : ∀ (k89 : SX9 → Int32 → Int32 → Int32 → Option (Int32 × SX9)) (l6 l7 l8 : Int32), qX9_lots_104 pa (nI b) pc_ pd pe k89 (fu + 1) (m_z_s y z) l6 l7 l8 (nI p) (nI m) (nI i) = qX9_lots_104 pa (nI b) pc_ pd pe k89 fu (m_z_s y (lcg z)) l6 l7 l8 (nI o) (nI (m + miw (w k))) (nI (i + 1)) := by
          intro k89 l6 l7 l8
          rw [qX9_lots_104]
          unfold qX9_lots_174 fX9_wayFrom fX9_draw
          rw [if_neg hi, if_neg hne, weightsAt9 hV (hMz z) hone hp, bind_s, if_neg (nI_nle hD0 (by omega)), bind_s, ltt_e, ltt_e, gz, if_neg (nI_ne0 hD0 (by omega)), bind_s]
          rw [mz_mz, show m_z (m_z_s y (m_z (m_z_s y z) * 1664525 + 1013904223)) = lcg z from rfl, show m_z_s y (m_z (m_z_s y z) * 1664525 + 1013904223) = m_z_s y (lcg z) from rfl, ev, q2, bind_s, minutes9 hk11 ((hMz (lcg z)).2.2.2 k k1) hOk, bind_s, nI_add, ltt_e, ga_ok hk11 (by decide), show m_first (m_z_s y (lcg z)) k = nI (wF (w k)) from hw9.1]
          by_cases hf : wF (w k) = p
          · rw [if_pos (by rw [hf]), ga_ok hk11 (by decide), show m_second (m_z_s y (lcg z)) k = nI (wS (w k)) from hw9.2.1, ltt_e, nI_1]
            rw [ho, if_pos hf]
          · rw [if_neg (fun e => hf ((nI_eq (by omega) (by omega)).mp e)), ga_ok hk11 (by decide), show m_first (m_z_s y (lcg z)) k = nI (wF (w k)) from hw9.1, ltt_e, nI_1]
            rw [ho, if_neg hf]
        by_cases hob : o = b
        · refine ⟨nI (m + miw (w k)), lcg z, Or.inr ⟨_, by omega, rfl⟩, ?_, fun k89 l6 l7 l8 => ?_⟩
          · rw [e8, if_pos (by rw [hob])]
          · rw [e9]
            match fu, h2 with
            | 0, h2 => omega
            | fu + 1, _ =>
              have hn0 : ¬ nI (m + miw (w k)) < 0 := nI_pos (by omega)
              unfold qX9_lots_104 qX9_lots_182 qX9_lots_195 qX9_lots_212
              rw [if_neg hn0, if_neg hn0, hob]
              by_cases h60 : (60 : Int32) ≤ nI (i + 1)
              · rw [if_pos h60, if_pos rfl, ltt_e, if_pos rfl, ltt_e, ltt_e]
              · rw [if_neg h60, if_pos rfl, if_pos rfl, ltt_e, if_pos rfl, ltt_e, ltt_e]
        · obtain ⟨r, z', hr, r1, r2⟩ := ih fu (i + 1) o (m + miw (w k)) (lcg z) (by omega) (by omega) hoP hob (by omega)
          refine ⟨r, z', hr, ?_, fun k89 l6 l7 l8 => ?_⟩
          · rw [e8, if_neg (fun e => hob ((nI_eq (by omega) (by omega)).mp e)), r1]
          · rw [e9, r2]
theorem lots_loop {x : SX8} {y : SX9} {P A : Nat} {w : Nat → Wy} (hV : GV P A w) (hN : NE (w_net x) P A w) (hM : MA y P A (2 ^ A - 1) w) {L : SX2} (hL : ∀ j, j < P → lo_weights L j = nI (dg (2 ^ A - 1) w j A)) {pd pe : Int32} {a b n : Nat} (ha : a < P) (hb : b < P) (hab : a ≠ b) (hn : n ≤ 30) : ∀ (d fu i : Nat) (l7 l8 z : Int32), i + d = n → d < fu → ∃ r z', qX8_lots_76 (nI a) (nI b) (nI n) pd pe fu (w_lot_s x (lo_seed_s L z)) l7 l8 (nI i) = some (r, w_lot_s x (lo_seed_s L z')) ∧ qX9_lots_89 (nI a) (nI b) (nI n) pd pe fu (m_z_s y z) l7 l8 (nI i) = some (r, m_z_s y z') := by
  intro d
  induction d with
  | zero =>
    intro fu i l7 l8 z h1 h2
    match fu, h2 with
    | fu + 1, _ =>
      have hi : i = n := by omega
      subst hi
      refine ⟨if pe = 0 then l7 else l8, z, ?_, ?_⟩
      · unfold qX8_lots_76
        rw [if_pos (nI_le (Nat.le_refl i) (by omega))]
        split <;> rfl
      · unfold qX9_lots_89
        rw [if_pos (nI_le (Nat.le_refl i) (by omega))]
        split <;> rfl
  | succ d ih =>
    intro fu i l7 l8 z h1 h2
    match fu, h2 with
    | fu + 1, h2 =>
      obtain ⟨r, z', hr, r1, r2⟩ := walk_loop hV hN hM hL (pa := nI a) (pc_ := nI n) (pd := pd) (pe := pe) hb 60 FU 0 a 0 z (by omega) (by unfold FU; omega) ha hab (by omega)
      rw [show nI 0 = (0 : Int32) from rfl] at r1 r2
      obtain ⟨r', z2, q1, q2⟩ := ih fu (i + 1) (if r < 0 then l7 else l7 + 1) (if r < 0 then l8 else l8 + r) z' (by omega) (by omega)
      refine ⟨r', z2, ?_, ?_⟩
      · unfold qX8_lots_76 qX8_lots_112 fX2_walk
        rw [if_neg (nI_ge (by omega) (by omega)), show w_lot (w_lot_s x (lo_seed_s L z)) = lo_seed_s L z from rfl, show w_net (w_lot_s x (lo_seed_s L z)) = w_net x from rfl, r1, bind_s, ltt_e, show w_lot_s (w_lot_s x (lo_seed_s L z)) (lo_seed_s L z') = w_lot_s x (lo_seed_s L z') from rfl]
        by_cases h0 : r < 0
        · rw [if_pos h0, if_pos h0] at q1
          rw [if_pos h0, ltt_e, nI_1, q1]
        · rw [if_neg h0, if_neg h0] at q1
          rw [if_neg h0, ltt_e, ltt_e, ltt_e, nI_1, q1]
      · unfold qX9_lots_89
        rw [if_neg (nI_ge (by omega) (by omega)), r2, nI_1, q2]
theorem op_lots {x : SX8} {y : SX9} (h : Rel x y) (a b n z c : Int32) : OpI (fX8_lots x a b n z c) (fX9_lots y a b n z c) := by
  have n1 : ¬ (1 : Int32) = 0 := by decide
  obtain ⟨P, W, w, hV, hN, hM⟩ := h.1
  have hW := hV.2.2.1
  have hP := hV.2.1
  by_cases hq : (0 ≤ a.toInt ∧ a.toInt < P) ∧ (0 ≤ b.toInt ∧ b.toInt < P) ∧ a ≠ b
  · obtain ⟨ha, hb, hab⟩ := hq
    have e8 : fX8_lots x a b n z c = qX8_lots_20 a b n z c x (if (1 : Int32) ≤ n then (if n ≤ 30 then 0 else -6) else -4) := by
      unfold fX8_lots
      rw [areTwo8 hP hN, if_pos ⟨ha, hb, hab⟩, bind_s, if_neg n1, rON, bind_s]
    rw [e8]
    unfold fX9_lots
    rw [isPoint9 hM.1 (by omega), if_pos ha, bind_s, if_neg n1, isPoint9 hM.1 (by omega), if_pos hb, bind_s, if_neg n1, if_neg hab]
    by_cases h1 : (1 : Int32) ≤ n
    · rw [if_pos h1, if_pos h1]
      by_cases h30 : n ≤ 30
      · rw [if_pos h30, if_pos h30, isPart9, bind_s]
        by_cases hc : c = 0 ∨ c = 1
        · obtain ⟨p, hp, rfl, hp2⟩ := i32_nn ha.1
          obtain ⟨q, hq, rfl, hq2⟩ := i32_nn hb.1
          have hn0 : 0 ≤ n.toInt := by rw [i32_le, i32_1] at h1; omega
          obtain ⟨m, hm, rfl, hm2⟩ := i32_nn hn0
          have hm30 : m ≤ 30 := by rw [i32_le, show (30 : Int32).toInt = 30 by decide] at h30; omega
          obtain ⟨f, g1, g2⟩ := layWeights8 hV.g hN (lo_weights (lo_seed_s (w_lot x) z))
          have hab' : p ≠ q := fun e => hab (by rw [e])
          obtain ⟨r, z', q1, q2⟩ := lots_loop (x := x) (y := at9 y (nI W) (nI (2 ^ W - 1))) (pd := z) (pe := c) hV.g hN (at9_MA hM _) (L := lo_weights_s (w_lot x) f) g2 (show p < P by omega) (show q < P by omega) hab' hm30 m FU 0 0 0 z (by omega) (by unfold FU; omega)
          rw [show nI 0 = (0 : Int32) from rfl] at q1 q2
          refine ⟨r, w_lot_s x (lo_seed_s (lo_weights_s (w_lot x) f) z'), m_z_s (at9 y (nI W) (nI (2 ^ W - 1))) z', ?_, ?_, rel_lot (rel_z (at9_rel h _ _) _) _⟩
          · have e42 : qX8_lots_20 (nI p) (nI q) (nI m) z c x 0 = qX8_lots_42 (nI p) (nI q) (nI m) z c x 0 := by
              unfold qX8_lots_20
              rw [if_pos rfl]
              rcases hc with hc | hc
              · rw [if_pos hc]
              · rw [if_neg (by rw [hc]; decide), if_pos hc]
            rw [e42]
            unfold qX8_lots_42 fX2_begin
            rw [if_pos rfl, ltt_e, g1, bind_s, ltt_e, bind_s, ltt_e, show lo_weights_s (lo_seed_s (w_lot x) z) f = lo_seed_s (lo_weights_s (w_lot x) f) z from rfl, q1]
          · rw [if_pos hc, if_neg n1, allThere9 (by omega) hM, bind_s, ltt_e, q2]
        · have hc0 : ¬ c = 0 := fun e => hc (Or.inl e)
          have hc1 : ¬ c = 1 := fun e => hc (Or.inr e)
          refine opI_no h (c := -2) (by decide) ?_ ?_
          · unfold qX8_lots_20 qX8_lots_42
            rw [if_pos rfl, if_neg hc0, if_neg hc1, if_neg (by decide)]
            exact bind_id (fX8_counted x (-2))
          · rw [if_neg hc, if_pos rfl]
            exact bind_id (fX9_no y (-2))
      · rw [if_neg h30, if_neg h30]
        refine opI_no h (c := -6) (by decide) ?_ (bind_id (fX9_no y (-6)))
        unfold qX8_lots_20 qX8_lots_42
        rw [if_neg (by decide), if_neg (by decide)]
        exact bind_id (fX8_counted x (-6))
    · rw [if_neg h1, if_neg h1]
      refine opI_no h (c := -4) (by decide) ?_ (bind_id (fX9_no y (-4)))
      unfold qX8_lots_20 qX8_lots_42
      rw [if_neg (by decide), if_neg (by decide)]
      exact bind_id (fX8_counted x (-4))
  · refine opI_no h (c := -1) (by decide) ?_ ?_
    · unfold fX8_lots qX8_lots_20 qX8_lots_42
      rw [areTwo8 hP hN, if_neg hq, bind_s, if_pos rfl, if_neg (by decide), if_neg (by decide)]
      exact bind_id (fX8_counted x (-1))
    · unfold fX9_lots qX9_lots_21
      rw [isPoint9 hM.1 (by omega), bind_s]
      by_cases ha : 0 ≤ a.toInt ∧ a.toInt < P
      · rw [if_pos ha, if_neg n1, isPoint9 hM.1 (by omega), bind_s]
        by_cases hb : 0 ≤ b.toInt ∧ b.toInt < P
        · rw [if_pos hb, if_neg n1, if_pos (Classical.byContradiction fun z => hq ⟨ha, hb, z⟩)]
          exact bind_id (fX9_no y (-1))
        · rw [if_neg hb, if_pos rfl]
          exact bind_id (fX9_no y (-1))
      · rw [if_neg ha, if_pos rfl]
        exact bind_id (fX9_no y (-1))
