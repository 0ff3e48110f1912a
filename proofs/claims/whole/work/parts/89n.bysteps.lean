/-! walks by steps: the loops -/
theorem mid_loop {N : SX3} {y : SX9} {P A : Nat} {w : Nat → Wy} (hV : GV P A w) (hN : NE N P A w) (hM : ME y P A w) (hMA : MA y P A (2 ^ A - 1) w) {L K : Nat} (a b : Nat) {F8 F9 : Nat → UInt64} {H : Nat → Int32} (hF : Ag F8 F9) (hg : ∀ j, j < 6 → Gd L 1 K (F8 j)) (hH : ∀ j, j < P → H j = nI (dg (2 ^ A - 1) w j A)) (hL : 8 ≤ L) (hL2 : L ≤ 2045) (hK : K ≤ 2045) (hz0 : zs F8 6 ≤ 2 ^ 45 * DE) : ∀ (d f8 f9 p : Nat) (G8 G9 : Nat → UInt64), p + d = P → d < f8 → d < f9 → Ag G8 G9 → (∀ j, j < 6 → Gd (L - 8) (198 * p) K (G8 j)) → (∀ j, p ≤ j → j < 6 → dg (2 ^ A - 1) w j A = 0 → G8 j = 0) → zs G8 6 ≤ zs F8 p + p * (33 * DE) → ∃ G8' G9', Ag G8' G9' ∧ (∀ j, j < 6 → Gd (L - 8) 1188 K (G8' j)) ∧ zs G8' 6 ≤ zs F8 6 + 198 * DE ∧ (∀ (pa pb l4 : Int32) (k45 : SX6 → Int32 → Option SX6), qX6_walk_78 N pa pb k45 f8 (a, b, F8, G8, H) l4 (nI p) = k45 (b, a, G8', F8, H) (l4 + 1)) ∧ ∀ (pa pb pc_ pd l5 : Int32) (k105 : SX9 → Int32 → Option (Int64 × SX9)), qX9_bySteps_138 pa pb pc_ pd k105 f9 (dn9 y F9 G9) l5 (nI p) = qX9_bySteps_288 pa pb pc_ pd k105 FU (dn9 y F9 G9') l5 0 := by
  have hA := hV.2.2.1
  have hP := hV.2.1
  have hone := ones_lt hA
  intro d
  induction d with
  | zero =>
    intro f8 f9 p G8 G9 h1 h2 h3 hG hb hz hs
    match f8, h2, f9, h3 with
    | f8 + 1, _, f9 + 1, _ =>
      have hp : p = P := by omega
      subst hp
      have hm := zs_mono (F := F8) p (6 - p)
      rw [show p + (6 - p) = 6 by omega] at hm
      have hm2 : p * (33 * DE) ≤ 6 * (33 * DE) := Nat.mul_le_mul_right _ hP
      refine ⟨G8, G9, hG, fun j hj => Gd_mono (hb j hj) (Nat.le_refl _) (Nat.mul_le_mul_right _ (by omega)), by omega, fun pa pb l4 k45 => ?_, fun pa pb pc_ pd l5 k105 => ?_⟩
      · rw [qX6_walk_78]
        rw [hN.1, if_pos (nI_le (Nat.le_refl p) (by omega)), ltt_e, ltt_e]
      · rw [qX9_bySteps_138]
        rw [dn9_p, hM.1, if_pos (nI_le (Nat.le_refl p) (by omega))]
  | succ d ih =>
    intro f8 f9 p G8 G9 h1 h2 h3 hG hb hz hs
    match f8, h2, f9, h3 with
    | f8 + 1, h2, f9 + 1, h3 =>
      have hp : p < P := by omega
      have hb9 := weightsAt9 hV (dn9_MA hMA F9 G9) hone hp
      have hdb := dg_b hV (t := 2 ^ A - 1) (x := p) A (Nat.le_refl A)
      have hm := zs_mono (F := F8) p (6 - p)
      rw [show p + (6 - p) = 6 by omega] at hm
      have hm2 : p * (33 * DE) ≤ 6 * (33 * DE) := Nat.mul_le_mul_right _ (by omega)
      have hm3 := zs_le (F := F8) 6 (show p < 6 by omega)
      have key : ∃ G8a G9a, Ag G8a G9a ∧ (∀ j, j < 6 → Gd (L - 8) (198 * (p + 1)) K (G8a j)) ∧ zs G8a 6 ≤ zs G8 6 + zm (F8 p) + 33 * DE ∧ (∀ j, j ≠ p → dg (2 ^ A - 1) w j A = 0 → G8a j = G8 j) ∧ fX6_goOnFrom (a, b, F8, G8, H) N (nI p) = some (a, b, F8, G8a, H) ∧ ∀ (pa pb pc_ pd l5 : Int32) (k105 : SX9 → Int32 → Option (Int64 × SX9)), qX9_bySteps_138 pa pb pc_ pd k105 (f9 + 1) (dn9 y F9 G9) l5 (nI p) = qX9_bySteps_138 pa pb pc_ pd k105 f9 (dn9 y F9 G9a) l5 (nI (p + 1)) := by
        by_cases h0 : dg (2 ^ A - 1) w p A = 0
        · have e0 : G8 p = 0 := hz p (Nat.le_refl p) (by omega) h0
          have gF := hg p (by omega)
          have eF := hF p (by omega)
          have uz := zs_u (F := G8) (F8 p) 6 (show p < 6 by omega)
          refine ⟨vf_upd G8 p (F8 p), vf_upd G9 p (F8 p), Ag_u hG _ _, fun j hj => ?_, by omega, fun j hj _ => vu_n hj, ?_, fun pa pb pc_ pd l5 k105 => ?_⟩
          · by_cases e : j = p
            · rw [e, vu_s]
              exact Gd_mono gF (by omega) (Nat.mul_le_mul_right _ (by omega))
            · rw [vu_n e]
              exact Gd_mono (hb j hj) (Nat.le_refl _) (Nat.mul_le_mul_right _ (by omega))
          · unfold fX6_goOnFrom
            rw [ga_ok (by omega) (by decide), show sp_weights (a, b, F8, G8, H) p = H p from rfl, hH p hp, h0, if_neg (show ¬ (0 : Int32) < nI 0 by decide), ga_ok (by omega) (by decide), ga_ok (by omega) (by decide), show sp_then (a, b, F8, G8, H) p = G8 p from rfl, show sp_now (a, b, F8, G8, H) p = F8 p from rfl, e0, add_0 gF, gn_ok gF.1, ltt_e, ga_ok (by omega) (by decide), ltt_e]
          · rw [qX9_bySteps_138]
            rw [dn9_p, hM.1, if_neg (nI_ge (by omega) (by omega)), hb9, bind_s, h0, if_pos (show nI 0 = (0 : Int32) from rfl), ga_ok (by omega) (by decide), ltt_e, ga_ok (by omega) (by decide), ltt_e, dn9_then, dn9_n, dn9_t, ← eF]
            unfold qX9_bySteps_174
            have q := go9_skip hV hM hp h0 F9 (vf_upd G9 p (F8 p)) pa pb pc_ pd l5 (nI 0) (qX9_bySteps_138 pa pb pc_ pd k105 f9) A FU 0 (by omega) (by unfold FU; omega)
            rw [show nI 0 = (0 : Int32) from rfl] at q
            rw [show nI 0 = (0 : Int32) from rfl, q]
        · obtain ⟨t, ht⟩ : ∃ t, t = dg (2 ^ A - 1) w p A := ⟨_, rfl⟩
          have ht0 : 0 < t := by omega
          obtain ⟨G8a, G9a, g1, g2, g2z, g3, g4, g5⟩ := go_loop (n := 198 * p) (H := H) (B := zs G8 6) hV hN hM hp ht ht0 a b (hF p (by omega)) (hg p (by omega)) (by rw [hH p hp, ← ht]) hL hL2 hK (by omega) (by omega) (by omega) A FU FU 0 G8 G9 (by omega) (by unfold FU; omega) (by unfold FU; omega) hG hb (by rw [Nat.zero_mul, Nat.add_zero]; exact Nat.le_add_right _ _)
          rw [show nI 0 = (0 : Int32) from rfl] at g4 g5
          refine ⟨G8a, G9a, g1, fun j hj => Gd_mono (g2 j hj) (Nat.le_refl _) (Nat.mul_le_mul_right _ (by omega)), g2z, fun j _ hj => g3 j hj, ?_, fun pa pb pc_ pd l5 k105 => ?_⟩
          · unfold fX6_goOnFrom
            rw [ga_ok (by omega) (by decide), show sp_weights (a, b, F8, G8, H) p = H p from rfl, hH p hp, ← ht, if_pos (nI_gt0' ht0 (by omega)), g4]
          · rw [qX9_bySteps_138]
            rw [dn9_p, hM.1, if_neg (nI_ge (by omega) (by omega)), hb9, bind_s, ← ht, if_neg (nI_ne0 ht0 (by omega))]
            unfold qX9_bySteps_174
            rw [g5]
      obtain ⟨G8a, G9a, k1, k2, k2z, k3, k4, k5⟩ := key
      obtain ⟨G8', G9', g1, g2, g2z, g3, g4⟩ := ih f8 f9 (p + 1) G8a G9a (by omega) (by omega) (by omega) k1 k2 (fun j hj hj6 h0 => by
        rw [k3 j (by omega) h0]
        exact hz j (by omega) hj6 h0) (by
        rw [show zs F8 (p + 1) = zs F8 p + zm (F8 p) from rfl, Nat.add_mul, Nat.one_mul]
        omega)
      refine ⟨G8', G9', g1, g2, g2z, fun pa pb l4 k45 => ?_, fun pa pb pc_ pd l5 k105 => ?_⟩
      · rw [qX6_walk_78]
        rw [hN.1, if_neg (nI_ge (by omega) (by omega)), k4, bind_s, nI_1, ltt_e, g3]
      · rw [k5, g4]
theorem copy9_loop {y : SX9} (G : Nat → UInt64) : ∀ (d fu i : Nat) (F : Nat → UInt64), i + d = 6 → d < fu → (∀ j, j < i → F j = G j) → ∃ F', (∀ j, j < 6 → F' j = G j) ∧ ∀ (pa pb pc_ pd l5 : Int32) (k105 : SX9 → Int32 → Option (Int64 × SX9)), qX9_bySteps_288 pa pb pc_ pd k105 fu (dn9 y F G) l5 (nI i) = k105 (dn9 y F' G) (l5 + 1) := by
  intro d
  induction d with
  | zero =>
    intro fu i F h1 h2 hF
    match fu, h2 with
    | fu + 1, _ =>
      have hi : i = 6 := by omega
      subst hi
      refine ⟨F, hF, fun pa pb pc_ pd l5 k105 => ?_⟩
      rw [qX9_bySteps_288]
      rw [if_pos (show (6 : Int32) ≤ nI 6 by decide), ltt_e]
  | succ d ih =>
    intro fu i F h1 h2 hF
    match fu, h2 with
    | fu + 1, h2 =>
      obtain ⟨F', q1, q2⟩ := ih fu (i + 1) (vf_upd F i (G i)) (by omega) (by omega) (fun j hj => by
        by_cases e : j = i
        · rw [e, vu_s]
        · rw [vu_n e]
          exact hF j (by omega))
      refine ⟨F', q1, fun pa pb pc_ pd l5 k105 => ?_⟩
      rw [qX9_bySteps_288]
      rw [if_neg (show ¬ (6 : Int32) ≤ nI i from nI_ge (b := 6) (by omega) (by decide)), ga_ok (by omega) (by decide), dn9_t, ltt_e, ga_ok (by omega) (by decide), dn9_n, dn9_now, ltt_e, nI_1, ltt_e, q2]
theorem zero8_loop {N : SX3} (a b : Nat) (F : Nat → UInt64) (H : Nat → Int32) : ∀ (d fu i : Nat) (G : Nat → UInt64), i + d = 6 → d < fu → (∀ j, j < i → G j = 0) → ∃ G', (∀ j, j < 6 → G' j = 0) ∧ ∀ (pa pb l4 : Int32) (k45 : SX6 → Int32 → Option SX6), qX6_walk_54 N pa pb k45 fu (a, b, F, G, H) l4 (nI i) = qX6_walk_78 N pa pb k45 FU (a, b, F, G', H) l4 0 := by
  intro d
  induction d with
  | zero =>
    intro fu i G h1 h2 hG
    match fu, h2 with
    | fu + 1, _ =>
      have hi : i = 6 := by omega
      subst hi
      refine ⟨G, hG, fun pa pb l4 k45 => ?_⟩
      rw [qX6_walk_54]
      rw [if_pos (show (6 : Int32) ≤ nI 6 by decide)]
  | succ d ih =>
    intro fu i G h1 h2 hG
    match fu, h2 with
    | fu + 1, h2 =>
      obtain ⟨G', q1, q2⟩ := ih fu (i + 1) (vf_upd G i 0) (by omega) (by omega) (fun j hj => by
        by_cases e : j = i
        · rw [e, vu_s]
        · rw [vu_n e]
          exact hG j (by omega))
      refine ⟨G', q1, fun pa pb l4 k45 => ?_⟩
      rw [qX6_walk_54]
      rw [if_neg (show ¬ (6 : Int32) ≤ nI i from nI_ge (b := 6) (by omega) (by decide)), ga_ok (by omega) (by decide), ltt_e, nI_1, ltt_e, q2]
theorem zero9_loop {y : SX9} (F : Nat → UInt64) : ∀ (d fu i : Nat) (G : Nat → UInt64), i + d = 6 → d < fu → (∀ j, j < i → G j = 0) → ∃ G', (∀ j, j < 6 → G' j = 0) ∧ ∀ (pa pb pc_ pd l5 : Int32) (k105 : SX9 → Int32 → Option (Int64 × SX9)), qX9_bySteps_114 pa pb pc_ pd k105 fu (dn9 y F G) l5 (nI i) = qX9_bySteps_138 pa pb pc_ pd k105 FU (dn9 y F G') l5 0 := by
  intro d
  induction d with
  | zero =>
    intro fu i G h1 h2 hG
    match fu, h2 with
    | fu + 1, _ =>
      have hi : i = 6 := by omega
      subst hi
      refine ⟨G, hG, fun pa pb pc_ pd l5 k105 => ?_⟩
      rw [qX9_bySteps_114]
      rw [if_pos (show (6 : Int32) ≤ nI 6 by decide)]
  | succ d ih =>
    intro fu i G h1 h2 hG
    match fu, h2 with
    | fu + 1, h2 =>
      obtain ⟨G', q1, q2⟩ := ih fu (i + 1) (vf_upd G i 0) (by omega) (by omega) (fun j hj => by
        by_cases e : j = i
        · rw [e, vu_s]
        · rw [vu_n e]
          exact hG j (by omega))
      refine ⟨G', q1, fun pa pb pc_ pd l5 k105 => ?_⟩
      rw [qX9_bySteps_114]
      rw [if_neg (show ¬ (6 : Int32) ≤ nI i from nI_ge (b := 6) (by omega) (by decide)), ga_ok (by omega) (by decide), dn9_t, dn9_then, ltt_e, nI_1, ltt_e, q2]
theorem one_step {N : SX3} {y : SX9} {P A : Nat} {w : Nat → Wy} (hV : GV P A w) (hN : NE N P A w) (hM : ME y P A w) (hMA : MA y P A (2 ^ A - 1) w) {L K : Nat} (a b : Nat) {F8 F9 : Nat → UInt64} {H : Nat → Int32} (hF : Ag F8 F9) (hg : ∀ j, j < 6 → Gd L 1 K (F8 j)) (hH : ∀ j, j < P → H j = nI (dg (2 ^ A - 1) w j A)) (hL : 8 ≤ L) (hL2 : L ≤ 2045) (hK : K ≤ 2045) (hz0 : zs F8 6 ≤ 2 ^ 45 * DE) (G8 G9 : Nat → UInt64) : ∃ F8' F9' G8' G9', Ag F8' F9' ∧ (∀ j, j < 6 → Gd (L - 8) 1 (K + 11) (F8' j)) ∧ zs F8' 6 ≤ zs F8 6 + 198 * DE ∧ (∀ (pa pb l4 : Int32) (k45 : SX6 → Int32 → Option SX6), qX6_walk_54 N pa pb k45 FU (a, b, F8, G8, H) l4 0 = k45 (b, a, F8', G8', H) (l4 + 1)) ∧ ∀ (pa pb pc_ pd l5 : Int32) (k105 : SX9 → Int32 → Option (Int64 × SX9)), qX9_bySteps_114 pa pb pc_ pd k105 FU (dn9 y F9 G9) l5 0 = k105 (dn9 y F9' G9') (l5 + 1) := by
  have hP := hV.2.1
  obtain ⟨Z8, z1, z2⟩ := zero8_loop (N := N) a b F8 H 6 FU 0 G8 (by omega) (by unfold FU; omega) (fun j hj => by omega)
  obtain ⟨Z9, y1, y2⟩ := zero9_loop (y := y) F9 6 FU 0 G9 (by omega) (by unfold FU; omega) (fun j hj => by omega)
  obtain ⟨G8', G9', g1, g2, g2z, g3, g4⟩ := mid_loop hV hN hM hMA a b hF hg hH hL hL2 hK hz0 P FU FU 0 Z8 Z9 (by omega) (by unfold FU; omega) (by unfold FU; omega) (fun j hj => by rw [z1 j hj, y1 j hj]) (fun j hj => by rw [z1 j hj]; exact Gd_0 _ _ _) (fun j _ hj _ => z1 j hj) (by rw [zs_0 6 z1]; exact Nat.zero_le _)
  obtain ⟨F', c1, c2⟩ := copy9_loop (y := y) G9' 6 FU 0 F9 (by omega) (by unfold FU; omega) (fun j hj => by omega)
  rw [show nI 0 = (0 : Int32) from rfl] at z2 y2 g3 g4 c2
  refine ⟨G8', F', F8, G9', fun j hj => by rw [g1 j hj, c1 j hj], fun j hj => Gd_mono (g2 j hj) (Nat.le_refl _) ?_, g2z, fun pa pb l4 k45 => ?_, fun pa pb pc_ pd l5 k105 => ?_⟩
  · rw [Nat.one_mul, ← p2 (show 11 + K = K + 11 by omega)]
    exact Nat.mul_le_mul_right _ (by decide)
  · rw [z2, g3]
  · rw [y2, g4, c2]
def fin9 (pb pd : Int32) (xs : SX9) : Option (Int64 × SX9) :=
  (if pd = (0 : Int32) then
  ga 6 pb fun j2 =>
  (fJxe99ae_doubleToLongBits_ccdee ((m_now xs) j2)).bind fun o6 =>
  some (o6, xs)
  else
  ga 6 pb fun j1 =>
  gn (FP.dmul ((m_now xs) j1) (4696837146684686336 : UInt64)) <|
  some (((FP.d2i (FP.dmul ((m_now xs) j1) (4696837146684686336 : UInt64))).toInt64), xs))
theorem out_loop {N : SX3} {y : SX9} {P A : Nat} {w : Nat → Wy} (hV : GV P A w) (hN : NE N P A w) (hM : ME y P A w) (hMA : MA y P A (2 ^ A - 1) w) {H : Nat → Int32} (hH : ∀ j, j < P → H j = nI (dg (2 ^ A - 1) w j A)) {n : Nat} (hn : n ≤ 30) (pa pb pd : Int32) : ∀ (d f8 f9 l a b : Nat) (F8 F9 G8 G9 : Nat → UInt64), l + d = n → d < f8 → d < f9 → Ag F8 F9 → (∀ j, j < 6 → Gd (1074 - 8 * l) 1 (1074 + 11 * l) (F8 j)) → zs F8 6 ≤ 2 ^ 44 * DE + l * (198 * DE) → ∃ a' b' F8' F9' G8' G9', Ag F8' F9' ∧ (∀ j, j < 6 → Gd (1074 - 8 * n) 1 (1074 + 11 * n) (F8' j)) ∧ zs F8' 6 ≤ 2 ^ 44 * DE + n * (198 * DE) ∧ qX6_walk_45 N pa (nI n) f8 (a, b, F8, G8, H) (nI l) = some (a', b', F8', G8', H) ∧ qX9_bySteps_105 pa pb (nI n) pd f9 (dn9 y F9 G9) (nI l) = fin9 pb pd (dn9 y F9' G9') := by
  intro d
  induction d with
  | zero =>
    intro f8 f9 l a b F8 F9 G8 G9 h1 h2 h3 hF hg hz
    match f8, h2, f9, h3 with
    | f8 + 1, _, f9 + 1, _ =>
      have hl : l = n := by omega
      subst hl
      refine ⟨a, b, F8, F9, G8, G9, hF, hg, hz, ?_, ?_⟩
      · rw [qX6_walk_45]
        rw [if_pos (nI_le (Nat.le_refl l) (by omega))]
      · rw [qX9_bySteps_105]
        rw [if_pos (nI_le (Nat.le_refl l) (by omega))]
        unfold fin9
        rfl
  | succ d ih =>
    intro f8 f9 l a b F8 F9 G8 G9 h1 h2 h3 hF hg hz
    match f8, h2, f9, h3 with
    | f8 + 1, h2, f9 + 1, h3 =>
      have hl30 : l * (198 * DE) ≤ 30 * (198 * DE) := Nat.mul_le_mul_right _ (by omega)
      obtain ⟨F8a, F9a, G8a, G9a, s1, s2, s2z, s3, s4⟩ := one_step hV hN hM hMA a b hF hg hH (by omega) (by omega) (by omega) (by omega) G8 G9
      obtain ⟨a', b', F8', F9', G8', G9', g1, g2, g2z, g3, g4⟩ := ih f8 f9 (l + 1) b a F8a F9a G8a G9a (by omega) (by omega) (by omega) s1 (fun j hj => by
        rw [show 1074 - 8 * (l + 1) = 1074 - 8 * l - 8 by omega, show 1074 + 11 * (l + 1) = 1074 + 11 * l + 11 by omega]
        exact s2 j hj) (by
        rw [Nat.add_mul, Nat.one_mul]
        omega)
      refine ⟨a', b', F8', F9', G8', G9', g1, g2, g2z, ?_, ?_⟩
      · rw [qX6_walk_45]
        rw [if_neg (nI_ge (by omega) (by omega)), s3, nI_1, g3]
      · rw [qX9_bySteps_105]
        rw [if_neg (nI_ge (by omega) (by omega)), s4, nI_1, g4]
def st1 (p j : Nat) : UInt64 := if j = p then 4607182418800017408 else 0
theorem st1_Gd (p j : Nat) : Gd 1074 1 1074 (st1 p j) := by
  unfold st1
  split
  · have e : zm (4607182418800017408 : UInt64) = 2 ^ 1074 := by
      rw [one6, D6_z (by decide) (by decide) (by decide), Nat.add_zero]
      exact p2 (by omega)
    refine ⟨N_one, ?_, Or.inr ?_⟩
    · rw [e, Nat.one_mul]
      exact Nat.le_refl _
    · rw [e]
      exact Nat.le_refl _
  · exact Gd_0 _ _ _
theorem st1_z (p : Nat) : ∀ n, zs (st1 p) n = if p < n then 2 ^ 44 * DE else 0
  | 0 => rfl
  | n + 1 => by
    rw [zs, st1_z p n]
    by_cases e : n = p
    · have e1 : zm (st1 p n) = 2 ^ 44 * DE := by
        unfold st1
        rw [if_pos e, one6, D6_z (by decide) (by decide) (by decide), Nat.add_zero, DE_44]
        exact p2 (by omega)
      rw [e1, if_neg (by omega), if_pos (by omega), Nat.zero_add]
    · have e1 : zm (st1 p n) = 0 := by
        unfold st1
        rw [if_neg e, zm_0]
      rw [e1, Nat.add_zero]
      by_cases h : p < n
      · rw [if_pos h, if_pos (by omega)]
      · rw [if_neg h, if_neg (by omega)]
theorem init8_loop {N : SX3} {p : Nat} (hp : p < 6) (pb : Int32) (a b : Nat) (G : Nat → UInt64) (H : Nat → Int32) : ∀ (d fu i : Nat) (F : Nat → UInt64), i + d = 6 → d < fu → (∀ j, j < i → F j = st1 p j) → ∃ F', (∀ j, j < 6 → F' j = st1 p j) ∧ qX6_walk_11 N (nI p) pb fu (a, b, F, G, H) (nI i) = qX6_walk_45 N (nI p) pb FU (a, b, F', G, H) 0 := by
  intro d
  induction d with
  | zero =>
    intro fu i F h1 h2 hF
    match fu, h2 with
    | fu + 1, _ =>
      have hi : i = 6 := by omega
      subst hi
      refine ⟨F, hF, ?_⟩
      rw [qX6_walk_11]
      rw [if_pos (show (6 : Int32) ≤ nI 6 by decide)]
  | succ d ih =>
    intro fu i F h1 h2 hF
    match fu, h2 with
    | fu + 1, h2 =>
      obtain ⟨F', q1, q2⟩ := ih fu (i + 1) (vf_upd F i (st1 p i)) (by omega) (by omega) (fun j hj => by
        by_cases e : j = i
        · rw [e, vu_s]
        · rw [vu_n e]
          exact hF j (by omega))
      refine ⟨F', q1, ?_⟩
      have e35 : ∀ v, qX6_walk_35 N (nI p) pb (qX6_walk_11 N (nI p) pb fu) (a, b, F, G, H) (nI i) (nI i) v = qX6_walk_11 N (nI p) pb fu (a, b, vf_upd F i v, G, H) (nI (i + 1)) := by
        intro v
        unfold qX6_walk_35
        rw [ga_ok (by omega) (by decide), ltt_e, nI_1, ltt_e]
      rw [qX6_walk_11]
      rw [if_neg (show ¬ (6 : Int32) ≤ nI i from nI_ge (b := 6) (by omega) (by decide)), e35, e35]
      by_cases e : i = p
      · rw [if_pos (by rw [e])]
        rw [show st1 p i = 4607182418800017408 by unfold st1; rw [if_pos e]] at q2
        rw [q2]
      · rw [if_neg (fun z => e ((nI_eq (by omega) (by omega)).mp z))]
        rw [show st1 p i = 0 by unfold st1; rw [if_neg e]] at q2
        rw [q2]
theorem init9_loop {y : SX9} {p : Nat} (hp : p < 6) (pb pc_ pd : Int32) (G : Nat → UInt64) : ∀ (d fu i : Nat) (F : Nat → UInt64), i + d = 6 → d < fu → (∀ j, j < i → F j = st1 p j) → ∃ F', (∀ j, j < 6 → F' j = st1 p j) ∧ qX9_bySteps_71 (nI p) pb pc_ pd fu (dn9 y F G) (nI i) = qX9_bySteps_105 (nI p) pb pc_ pd FU (dn9 y F' G) 0 := by
  intro d
  induction d with
  | zero =>
    intro fu i F h1 h2 hF
    match fu, h2 with
    | fu + 1, _ =>
      have hi : i = 6 := by omega
      subst hi
      refine ⟨F, hF, ?_⟩
      rw [qX9_bySteps_71]
      rw [if_pos (show (6 : Int32) ≤ nI 6 by decide)]
  | succ d ih =>
    intro fu i F h1 h2 hF
    match fu, h2 with
    | fu + 1, h2 =>
      obtain ⟨F', q1, q2⟩ := ih fu (i + 1) (vf_upd F i (st1 p i)) (by omega) (by omega) (fun j hj => by
        by_cases e : j = i
        · rw [e, vu_s]
        · rw [vu_n e]
          exact hF j (by omega))
      refine ⟨F', q1, ?_⟩
      have e95 : ∀ v, qX9_bySteps_95 (nI p) pb pc_ pd (qX9_bySteps_71 (nI p) pb pc_ pd fu) (dn9 y F G) (nI i) (nI i) v = qX9_bySteps_71 (nI p) pb pc_ pd fu (dn9 y (vf_upd F i v) G) (nI (i + 1)) := by
        intro v
        unfold qX9_bySteps_95
        rw [ga_ok (by omega) (by decide), dn9_n, dn9_now, ltt_e, nI_1, ltt_e]
      rw [qX9_bySteps_71]
      rw [if_neg (show ¬ (6 : Int32) ≤ nI i from nI_ge (b := 6) (by omega) (by decide)), e95, e95]
      by_cases e : i = p
      · rw [if_pos (by rw [e])]
        rw [show st1 p i = 4607182418800017408 by unfold st1; rw [if_pos e]] at q2
        rw [q2]
      · rw [if_neg (fun z => e ((nI_eq (by omega) (by omega)).mp z))]
        rw [show st1 p i = 0 by unfold st1; rw [if_neg e]] at q2
        rw [q2]
theorem walk_both {N : SX3} {y : SX9} {P A : Nat} {w : Nat → Wy} (hV : GV P A w) (hN : NE N P A w) (hM : ME y P A w) (hMA : MA y P A (2 ^ A - 1) w) {n p : Nat} (hn : n ≤ 30) (hp : p < P) (S : SX6) (pb pd : Int32) : ∃ a' b' F8' F9' G8' G9' H, Ag F8' F9' ∧ (∀ j, j < 6 → Gd (1074 - 8 * n) 1 (1074 + 11 * n) (F8' j)) ∧ zs F8' 6 ≤ 2 ^ 44 * DE + n * (198 * DE) ∧ fX6_walk S N (nI p) (nI n) = some (a', b', F8', G8', H) ∧ qX9_bySteps_71 (nI p) pb (nI n) pd FU y 0 = fin9 pb pd (dn9 y F9' G9') := by
  have hP := hV.2.1
  obtain ⟨a, b, F, G, H0⟩ := S
  obtain ⟨H, g1, g2⟩ := layWeights8 hV hN H0
  obtain ⟨F8, i1, i2⟩ := init8_loop (N := N) (show p < 6 by omega) (nI n) a b G H 6 FU 0 F (by omega) (by unfold FU; omega) (fun j hj => by omega)
  obtain ⟨F9, j1, j2⟩ := init9_loop (y := y) (show p < 6 by omega) pb (nI n) pd (m_then y) 6 FU 0 (m_now y) (by omega) (by unfold FU; omega) (fun j hj => by omega)
  obtain ⟨a', b', F8', F9', G8', G9', o1, o2, o2z, o3, o4⟩ := out_loop hV hN hM hMA g2 hn (nI p) pb pd n FU FU 0 a b F8 F9 G (m_then y) (by omega) (by unfold FU; omega) (by unfold FU; omega) (fun j hj => by rw [i1 j hj, j1 j hj]) (fun j hj => by rw [i1 j hj]; exact st1_Gd p j) (by rw [zs_cg 6 i1, st1_z p 6, if_pos (by omega)]; exact Nat.le_add_right _ _)
  rw [show nI 0 = (0 : Int32) from rfl] at i2 j2 o3 o4
  refine ⟨a', b', F8', F9', G8', G9', H, o1, o2, o2z, ?_, ?_⟩
  · unfold fX6_walk
    rw [show sp_weights (a, b, F, G, H0) = H0 from rfl, g1, bind_s, show sp_weights_s (a, b, F, G, H0) H = (a, b, F, G, H) from rfl, ltt_e, i2, o3]
  · rw [← dn9_id y] at j2
    rw [j2, o4]
