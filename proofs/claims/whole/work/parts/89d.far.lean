/-! farthest, middle -/
theorem fin_5 : ∀ a, a < 365 → (364 - a) * (364 - a) * (364 - a) * (364 - a) * a < 549755813888 := by decide +kernel
theorem D_31 {n q : Nat} {M : Nat → Nat → Int} (h : GL n M) (hn : n ≤ 5) (hq : sm n (fun i => M i i) ≤ (q : Int)) (hq1 : 1 ≤ q) (hq2 : q ≤ 364) : 0 < dt n M ∧ dt n M < 2147483648 := by
  have hd := (Iv_all h n (Nat.le_refl n)).1
  refine ⟨hd, ?_⟩
  have q1 : (q : Int) ≤ 364 := by omega
  have q0 : (0 : Int) ≤ q := by omega
  have s2 : (q : Int) * q ≤ 364 * 364 := mm q1 q1 q0 (by decide)
  have s2n := Int.mul_nonneg q0 q0
  have s3 : (q : Int) * q * q ≤ 364 * 364 * 364 := mm s2 q1 q0 (by decide)
  have s3n := Int.mul_nonneg s2n q0
  have s4 : (q : Int) * q * q * q ≤ 364 * 364 * 364 * 364 := mm s3 q1 q0 (by decide)
  by_cases h3 : n ≤ 3
  · have := (d_bnd h hq hq1 (Nat.le_refl n)).1 h3
    omega
  · by_cases h4 : n = 4
    · have := (d_bnd h hq hq1 (Nat.le_refl n)).2 h4
      omega
    · have h5 : n = 5 := by omega
      subst h5
      have hdg : ∀ i, i < 5 → 0 ≤ M i i := fun i hi => gl_diag h hi
      have b1 : dt 1 M ≤ M 0 0 := by
        have h' : dt 1 M ≤ dt 0 M * M 0 0 := D_le h (by decide)
        rw [show dt 0 M = 1 from rfl, Int.one_mul] at h'
        exact h'
      have b2 : dt 2 M ≤ M 0 0 * M 1 1 := Int.le_trans (D_le h (by decide)) (mm b1 (Int.le_refl _) (hdg 1 (by decide)) (hdg 0 (by decide)))
      have b3 : dt 3 M ≤ M 0 0 * M 1 1 * M 2 2 := Int.le_trans (D_le h (by decide)) (mm b2 (Int.le_refl _) (hdg 2 (by decide)) (Int.mul_nonneg (hdg 0 (by decide)) (hdg 1 (by decide))))
      have b4 : dt 4 M ≤ M 0 0 * M 1 1 * M 2 2 * M 3 3 := Int.le_trans (D_le h (by decide)) (mm b3 (Int.le_refl _) (hdg 3 (by decide)) (Int.mul_nonneg (Int.mul_nonneg (hdg 0 (by decide)) (hdg 1 (by decide))) (hdg 2 (by decide))))
      have b5 : dt 5 M ≤ dt 4 M * M 4 4 := D_le h (by decide)
      have d4 := (Iv_all h 4 (by decide)).1
      have hsum : M 0 0 + M 1 1 + M 2 2 + M 3 3 + M 4 4 ≤ 364 := by
        have e : sm 5 (fun i => M i i) = M 0 0 + M 1 1 + M 2 2 + M 3 3 + M 4 4 := by
          rw [sm_s, sm_s, sm_s, sm_s, sm_s, sm_0]; omega
        omega
      obtain ⟨a, ha⟩ : ∃ a : Nat, M 4 4 = (a : Int) := ⟨(M 4 4).toNat, by have := hdg 4 (by decide); omega⟩
      have ha4 : a ≤ 364 := by
        have := hdg 0 (by decide); have := hdg 1 (by decide); have := hdg 2 (by decide); have := hdg 3 (by decide)
        omega
      have f5 := fin_5 a (by omega)
      obtain ⟨c, hc⟩ : ∃ c, c = 364 - a := ⟨_, rfl⟩
      rw [← hc] at f5
      have hs4 : M 0 0 + M 1 1 + M 2 2 + M 3 3 ≤ (c : Int) := by omega
      have am := am4 (hdg 0 (by decide)) (hdg 1 (by decide)) (hdg 2 (by decide)) (hdg 3 (by decide)) hs4
      have f5' : (c : Int) * (c : Int) * (c : Int) * (c : Int) * (a : Int) < 549755813888 := by
        have z := Int.ofNat_lt.mpr f5
        rw [Int.natCast_mul, Int.natCast_mul, Int.natCast_mul, Int.natCast_mul] at z
        exact z
      have u := mm (show 256 * dt 4 M ≤ (c : Int) * (c : Int) * (c : Int) * (c : Int) by omega) (Int.le_refl (a : Int)) (by omega) (by omega)
      rw [ha] at b5
      have e : 256 * dt 4 M * (a : Int) = 256 * (dt 4 M * (a : Int)) := by grind
      omega
theorem bD_31 {P A t b : Nat} {w : Nat → Wy} (hV : GV P A w) (hB : Bd A w) (hb : b < P) : 0 < bD t w A b ∧ bD t w A b < 2147483648 := by
  have hG := GL_MO (t := t) hV (two_lt hb)
  have hO := op_lt (t := t) hV (two_lt hb)
  have hn : ct (op t w A (2 ^ b)) 6 ≤ 5 := fin_ct5 _ hO b (by have := hV.2.1; omega) (by rw [op_bit]; simp)
  exact D_31 hG hn (diag_tot hV hO) (by omega) (by have := hB.1; omega)
/-- with one below the line, the fractions stand as what is above it -/
theorem LS_one {u v d : Int} (hu0 : 0 ≤ u) (hu : u < 2 ^ 62) (hv0 : 0 ≤ v) (hv : v < 2 ^ 62) (hd : 0 < d) (hd2 : d < 2147483648) : LSf (zI u) (zI d) (zI v) (zI d) ↔ u < v := by
  have hdiv : ∀ a : Int, 0 ≤ a → a < 2 ^ 62 → zI a / zI d = zI (a / d) ∧ 0 ≤ a / d ∧ a / d * d ≤ a ∧ a < (a / d + 1) * d := by
    intro a a0 a1
    have h1 := Int.ediv_mul_le a (show d ≠ 0 by omega)
    have h2 := Int.lt_ediv_add_one_mul_self a hd
    have h0 : 0 ≤ a / d := Int.ediv_nonneg a0 (by omega)
    have h3 : a / d ≤ a := Int.ediv_le_self d a0
    refine ⟨?_, h0, h1, h2⟩
    apply Int64.toInt_inj.mp
    rw [Int64.toInt_div, zI_t (by omega) (by omega), zI_t (by omega) (by omega), zI_t (by omega) (by omega), Int.tdiv_eq_ediv_of_nonneg a0, Int.bmod_def]
    split <;> omega
  obtain ⟨e1, p1, p2, p3⟩ := hdiv u hu0 hu
  obtain ⟨e2, q1, q2, q3⟩ := hdiv v hv0 hv
  have h3u : u / d ≤ u := Int.ediv_le_self d hu0
  have h3v : v / d ≤ v := Int.ediv_le_self d hv0
  have ru : 0 ≤ u - u / d * d ∧ u - u / d * d < d := by
    rw [Int.add_mul, Int.one_mul] at p3
    omega
  have rv : 0 ≤ v - v / d * d ∧ v - v / d * d < d := by
    rw [Int.add_mul, Int.one_mul] at q3
    omega
  have mu := mm (show u - u / d * d ≤ 2147483648 by omega) (show d ≤ 2147483648 by omega) (by omega) (by decide)
  have mv := mm (show v - v / d * d ≤ 2147483648 by omega) (show d ≤ 2147483648 by omega) (by omega) (by decide)
  have mu0 := Int.mul_nonneg ru.1 (show 0 ≤ d by omega)
  have mv0 := Int.mul_nonneg rv.1 (show 0 ≤ d by omega)
  unfold LSf
  rw [e1, e2, zI_mul, zI_mul, zI_sub, zI_sub, zI_mul, zI_mul, zI_eq (by omega) (by omega) (by omega) (by omega), zI_lt (by omega) (by omega) (by omega) (by omega), zI_lt (by omega) (by omega) (by omega) (by omega)]
  have key : (u - u / d * d) * d < (v - v / d * d) * d ↔ u - u / d * d < v - v / d * d := by
    constructor
    · intro z
      exact Int.lt_of_mul_lt_mul_right z (by omega)
    · intro z
      exact Int.mul_lt_mul_of_pos_right z hd
  rw [key]
  constructor
  · intro z
    rcases z with ⟨z1, z2⟩ | ⟨z1, z2⟩
    · rw [z1] at z2
      omega
    · apply Classical.byContradiction
      intro hno
      have := Int.ediv_le_ediv hd (show v ≤ u by omega)
      omega
  · intro z
    by_cases e : u / d = v / d
    · left
      refine ⟨e, ?_⟩
      rw [e]
      omega
    · right
      refine ⟨e, ?_⟩
      have := Int.ediv_le_ediv hd (show u ≤ v by omega)
      omega
theorem far_loop {x : SX8} {P W : Nat} {w : Nat → Wy} (hV : NV P W w) (hN : NE (w_net x) P W w) {a : Nat} (ha : a < P) : ∀ (d fu b : Nat) (best : Int32) (u : Int) (dn : Int64) (E : SX0) (y : SX9), b + d = P → d < fu → 0 ≤ u → u < 2 ^ 62 → (¬ best < 0 → dn = zI (bD (2 ^ W - 1) w W a)) → Rel x y → MA y P W (2 ^ W - 1) w → ∃ r E' y', qX8_farthest_47 (nI a) fu (w_equations_s x E) (nI (Rch (2 ^ W - 1) w W (2 ^ a))) best (zI u) dn (nI b) = some (r, w_equations_s x E') ∧ qX9_farthest_26 (nI a) fu y best (zI u) (nI b) = some (r, y') ∧ Rel x y' := by
  have hW := hV.2.2.1
  have hP := hV.2.1
  have n1 : ¬ (1 : Int32) = 0 := by decide
  have hone := ones_lt (show W ≤ 11 by omega)
  intro d
  induction d with
  | zero =>
    intro fu b best u dn E y h1 h2 u0 u1 hdn hR hM
    match fu, h2 with
    | fu + 1, _ =>
      have hb : b = P := by omega
      subst hb
      refine ⟨best, E, y, ?_, ?_, hR⟩
      · rw [qX8_farthest_47, show n_points (w_net (w_equations_s x E)) = nI b from hN.1, if_pos (nI_le (Nat.le_refl b) (by omega))]
      · rw [qX9_farthest_26, hM.1, if_pos (nI_le (Nat.le_refl b) (by omega))]
  | succ d ih =>
    intro fu b best u dn E y h1 h2 u0 u1 hdn hR hM
    match fu, h2 with
    | fu + 1, h2 =>
      have hb : b < P := by omega
      have hne : ¬ nI P ≤ nI b := nI_ge (by omega) (by omega)
      by_cases hba : b = a
      · obtain ⟨r, E', y', q1, q2, q3⟩ := ih fu (b + 1) best u dn E y (by omega) (by omega) u0 u1 hdn hR hM
        refine ⟨r, E', y', ?_, ?_, q3⟩
        · rw [qX8_farthest_47]
          unfold qX8_farthest_150
          rw [show n_points (w_net (w_equations_s x E)) = nI P from hN.1, if_neg hne, if_pos (by rw [hba]), ltt_e, nI_1, q1]
        · rw [qX9_farthest_26]
          unfold qX9_farthest_76
          rw [hM.1, if_neg hne, if_pos (by rw [hba]), ltt_e, nI_1, q2]
      · have hba' : ¬ nI b = nI a := fun z => hba ((nI_eq (by omega) (by omega)).mp z)
        obtain ⟨y1, k1, k2, k3⟩ := find9T hV.g hM hone ha hb
        have hR1 := k1.rel hR
        have hM1 := k1.ma hM
        have hsy := Rch_symb (t := 2 ^ W - 1) hV.g ha hb
        by_cases hr : (Rch (2 ^ W - 1) w W (2 ^ b)).testBit a = true
        · obtain ⟨v1, v2⟩ := k3 hr
          obtain ⟨E1, q1, q2, q3⟩ := times8T hV.g hN hV.bd hone hb (w_equations (w_equations_s x E))
          have tr := tU_r (t := 2 ^ W - 1) hV.g hV.bd ha hb hr
          have hg : bD (2 ^ W - 1) w W a = bD (2 ^ W - 1) w W b := ground hV.g hV.bd ha hb hr
          have d31 := bD_31 (t := 2 ^ W - 1) hV.g hV.bd hb
          obtain ⟨r, E', y', i1, i2, i3⟩ := ih fu (b + 1) (nI b) (tU (2 ^ W - 1) w W a b) (zI (bD (2 ^ W - 1) w W b)) E1 y1 (by omega) (by omega) tr.1 (by omega) (fun _ => by rw [hg]) hR1 hM1
          have s8 : ∀ fu, qX8_farthest_47 (nI a) (fu + 1) (w_equations_s x E) (nI (Rch (2 ^ W - 1) w W (2 ^ a))) best (zI u) dn (nI b) = if best < (0 : Int32) then qX8_farthest_47 (nI a) fu (w_equations_s x E1) (nI (Rch (2 ^ W - 1) w W (2 ^ a))) (nI b) (zI (tU (2 ^ W - 1) w W a b)) (zI (bD (2 ^ W - 1) w W b)) (nI (b + 1)) else (fX8_compare (zI (tU (2 ^ W - 1) w W a b)) (zI (bD (2 ^ W - 1) w W b)) (zI u) dn).bind fun o7 => (if o7 ≤ (0 : Int32) then qX8_farthest_47 (nI a) fu (w_equations_s x E1) (nI (Rch (2 ^ W - 1) w W (2 ^ a))) best (zI u) dn (nI (b + 1)) else qX8_farthest_47 (nI a) fu (w_equations_s x E1) (nI (Rch (2 ^ W - 1) w W (2 ^ a))) (nI b) (zI (tU (2 ^ W - 1) w W a b)) (zI (bD (2 ^ W - 1) w W b)) (nI (b + 1))) := by
            intro fu
            rw [qX8_farthest_47]
            unfold qX8_farthest_127 qX8_farthest_150
            rw [show n_points (w_net (w_equations_s x E)) = nI P from hN.1, if_neg hne, if_neg hba', has8 (lt31 hP (Rch_lt hV.g (two_lt ha))) (by omega), hsy, if_pos hr, bind_s, if_neg n1, show w_net (w_equations_s x E) = w_net x from rfl, allWays8 (by omega) hN, bind_s, q1, bind_s, ltt_e, ga_ok (by omega) (by decide), ga_ok (by omega) (by decide), show eq_above (w_equations (w_equations_s (w_equations_s x E) E1)) a = eq_above E1 a from rfl, show eq_below (w_equations (w_equations_s (w_equations_s x E) E1)) = eq_below E1 from rfl, q2, q3 a ha hr]
            simp only [ltt, nI_1]
          have s9 : ∀ fu, qX9_farthest_26 (nI a) (fu + 1) y best (zI u) (nI b) = if best < (0 : Int32) then qX9_farthest_26 (nI a) fu y1 (nI b) (zI (tU (2 ^ W - 1) w W a b)) (nI (b + 1)) else (if zI u < zI (tU (2 ^ W - 1) w W a b) then qX9_farthest_26 (nI a) fu y1 (nI b) (zI (tU (2 ^ W - 1) w W a b)) (nI (b + 1)) else qX9_farthest_26 (nI a) fu y1 best (zI u) (nI (b + 1))) := by
            intro fu
            rw [qX9_farthest_26]
            unfold qX9_farthest_68 qX9_farthest_76
            rw [hM.1, if_neg hne, if_neg hba', k2, bind_s, if_pos hr, if_neg n1, v1]
            simp only [ltt, nI_1]
          rw [s8, s9]
          by_cases hbest : best < 0
          · rw [if_pos hbest, if_pos hbest]
            exact ⟨r, E', y', i1, i2, i3⟩
          · rw [if_neg hbest, if_neg hbest]
            have hd := hdn hbest
            rw [hg] at hd
            rw [hd]
            have hdne : zI (bD (2 ^ W - 1) w W b) ≠ 0 := bD_ne hV.g hV.bd hb
            obtain ⟨c, c1, c2, -⟩ := comp8 (a := zI (tU (2 ^ W - 1) w W a b)) (b := zI (bD (2 ^ W - 1) w W b)) (c := zI u) (d := zI (bD (2 ^ W - 1) w W b)) hdne hdne
            rw [LS_one u0 u1 tr.1 (by omega) d31.1 d31.2] at c2
            rw [c1, bind_s]
            by_cases hlt : u < tU (2 ^ W - 1) w W a b
            · rw [if_neg (fun z => (c2.mp z) hlt), if_pos (by rw [zI_lt (by omega) (by omega) (by omega) (by omega)]; exact hlt)]
              exact ⟨r, E', y', i1, i2, i3⟩
            · rw [if_pos (c2.mpr hlt), if_neg (by rw [zI_lt (by omega) (by omega) (by omega) (by omega)]; exact hlt)]
              exact ih fu (b + 1) best u (zI (bD (2 ^ W - 1) w W b)) E1 y1 (by omega) (by omega) u0 u1 (fun _ => by rw [hg]) hR1 hM1
        · obtain ⟨r, E', y', q1, q2, q3⟩ := ih fu (b + 1) best u dn E y1 (by omega) (by omega) u0 u1 hdn hR1 hM1
          refine ⟨r, E', y', ?_, ?_, q3⟩
          · rw [qX8_farthest_47]
            unfold qX8_farthest_150
            rw [show n_points (w_net (w_equations_s x E)) = nI P from hN.1, if_neg hne, if_neg hba', has8 (lt31 hP (Rch_lt hV.g (two_lt ha))) (by omega), hsy, if_neg hr, bind_s, if_pos rfl, ltt_e, nI_1, q1]
          · rw [qX9_farthest_26]
            unfold qX9_farthest_76
            rw [hM.1, if_neg hne, if_neg hba', k2, bind_s, if_neg hr, if_pos rfl, ltt_e, nI_1, q2]
theorem op_farthest {x : SX8} {y : SX9} (h : Rel x y) (a : Int32) : OpI (fX8_farthest x a) (fX9_farthest y a) := by
  have n1 : ¬ (1 : Int32) = 0 := by decide
  obtain ⟨P, W, w, hV, hN, hM⟩ := h.1
  have hW := hV.2.2.1
  have hP := hV.2.1
  unfold fX8_farthest fX9_farthest
  rw [isPoint8 hN.1 (by omega), isPoint9 hM.1 (by omega), bind_s, bind_s]
  by_cases ha : 0 ≤ a.toInt ∧ a.toInt < P
  · rw [if_pos ha, if_neg n1, if_neg n1]
    obtain ⟨p, hp, rfl⟩ := isPt ha
    obtain ⟨r, E', y', q1, q2, q3⟩ := far_loop hV hN hp P FU 0 (-9) 0 1 (w_equations x) (at9 y (nI W) (nI (2 ^ W - 1))) (by omega) (by unfold FU; omega) (by decide) (by decide) (fun z => absurd (show (-9 : Int32) < 0 by decide) z) (at9_rel h _ _) (at9_MA hM _)
    refine ⟨r, w_equations_s x E', y', ?_, ?_, rel_eq q3 E'⟩
    · rw [allWays8 (by omega) hN, bind_s, fin_sh1 p (by omega), reached8 hV.g hN (ones_lt (by omega)) (two_lt hp), bind_s, show (0 : Int32) = nI 0 from rfl, show (0 : Int64) = zI 0 from rfl]
      exact q1
    · rw [allThere9 (by omega) hM, bind_s, show (0 : Int32) = nI 0 from rfl, show (0 : Int64) = zI 0 from rfl]
      exact q2
  · rw [if_neg ha, if_pos rfl, if_pos rfl]
    exact opI_no h (c := -1) (by decide) (bind_id _) (bind_id _)
