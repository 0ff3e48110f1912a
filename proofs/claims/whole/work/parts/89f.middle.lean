/-! middle -/
def M8 (x : SX8) (E : SX0) (tg : Nat → Int64) : SX8 := w_together_s (w_equations_s x E) tg
def sT (w : Nat → Wy) (W a n : Nat) : Int := sm n (fun b => tU (2 ^ W - 1) w W a b)
theorem mid30 {x : SX8} {P W : Nat} {w : Nat → Wy} (hP : P ≤ 6) (hN : NE (w_net x) P W w) : ∀ (d fu i : Nat) (E : SX0) (tg : Nat → Int64), i + d = P → d < fu → (∀ j, j < i → tg j = 0) → ∃ tg', qX8_middle_30 fu (M8 x E tg) (nI i) = qX8_middle_56 FU (M8 x E tg') 0 ∧ ∀ j, j < P → tg' j = 0 := by
  intro d
  induction d with
  | zero =>
    intro fu i E tg h1 h2 h3
    match fu, h2 with
    | fu + 1, _ =>
      have hi : i = P := by omega
      subst hi
      refine ⟨tg, ?_, h3⟩
      rw [qX8_middle_30, show n_points (w_net (M8 x E tg)) = nI i from hN.1, if_pos (nI_le (Nat.le_refl i) (by omega))]
  | succ d ih =>
    intro fu i E tg h1 h2 h3
    match fu, h2 with
    | fu + 1, h2 =>
      obtain ⟨tg', q1, q2⟩ := ih fu (i + 1) E (vp_updL tg i 0) (by omega) (by omega) (fun j hj => by
        by_cases e : j = i
        · rw [e, updL_s]
        · rw [updL_n e]; exact h3 j (by omega))
      refine ⟨tg', ?_, q2⟩
      rw [qX8_middle_30, show n_points (w_net (M8 x E tg)) = nI P from hN.1, if_neg (nI_ge (by omega) (by omega)), ga_ok (by omega) (by decide), ltt_e, ltt_e, nI_1]
      exact q1
theorem mid88 {x : SX8} {P W : Nat} {w : Nat → Wy} (hP : P ≤ 6) (hN : NE (w_net x) P W w) {E : SX0} (k56 : SX8 → Int32 → Option (Int32 × SX8)) (b : Nat) {v : Nat → Int64} (hv : ∀ a, a < P → eq_above E a = v a) : ∀ (d fu i : Nat) (tg : Nat → Int64), i + d = P → d < fu → ∃ tg', qX8_middle_88 k56 fu (M8 x E tg) (nI b) (nI i) = k56 (M8 x E tg') (nI (b + 1)) ∧ (∀ j, j < i → tg' j = tg j) ∧ ∀ j, i ≤ j → j < P → tg' j = tg j + v j := by
  intro d
  induction d with
  | zero =>
    intro fu i tg h1 h2
    match fu, h2 with
    | fu + 1, _ =>
      have hi : i = P := by omega
      subst hi
      refine ⟨tg, ?_, fun _ _ => rfl, fun j a b => by omega⟩
      rw [qX8_middle_88, show n_points (w_net (M8 x E tg)) = nI i from hN.1, if_pos (nI_le (Nat.le_refl i) (by omega)), ltt_e, nI_1]
  | succ d ih =>
    intro fu i tg h1 h2
    match fu, h2 with
    | fu + 1, h2 =>
      obtain ⟨tg', q1, q2, q3⟩ := ih fu (i + 1) (vp_updL tg i (tg i + v i)) (by omega) (by omega)
      refine ⟨tg', ?_, fun j hj => by rw [q2 j (by omega), updL_n (by omega)], fun j a b => ?_⟩
      · rw [qX8_middle_88, show n_points (w_net (M8 x E tg)) = nI P from hN.1, if_neg (nI_ge (by omega) (by omega)), ga_ok (by omega) (by decide), ga_ok (by omega) (by decide), ltt_e, ga_ok (by omega) (by decide), ltt_e, ltt_e, nI_1, show w_together (M8 x E tg) i = tg i from rfl, show eq_above (w_equations (M8 x E tg)) i = eq_above E i from rfl, hv i (by omega)]
        exact q1
      · by_cases e : j = i
        · rw [e, q2 i (by omega), updL_s]
        · rw [q3 j (by omega) b, updL_n e]
theorem mid56 {x : SX8} {P W : Nat} {w : Nat → Wy} (hV : NV P W w) (hN : NE (w_net x) P W w) (hall : ∀ a b, a < P → b < P → (Rch (2 ^ W - 1) w W (2 ^ b)).testBit a = true) : ∀ (d fu b : Nat) (E : SX0) (tg : Nat → Int64), b + d = P → d < fu → (∀ a, a < P → tg a = zI (sT w W a b)) → ∃ E' tg', qX8_middle_56 fu (M8 x E tg) (nI b) = qX8_middle_133 FU (M8 x E' tg') 0 1 ∧ ∀ a, a < P → tg' a = zI (sT w W a P) := by
  have hW := hV.2.2.1
  have hP := hV.2.1
  have hone := ones_lt (show W ≤ 11 by omega)
  intro d
  induction d with
  | zero =>
    intro fu b E tg h1 h2 h3
    match fu, h2 with
    | fu + 1, _ =>
      have hb : b = P := by omega
      subst hb
      refine ⟨E, tg, ?_, h3⟩
      rw [qX8_middle_56, show n_points (w_net (M8 x E tg)) = nI b from hN.1, if_pos (nI_le (Nat.le_refl b) (by omega))]
  | succ d ih =>
    intro fu b E tg h1 h2 h3
    match fu, h2 with
    | fu + 1, h2 =>
      have hb : b < P := by omega
      obtain ⟨E1, q1, q2, q3⟩ := times8T hV.g hN hV.bd hone hb E
      obtain ⟨tg1, r1, -, r3⟩ := mid88 (x := x) hP hN (E := E1) (qX8_middle_56 fu) b (v := fun a => zI (tU (2 ^ W - 1) w W a b)) (fun a ha => q3 a ha (hall a b ha hb)) P FU 0 tg (by omega) (by unfold FU; omega)
      obtain ⟨E', tg', s1, s2⟩ := ih fu (b + 1) E1 tg1 (by omega) (by omega) (fun a ha => by
        rw [r3 a (by omega) ha, h3 a ha, zI_add]
        rfl)
      refine ⟨E', tg', ?_, s2⟩
      rw [qX8_middle_56, show n_points (w_net (M8 x E tg)) = nI P from hN.1, if_neg (nI_ge (by omega) (by omega)), show w_net (M8 x E tg) = w_net x from rfl, allWays8 (by omega) hN, bind_s, show w_equations (M8 x E tg) = E from rfl, q1, bind_s, ltt_e, show w_equations_s (M8 x E tg) E1 = M8 x E1 tg from rfl, show (0 : Int32) = nI 0 from rfl, r1, s1, show nI 0 = (0 : Int32) from rfl]
theorem mid46 {x : SX8} {P W : Nat} {w : Nat → Wy} (hV : NV P W w) (hall : ∀ a b, a < P → b < P → (Rch (2 ^ W - 1) w W (2 ^ b)).testBit a = true) {a : Nat} (ha : a < P) (k31 : SX9 → Int32 → Int64 → Int32 → Option (Int32 × SX9)) (best : Int32) (least : Int64) : ∀ (d fu b : Nat) (y : SX9), b + d = P → d < fu → Rel x y → MA y P W (2 ^ W - 1) w → ∃ y', Rel x y' ∧ MA y' P W (2 ^ W - 1) w ∧ qX9_middle_46 k31 fu y best least (nI a) (zI (sT w W a b)) (nI b) = if best < 0 ∨ zI (sT w W a P) < least then k31 y' (nI a) (zI (sT w W a P)) (nI (a + 1)) else k31 y' best least (nI (a + 1)) := by
  have hW := hV.2.2.1
  have hP := hV.2.1
  have hone := ones_lt (show W ≤ 11 by omega)
  intro d
  induction d with
  | zero =>
    intro fu b y h1 h2 hR hM
    match fu, h2 with
    | fu + 1, _ =>
      have hb : b = P := by omega
      subst hb
      refine ⟨y, hR, hM, ?_⟩
      rw [qX9_middle_46]
      unfold qX9_middle_94 qX9_middle_100
      rw [hM.1, if_pos (nI_le (Nat.le_refl b) (by omega)), ltt_e, ltt_e, nI_1]
      by_cases h3 : best < 0
      · rw [if_pos h3, if_pos (Or.inl h3)]
      · rw [if_neg h3]
        by_cases h4 : zI (sT w W a b) < least
        · rw [if_pos h4, if_pos (Or.inr h4)]
        · rw [if_neg h4, if_neg (fun z => by rcases z with z | z; exact h3 z; exact h4 z)]
  | succ d ih =>
    intro fu b y h1 h2 hR hM
    match fu, h2 with
    | fu + 1, h2 =>
      have hb : b < P := by omega
      obtain ⟨y1, k1, k2, k3⟩ := find9T hV.g hM hone ha hb
      obtain ⟨u1, -⟩ := k3 (hall a b ha hb)
      obtain ⟨y', i1, i2, i3⟩ := ih fu (b + 1) y1 (by omega) (by omega) (k1.rel hR) (k1.ma hM)
      refine ⟨y', i1, i2, ?_⟩
      rw [qX9_middle_46, hM.1, if_neg (nI_ge (by omega) (by omega)), k2, bind_s, u1, zI_add, ltt_e, ltt_e, nI_1, show sT w W a b + tU (2 ^ W - 1) w W a b = sT w W a (b + 1) from rfl, i3]
theorem mid_end {x : SX8} {P W : Nat} {w : Nat → Wy} (hV : NV P W w) (hN : NE (w_net x) P W w) (hall : ∀ a b, a < P → b < P → (Rch (2 ^ W - 1) w W (2 ^ b)).testBit a = true) {E : SX0} {tg : Nat → Int64} (htg : ∀ a, a < P → tg a = zI (sT w W a P)) : ∀ (d fu a best : Nat) (y : SX9), a + d = P → d < fu → best < a → best < P → Rel x y → MA y P W (2 ^ W - 1) w → ∃ r y', qX8_middle_133 fu (M8 x E tg) (nI best) (nI a) = some (r, M8 x E tg) ∧ qX9_middle_31 fu y (nI best) (zI (sT w W best P)) (nI a) = some (r, y') ∧ Rel x y' := by
  have hP := hV.2.1
  intro d
  induction d with
  | zero =>
    intro fu a best y h1 h2 h3 h4 hR hM
    match fu, h2 with
    | fu + 1, _ =>
      have ha : a = P := by omega
      subst ha
      refine ⟨nI best, y, ?_, ?_, hR⟩
      · rw [qX8_middle_133, show n_points (w_net (M8 x E tg)) = nI a from hN.1, if_pos (nI_le (Nat.le_refl a) (by omega))]
      · rw [qX9_middle_31, hM.1, if_pos (nI_le (Nat.le_refl a) (by omega))]
  | succ d ih =>
    intro fu a best y h1 h2 h3 h4 hR hM
    match fu, h2 with
    | fu + 1, h2 =>
      have ha : a < P := by omega
      obtain ⟨y1, k1, k2, k3⟩ := mid46 hV hall ha (qX9_middle_31 fu) (nI best) (zI (sT w W best P)) P FU 0 y (by omega) (by unfold FU; omega) hR hM
      rw [show zI (sT w W a 0) = (0 : Int64) from rfl, show nI 0 = (0 : Int32) from rfl] at k3
      have e8 : ∀ fu, qX8_middle_133 (fu + 1) (M8 x E tg) (nI best) (nI a) = if zI (sT w W best P) ≤ zI (sT w W a P) then qX8_middle_133 fu (M8 x E tg) (nI best) (nI (a + 1)) else qX8_middle_133 fu (M8 x E tg) (nI a) (nI (a + 1)) := by
        intro fu
        rw [qX8_middle_133]
        unfold qX8_middle_162
        rw [show n_points (w_net (M8 x E tg)) = nI P from hN.1, if_neg (nI_ge (by omega) (by omega)), ga_ok (by omega) (by decide), ga_ok (by omega) (by decide), show w_together (M8 x E tg) = tg from rfl, htg best h4, htg a ha, ltt_e, ltt_e, nI_1]
      have e9 : ∀ fu', fu' = fu → qX9_middle_31 (fu' + 1) y (nI best) (zI (sT w W best P)) (nI a) = if nI best < 0 ∨ zI (sT w W a P) < zI (sT w W best P) then qX9_middle_31 fu y1 (nI a) (zI (sT w W a P)) (nI (a + 1)) else qX9_middle_31 fu y1 (nI best) (zI (sT w W best P)) (nI (a + 1)) := by
        intro fu' hf
        rw [hf, qX9_middle_31, hM.1, if_neg (nI_ge (by omega) (by omega)), k3]
      rw [e8, e9 fu rfl]
      have hb0 : ¬ nI best < 0 := nI_pos (by omega)
      by_cases hle : zI (sT w W best P) ≤ zI (sT w W a P)
      · rw [if_pos hle, if_neg (fun z => by rcases z with z | z; exact hb0 z; exact absurd hle (i64_nle.mpr z))]
        exact ih fu (a + 1) best y1 (by omega) (by omega) (by omega) h4 k1 k2
      · rw [if_neg hle, if_pos (Or.inr (i64_nle.mp hle))]
        exact ih fu (a + 1) a y1 (by omega) (by omega) (by omega) ha k1 k2
theorem op_middle {x : SX8} {y : SX9} (h : Rel x y) : OpI (fX8_middle x) (fX9_middle y) := by
  obtain ⟨P, W, w, hV, hN, hM⟩ := h.1
  have hW := hV.2.2.1
  have hP := hV.2.1
  have hP2 := hV.1
  have hone := ones_lt (show W ≤ 11 by omega)
  have hMA := at9_MA hM (2 ^ W - 1)
  have hR0 := at9_rel h (nI W) (nI (2 ^ W - 1))
  have hRl := Rch_lt (t := 2 ^ W - 1) hV.g (two_lt (show 0 < P by omega))
  have h64 := p2_64 hP
  unfold fX8_middle fX9_middle
  rw [allWays8 (by omega) hN, bind_s, show (1 : Int32) = nI (2 ^ 0) from rfl, reached8 hV.g hN hone (two_lt (show 0 < P by omega)), bind_s, allPoints8 hP hN, bind_s, allThere9 (by omega) hM, bind_s]
  generalize at9 y (nI W) (nI (2 ^ W - 1)) = y1 at *
  rw [show (0 : Int32) = nI 0 from rfl, reach9 hV.g hMA hone (show 0 < P by omega), bind_s, hMA.1, show ((nI (2 ^ 0) : Int32) <<< (nI P &&& 31)) - nI (2 ^ 0) = nI (2 ^ P - 1) from fin_shm P (by omega)]
  by_cases he : nI (Rch (2 ^ W - 1) w W (2 ^ 0)) = nI (2 ^ P - 1)
  · rw [if_pos he, if_pos he]
    have hE := (nI_eq (lt31 hP hRl) (by omega)).mp he
    have hall : ∀ a b, a < P → b < P → (Rch (2 ^ W - 1) w W (2 ^ b)).testBit a = true := fun a b ha hb => by
      have hb0 : (Rch (2 ^ W - 1) w W (2 ^ 0)).testBit b = true := by rw [hE, ones_bit, decide_eq_true hb]
      have ha0 : (Rch (2 ^ W - 1) w W (2 ^ 0)).testBit a = true := by rw [hE, ones_bit, decide_eq_true ha]
      rw [Rch_eq hV.g hb (show 0 < P by omega) hb0]
      exact ha0
    obtain ⟨tg1, a1, a2⟩ := mid30 (x := x) hP hN P FU 0 (w_equations x) (w_together x) (by omega) (by unfold FU; omega) (fun j hj => by omega)
    obtain ⟨E2, tg2, b1, b2⟩ := mid56 hV hN hall P FU 0 (w_equations x) tg1 (by omega) (by unfold FU; omega) (fun a ha => by rw [a2 a ha]; rfl)
    obtain ⟨y2, c1, c2, c3⟩ := mid46 (x := x) hV hall (show 0 < P by omega) (qX9_middle_31 1999) (-9) 0 P FU 0 y1 (by omega) (by unfold FU; omega) hR0 hMA
    rw [show zI (sT w W 0 0) = (0 : Int64) from rfl, if_pos (Or.inl (show (-9 : Int32) < 0 by decide))] at c3
    obtain ⟨r, y3, d1, d2, d3⟩ := mid_end hV hN hall (E := E2) b2 (P - 1) 1999 1 0 y2 (by omega) (by omega) (by omega) (by omega) c1 c2
    have d1' := d1
    obtain ⟨r', y3', f1, f2, f3⟩ := mid_end hV hN hall (E := E2) b2 (P - 1) FU 1 0 y2 (by omega) (by unfold FU; omega) (by omega) (by omega) c1 c2
    have hrr : ∀ (d fu fu' a best : Nat) (r r' : Int32) (z z' : SX8), d < fu → d < fu' → a + d = P → qX8_middle_133 fu (M8 x E2 tg2) (nI best) (nI a) = some (r, z) → qX8_middle_133 fu' (M8 x E2 tg2) (nI best) (nI a) = some (r', z') → best < P → r = r' := by
      intro d
      induction d with
      | zero =>
        intro fu fu' a best r r' z z' g1 g2 g3 g4 g5 g6
        match fu, fu', g1, g2 with
        | fu + 1, fu' + 1, _, _ =>
          have ha : a = P := by omega
          subst ha
          rw [qX8_middle_133, show n_points (w_net (M8 x E2 tg2)) = nI a from hN.1, if_pos (nI_le (Nat.le_refl a) (by omega))] at g4 g5
          exact (Prod.mk.inj (Option.some.inj g4)).1.symm.trans (Prod.mk.inj (Option.some.inj g5)).1
      | succ d ih =>
        intro fu fu' a best r r' z z' g1 g2 g3 g4 g5 g6
        match fu, fu', g1, g2 with
        | fu + 1, fu' + 1, g1, g2 =>
          rw [qX8_middle_133] at g4 g5
          unfold qX8_middle_162 at g4 g5
          rw [show n_points (w_net (M8 x E2 tg2)) = nI P from hN.1, if_neg (nI_ge (by omega) (by omega)), ga_ok (by omega) (by decide), ga_ok (by omega) (by decide), ltt_e, ltt_e, nI_1] at g4 g5
          by_cases hle : w_together (M8 x E2 tg2) best ≤ w_together (M8 x E2 tg2) a
          · rw [if_pos hle] at g4 g5
            exact ih fu fu' (a + 1) best r r' z z' (by omega) (by omega) (by omega) g4 g5 g6
          · rw [if_neg hle] at g4 g5
            exact ih fu fu' (a + 1) a r r' z z' (by omega) (by omega) (by omega) g4 g5 (by omega)
    have hr := hrr (P - 1) FU 1999 1 0 r' r _ _ (by unfold FU; omega) (by omega) (by omega) f1 d1 (by omega)
    subst hr
    refine ⟨r', M8 x E2 tg2, y3, ?_, ?_, ?_⟩
    · have e1 : M8 x (w_equations x) (w_together x) = x := rfl
      rw [e1] at a1
      rw [a1, show (0 : Int32) = nI 0 from rfl, b1]
      exact f1
    · rw [show FU = 1999 + 1 from rfl, qX9_middle_31, hMA.1, if_neg (nI_ge (by omega) (by omega)), show (0 : Int32) = nI 0 from rfl, c3]
      exact d2
    · exact ⟨d3.1, d3.2.1, d3.2.2.1, d3.2.2.2.1, d3.2.2.2.2.1, d3.2.2.2.2.2.1, d3.2.2.2.2.2.2.1, d3.2.2.2.2.2.2.2⟩
  · rw [if_neg he, if_neg he]
    exact ⟨-9, x, y1, rfl, rfl, hR0⟩
