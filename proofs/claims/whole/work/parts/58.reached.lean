/-! reached and reach -/
theorem ends8 {N : SX3} {k : Nat} {v : Wy} (h : NWat N k v) (hF : wF v < 31) (hS : wS v < 31) : (((1 : Int32) <<< ((n_first N k) &&& 31)) ||| ((1 : Int32) <<< ((n_second N k) &&& 31))) = nI (eb v) := by
  rw [h.1, h.2.1, fin_sh1 _ hF, fin_sh1 _ hS, nI_or]
  rfl
theorem ends9 {y : SX9} {k : Nat} {v : Wy} (h : MWat y k v) (hF : wF v < 31) (hS : wS v < 31) : (((1 : Int32) <<< ((m_first y k) &&& 31)) ||| ((1 : Int32) <<< ((m_second y k) &&& 31))) = nI (eb v) := by
  rw [h.1, h.2.1, fin_sh1 _ hF, fin_sh1 _ hS, nI_or]
  rfl
theorem swp_s (t : Nat) (w : Nat → Wy) (s n : Nat) : swp t w s (n + 1) = stp t w (swp t w s n) n := rfl
theorem lt31 {P s : Nat} (hP : P ≤ 6) (hs : s < 2 ^ P) : s < 2 ^ 31 := by have := p64 hP hs; omega
theorem reached_sweep {N : SX3} {P A : Nat} {w : Nat → Wy} (hV : GV P A w) (hN : NE N P A w) {t : Nat} (ht : t < 2 ^ 31) {pa : Int32} (k8 : Int32 → Int32 → Int32 → Option Int32) (l4 l5 : Int32) {s : Nat} (hs : s < 2 ^ P) : ∀ (d fu i : Nat), i + d = A → d < fu → qX3_reached_29 N pa (nI t) k8 fu (nI (swp t w s i)) l4 l5 (nI i) = k8 (nI (swp t w s A)) l4 (l5 + 1) := by
  have hA := hV.2.2.1
  have hP := hV.2.1
  intro d
  induction d with
  | zero =>
    intro fu i h1 h2
    match fu, h2 with
    | fu + 1, _ =>
      have hi : i = A := by omega
      subst hi
      unfold qX3_reached_29
      rw [hN.2.1, if_pos (nI_le (Nat.le_refl i) (by omega)), ltt_e]
  | succ d ih =>
    intro fu i h1 h2
    match fu, h2 with
    | fu + 1, h2 =>
      have hi : i < 11 := by omega
      have hOk := hV.2.2.2 i (by omega)
      have hw := hN.2.2 i (by omega)
      have hl := swp_lt (t := t) hV (show i ≤ A by omega) hs
      have hF : wF (w i) < 31 := by have := hOk.1; omega
      have hS : wS (w i) < 31 := by have := hOk.2.1; omega
      have q := ih fu (i + 1) (by omega) (by omega)
      unfold qX3_reached_29 qX3_reached_80
      rw [hN.2.1, if_neg (nI_ge (by omega) (by omega)), ga_ok hi (by decide), ga_ok hi (by decide), ltt_e, ends8 hw hF hS, has8 ht (by omega), bind_s]
      by_cases hb : t.testBit i = true
      · rw [if_pos hb, if_neg (show ¬ (1 : Int32) = 0 by decide), nI_and]
        by_cases hq : swp t w s i &&& eb (w i) = 0
        · have hq' := (and_eb _ _).mp hq
          rw [hq, if_pos (show nI 0 = (0 : Int32) from rfl), ltt_e, nI_1]
          rw [swp_s, stp, if_neg (fun z => hq' z.2)] at q
          exact q
        · have hq' : (swp t w s i).testBit (wF (w i)) = true ∨ (swp t w s i).testBit (wS (w i)) = true := Classical.byContradiction fun z => hq ((and_eb _ _).mpr z)
          rw [if_neg (nI_ne0 (by omega) (by have := lt31 hP (and_lt (b := eb (w i)) hl); omega)), ltt_e, ltt_e, nI_1, nI_or]
          rw [swp_s, stp, if_pos ⟨hb, hq'⟩] at q
          exact q
      · rw [if_neg hb, if_pos rfl, ltt_e, nI_1]
        rw [swp_s, stp, if_neg (fun z => hb z.1)] at q
        exact q
theorem reached_loop {N : SX3} {P A : Nat} {w : Nat → Wy} (hV : GV P A w) (hN : NE N P A w) {t : Nat} (ht : t < 2 ^ 31) {pa : Int32} {s : Nat} (hs : s < 2 ^ P) : ∀ (d fu r : Nat), r + 1 + d = P → d < fu → qX3_reached_8 N pa (nI t) fu (nI (itr t w A s r)) (nI (if r = 0 then 0 else itr t w A s (r - 1))) (nI (r + 1)) = some (nI (Rch t w A s)) := by
  have hA := hV.2.2.1
  have hP := hV.2.1
  intro d
  induction d with
  | zero =>
    intro fu r h1 h2
    match fu, h2 with
    | fu + 1, _ =>
      have hr : r = P - 1 := by omega
      unfold qX3_reached_8
      rw [hN.1, if_pos (nI_le (by omega) (by omega)), Rch_of (by rw [hr]; exact itr_fix hV hs) (by omega)]
  | succ d ih =>
    intro fu r h1 h2
    match fu, h2 with
    | fu + 1, h2 =>
      have q := ih fu (r + 1) (by omega) (by omega)
      have hl := itr_lt (t := t) hV hs r
      unfold qX3_reached_8
      rw [hN.1, if_neg (nI_ge (by omega) (by omega))]
      have hb2 : (if r = 0 then 0 else itr t w A s (r - 1)) < 2 ^ P := by
        split
        · exact Nat.two_pow_pos P
        · exact itr_lt hV hs (r - 1)
      by_cases he : itr t w A s r = if r = 0 then 0 else itr t w A s (r - 1)
      · rw [if_pos (by rw [← he])]
        have hc : Cl t w A (itr t w A s r) := by
          by_cases h0 : r = 0
          · rw [if_pos h0] at he
            rw [he]
            exact cl_zero
          · rw [if_neg h0] at he
            have hr : r = (r - 1) + 1 := by omega
            have hh : itr t w A s r = swp t w (itr t w A s (r - 1)) A := by
              rw [hr]
              rfl
            rw [he] at hh
            rw [he]
            exact fix_cl hh.symm
        rw [Rch_of hc (by omega)]
      · rw [if_neg (fun z => he ((nI_eq (lt31 hP hl) (lt31 hP hb2)).mp z))]
        have := reached_sweep hV hN ht (pa := pa) (qX3_reached_8 N pa (nI t) fu) (nI (itr t w A s r)) (nI (r + 1)) hl A FU 0 (by omega) (by unfold FU; omega)
        rw [show nI (swp t w (itr t w A s r) 0) = nI (itr t w A s r) from rfl] at this
        rw [show (0 : Int32) = nI 0 from rfl, this, nI_1]
        rw [if_neg (by omega), Nat.add_sub_cancel] at q
        exact q
theorem reached8 {N : SX3} {P A : Nat} {w : Nat → Wy} (hV : GV P A w) (hN : NE N P A w) {t : Nat} (ht : t < 2 ^ 31) {s : Nat} (hs : s < 2 ^ P) : fX3_reached N (nI s) (nI t) = some (nI (Rch t w A s)) := by
  unfold fX3_reached
  have hP := hV.1
  have hP6 := hV.2.1
  have := reached_loop hV hN ht (pa := nI s) hs (P - 1) FU 0 (by omega) (by unfold FU; omega)
  rw [if_pos rfl] at this
  rw [show (1 : Int32) = nI (0 + 1) from rfl, show (0 : Int32) = nI 0 from rfl]
  rw [show nI s = nI (itr t w A s 0) from rfl] at this ⊢
  rw [this]
def MA (y : SX9) (P A t : Nat) (w : Nat → Wy) : Prop := m_points y = nI P ∧ m_all y = nI A ∧ m_there y = nI t ∧ ∀ k, k < A → MWat y k (w k)
theorem reach_sweep {y : SX9} {P A : Nat} {w : Nat → Wy} (hV : GV P A w) {t : Nat} (hM : MA y P A t w) (ht : t < 2 ^ 31) {pa : Int32} (k6 : Int32 → Int32 → Option Int32) (l3 : Int32) {s : Nat} (hs : s < 2 ^ P) : ∀ (d fu i : Nat), i + d = A → d < fu → qX9_reach_15 y pa k6 fu (nI (swp t w s i)) l3 (nI i) = k6 (nI (swp t w s A)) (l3 + 1) := by
  have hA := hV.2.2.1
  have hP := hV.2.1
  intro d
  induction d with
  | zero =>
    intro fu i h1 h2
    match fu, h2 with
    | fu + 1, _ =>
      have hi : i = A := by omega
      subst hi
      unfold qX9_reach_15
      rw [hM.2.1, if_pos (nI_le (Nat.le_refl i) (by omega)), ltt_e]
  | succ d ih =>
    intro fu i h1 h2
    match fu, h2 with
    | fu + 1, h2 =>
      have hi : i < 11 := by omega
      have hOk := hV.2.2.2 i (by omega)
      have hw := hM.2.2.2 i (by omega)
      have hl := swp_lt (t := t) hV (show i ≤ A by omega) hs
      have hF : wF (w i) < 31 := by have := hOk.1; omega
      have hS : wS (w i) < 31 := by have := hOk.2.1; omega
      have q := ih fu (i + 1) (by omega) (by omega)
      have n1 : ¬ (1 : Int32) = 0 := by decide
      have h64 : ∀ l3 : Int32, qX9_reach_64 y pa (qX9_reach_86 y pa (qX9_reach_15 y pa k6 fu)) (nI (swp t w s i)) l3 (nI i) = qX9_reach_15 y pa k6 fu (nI (swp t w s i ||| eb (w i))) l3 (nI (i + 1)) := by
        intro l3
        unfold qX9_reach_64 qX9_reach_86
        rw [ga_ok hi (by decide), ga_ok hi (by decide), ltt_e, ends9 hw hF hS, nI_or, ltt_e, nI_1]
      unfold qX9_reach_15
      rw [hM.2.1, if_neg (nI_ge (by omega) (by omega)), hM.2.2.1, has9 ht (by omega), bind_s]
      by_cases hb : t.testBit i = true
      · rw [if_pos hb, if_neg n1, ga_ok hi (by decide), hw.1, has9 (lt31 hP hl) (by omega), bind_s]
        by_cases h3 : (swp t w s i).testBit (wF (w i)) = true
        · rw [if_pos h3, if_neg n1, h64]
          rw [swp_s, stp, if_pos ⟨hb, Or.inl h3⟩] at q
          exact q
        · rw [if_neg h3, if_pos rfl, ga_ok hi (by decide), hw.2.1, has9 (lt31 hP hl) (by omega), bind_s]
          by_cases h4 : (swp t w s i).testBit (wS (w i)) = true
          · rw [if_pos h4, if_neg n1, h64]
            rw [swp_s, stp, if_pos ⟨hb, Or.inr h4⟩] at q
            exact q
          · unfold qX9_reach_86
            rw [if_neg h4, if_pos rfl, ltt_e, nI_1]
            rw [swp_s, stp, if_neg (fun z => by rcases z.2 with z | z; exact h3 z; exact h4 z)] at q
            exact q
      · unfold qX9_reach_86
        rw [if_neg hb, if_pos rfl, ltt_e, nI_1]
        rw [swp_s, stp, if_neg (fun z => hb z.1)] at q
        exact q
theorem reach_loop {y : SX9} {P A : Nat} {w : Nat → Wy} (hV : GV P A w) {t : Nat} (hM : MA y P A t w) (ht : t < 2 ^ 31) {pa : Int32} {s : Nat} (hs : s < 2 ^ P) : ∀ (d fu r : Nat), r + d = 6 → d < fu → qX9_reach_6 y pa fu (nI (itr t w A s r)) (nI r) = some (nI (Rch t w A s)) := by
  have hA := hV.2.2.1
  intro d
  induction d with
  | zero =>
    intro fu r h1 h2
    match fu, h2 with
    | fu + 1, _ =>
      have hr : r = 6 := by omega
      subst hr
      unfold qX9_reach_6
      rw [if_pos (show (6 : Int32) ≤ nI 6 by decide)]
      rfl
  | succ d ih =>
    intro fu r h1 h2
    match fu, h2 with
    | fu + 1, h2 =>
      have q := ih fu (r + 1) (by omega) (by omega)
      have hl := itr_lt (t := t) hV hs r
      have := reach_sweep hV hM ht (pa := pa) (qX9_reach_6 y pa fu) (nI r) hl A FU 0 (by omega) (by unfold FU; omega)
      unfold qX9_reach_6
      rw [if_neg (show ¬ (6 : Int32) ≤ nI r from nI_ge (b := 6) (by omega) (by decide)), show (0 : Int32) = nI 0 from rfl, show nI (itr t w A s r) = nI (swp t w (itr t w A s r) 0) from rfl, this, nI_1]
      exact q
theorem reach9 {y : SX9} {P A : Nat} {w : Nat → Wy} (hV : GV P A w) {t : Nat} (hM : MA y P A t w) (ht : t < 2 ^ 31) {p : Nat} (hp : p < P) : fX9_reach y (nI p) = some (nI (Rch t w A (2 ^ p))) := by
  unfold fX9_reach
  have := reach_loop hV hM ht (pa := nI p) (two_lt hp) 6 FU 0 (by omega) (by unfold FU; omega)
  rw [fin_sh1 p (by have := hV.2.1; omega), ltt_e, show (0 : Int32) = nI 0 from rfl]
  rw [show nI (itr t w A (2 ^ p) 0) = nI (2 ^ p) from rfl] at this
  rw [this]
theorem allWays8 {N : SX3} {P A : Nat} {w : Nat → Wy} (hA : A ≤ 11) (hN : NE N P A w) : fX3_allWays N = some (nI (2 ^ A - 1)) := by
  unfold fX3_allWays
  rw [hN.2.1, fin_shm A (by omega)]
theorem allPoints8 {N : SX3} {P A : Nat} {w : Nat → Wy} (hP : P ≤ 6) (hN : NE N P A w) : fX3_allPoints N = some (nI (2 ^ P - 1)) := by
  unfold fX3_allPoints
  rw [hN.1, fin_shm P (by omega)]
/-- the state after allThere -/
def at9 (y : SX9) (a t : Int32) : SX9 := m_there_s (m_all_s y a) t
theorem allThere9 {y : SX9} {P W : Nat} {w : Nat → Wy} (hW : W ≤ 11) (hM : ME y P W w) : fX9_allThere y = some (at9 y (nI W) (nI (2 ^ W - 1))) := by
  unfold fX9_allThere
  rw [ltt_e, ltt_e, ltt_e, ltt_e]
  rw [show m_many (m_all_s y (m_many y)) = m_many y from rfl, hM.2.1, fin_shm W (by omega)]
  rfl
theorem at9_MA {y : SX9} {P W : Nat} {w : Nat → Wy} (hM : ME y P W w) (t : Nat) : MA (at9 y (nI W) (nI t)) P W t w := ⟨hM.1, rfl, rfl, hM.2.2⟩
theorem at9_rel {x : SX8} {y : SX9} (h : Rel x y) (a t : Int32) : Rel x (at9 y a t) := h
theorem ones_lt {W : Nat} (h : W ≤ 11) : 2 ^ W - 1 < 2 ^ 31 := by
  have : 2 ^ W ≤ 2 ^ 11 := Nat.pow_le_pow_right (by decide) h
  omega
theorem op_reaches {x : SX8} {y : SX9} (h : Rel x y) (a : Int32) : OpI (fX8_reaches x a) (fX9_reaches y a) := by
  obtain ⟨P, W, w, hV, hN, hM⟩ := h.1
  have hW := hV.2.2.1
  have hP := hV.2.1
  by_cases ha : 0 ≤ a.toInt ∧ a.toInt < P
  · obtain ⟨p, hp, rfl, hp2⟩ := i32_nn ha.1
    have hpP : p < P := by omega
    refine ⟨nI (Rch (2 ^ W - 1) w W (2 ^ p)), x, at9 y (nI W) (nI (2 ^ W - 1)), ?_, ?_, at9_rel h _ _⟩
    · unfold fX8_reaches
      rw [isPoint8 hN.1 (by omega), if_pos ha, bind_s, if_neg (show ¬ (1 : Int32) = 0 by decide), allWays8 (by omega) hN, bind_s, fin_sh1 p (by omega), reached8 hV.g hN (ones_lt (by omega)) (two_lt hpP), bind_s]
    · unfold fX9_reaches
      rw [isPoint9 hM.1 (by omega), if_pos ha, bind_s, if_neg (show ¬ (1 : Int32) = 0 by decide), allThere9 (by omega) hM, bind_s, reach9 hV.g (at9_MA hM _) (ones_lt (by omega)) hpP, bind_s]
  · refine opI_no h (c := -1) (by decide) ?_ ?_
    · unfold fX8_reaches
      rw [isPoint8 hN.1 (by omega), if_neg ha, bind_s, if_pos rfl]
      exact bind_id (fX8_counted x (-1))
    · unfold fX9_reaches
      rw [isPoint9 hM.1 (by omega), if_neg ha, bind_s, if_pos rfl]
      exact bind_id (fX9_no y (-1))
