/-! commute -/
def Kq (y y' : SX9) : Prop := (∀ x, Rel x y → Rel x y') ∧ (∀ P A t w, MA y P A t w → MA y' P A t w) ∧ ∀ P W w, ME y P W w → ME y' P W w
theorem Kp.q {y y' : SX9} (h : Kp y y') : Kq y y' := ⟨fun _ r => h.rel r, fun _ _ _ _ r => h.ma r, fun _ _ _ r => h.me r⟩
theorem Kq.rfl (y : SX9) : Kq y y := ⟨fun _ r => r, fun _ _ _ _ r => r, fun _ _ _ r => r⟩
theorem Kq.trans {y y' y'' : SX9} (h : Kq y y') (g : Kq y' y'') : Kq y y'' := ⟨fun _ r => g.1 _ (h.1 _ r), fun _ _ _ _ r => g.2.1 _ _ _ _ (h.2.1 _ _ _ _ r), fun _ _ _ r => g.2.2 _ _ _ (h.2.2 _ _ _ r)⟩
theorem Kq_cu (y : SX9) (v : Int64) : Kq y (m_commuteUp_s y v) := ⟨fun _ h => ⟨h.1, h.2.1, h.2.2.1, h.2.2.2.1, h.2.2.2.2.1, h.2.2.2.2.2.1, h.2.2.2.2.2.2.1, h.2.2.2.2.2.2.2⟩, fun _ _ _ _ h => ⟨h.1, h.2.1, h.2.2.1, h.2.2.2⟩, fun _ _ _ h => ⟨h.1, h.2.1, h.2.2⟩⟩
theorem Kq_cd (y : SX9) (v : Int64) : Kq y (m_commuteDown_s y v) := ⟨fun _ h => ⟨h.1, h.2.1, h.2.2.1, h.2.2.2.1, h.2.2.2.2.1, h.2.2.2.2.2.1, h.2.2.2.2.2.2.1, h.2.2.2.2.2.2.2⟩, fun _ _ _ _ h => ⟨h.1, h.2.1, h.2.2.1, h.2.2.2⟩, fun _ _ _ h => ⟨h.1, h.2.1, h.2.2⟩⟩
theorem Kp_cu {y y' : SX9} (h : Kp y y') : m_commuteUp y' = m_commuteUp y := by
  obtain ⟨a, n, mx, rg, ds, u, d, rfl⟩ := h
  rfl
theorem Kp_cd {y y' : SX9} (h : Kp y y') : m_commuteDown y' = m_commuteDown y := by
  obtain ⟨a, n, mx, rg, ds, u, d, rfl⟩ := h
  rfl
/-- below the line of the end b -/
def bD (t : Nat) (w : Nat → Wy) (A b : Nat) : Int := dt (ct (op t w A (2 ^ b)) 6) (MO t w A (op t w A (2 ^ b)))
/-- time from a to b, above the line -/
def tU (t : Nat) (w : Nat → Wy) (A a b : Nat) : Int := if a = b then 0 else Xk (MO t w A (op t w A (2 ^ b))) (ct (op t w A (2 ^ b)) 6) (ct (op t w A (2 ^ b)) a) (fun i => du t w (fT w) A (el (op t w A (2 ^ b)) i))
theorem tU_r {P A t a b : Nat} {w : Nat → Wy} (hV : GV P A w) (hB : Bd A w) (ha : a < P) (hb : b < P) (hr : (Rch t w A (2 ^ b)).testBit a = true) : 0 ≤ tU t w A a b ∧ tU t w A a b < 2 ^ 61 := by
  have hP := hV.2.1
  unfold tU
  by_cases hab : a = b
  · rw [if_pos hab]; decide
  rw [if_neg hab]
  obtain ⟨hGL, hn, hD, -⟩ := sys_b (t := t) hV hB hb
  have hO := op_lt (t := t) hV (two_lt hb)
  have hq := diag_tot (t := t) hV hO
  have hOa : (op t w A (2 ^ b)).testBit a = true := by
    rw [op_bit, hr]
    simp
    exact fun z => hab z.symm
  have hsum := du_tot (t := t) hV (fT w) hO
  generalize op t w A (2 ^ b) = O at *
  have hj := ct_lt hO (show a < 6 by omega) hOa
  generalize ct O a = j at *
  generalize hnn : ct O 6 = n at *
  obtain ⟨m, rfl⟩ : ∃ m, n = m + 1 := ⟨n - 1, by omega⟩
  have hX := X_col hGL (show j ≤ m by omega) (g := fun i => du t w (fT w) A (el O i)) (fun i _ => du_1 _)
  have h0 := ((Iv_all hGL (m + 1) (Nat.le_refl _)).2.2.2.1 (fun i => du t w (fT w) A (el O i)) (fun i _ => du_1 _)).2 j hj
  have hBd := GL_del hGL (show j ≤ m by omega)
  have hqB : sm m (fun l => dr j (dc j (MO t w A O)) l l) ≤ ((2 * (sN A (fS w) + 1) : Nat) : Int) := by
    have e := sm_skip (show j ≤ m by omega) (fun l => MO t w A O l l)
    have e3 : sm m (fun l => dr j (dc j (MO t w A O)) l l) = sm m (fun q => MO t w A O (if q < j then q else q + 1) (if q < j then q else q + 1)) := rfl
    have := gl_diag hGL hj
    omega
  have hd := D_48 (G := 1) hBd (by omega) hqB (by omega) (by have := hB.1; omega)
  have hs : sm (m + 1) (fun i => du t w (fT w) A (el O i)) ≤ 4700 := by have := hB.2; omega
  have u := mm hs (show dt m (dr j (dc j (MO t w A O))) ≤ 2 ^ 48 by omega) (by omega) (by decide)
  exact ⟨h0, by omega⟩
theorem find9T {y : SX9} {P A t : Nat} {w : Nat → Wy} (hV : GV P A w) (hM : MA y P A t w) (ht : t < 2 ^ 31) {a b : Nat} (ha : a < P) (hb : b < P) : ∃ y', Kp y y' ∧ fX9_findTime y (nI a) (nI b) 0 = some (if (Rch t w A (2 ^ b)).testBit a = true then 1 else 0, y') ∧ ((Rch t w A (2 ^ b)).testBit a = true → m_up y' = zI (tU t w A a b) ∧ m_down y' = zI (if a = b then 1 else bD t w A b)) := by
  obtain ⟨y', k1, k2, k3, k4⟩ := find9 hV hM ht ha hb 0
  refine ⟨y', k1, k2, fun hr => ?_⟩
  unfold tU bD
  by_cases hab : a = b
  · rw [if_pos hab, if_pos hab]
    exact k4 hab
  · rw [if_neg hab, if_neg hab]
    have := k3 hr hab
    rw [fK0] at this
    exact this
theorem times8T {N : SX3} {P A : Nat} {w : Nat → Wy} (hV : GV P A w) (hN : NE N P A w) (hB : Bd A w) {t b : Nat} (ht : t < 2 ^ 31) (hb : b < P) (E : SX0) : ∃ E' : SX0, fX0_timesTo E N (nI t) (nI b) = some E' ∧ eq_below E' = zI (bD t w A b) ∧ ∀ a, a < P → (Rch t w A (2 ^ b)).testBit a = true → eq_above E' a = zI (tU t w A a b) := by
  obtain ⟨E', q1, q2⟩ := times8 hV hN hB ht hb E
  refine ⟨E', q1, q2.1, fun a ha hr => ?_⟩
  rw [q2.2 a (by have := hV.2.1; omega)]
  unfold tU
  by_cases hab : a = b
  · rw [if_pos hab, if_neg (by rw [op_bit, hab]; simp)]
    rfl
  · rw [if_neg hab, if_pos (by
      rw [op_bit, hr]
      simp
      exact fun z => hab z.symm)]
theorem bD_r {P A t b : Nat} {w : Nat → Wy} (hV : GV P A w) (hB : Bd A w) (hb : b < P) : 0 < bD t w A b ∧ bD t w A b < 2 ^ 48 := (sys_b hV hB hb).2.2
theorem comm9 {y : SX9} {P A t : Nat} {w : Nat → Wy} (hV : GV P A w) (hM : MA y P A t w) (ht : t < 2 ^ 31) {a b : Nat} (ha : a < P) (hb : b < P) : ∃ y', Kq y y' ∧ fX9_findCommute y (nI a) (nI b) = some (if (Rch t w A (2 ^ b)).testBit a = true then 1 else 0, y') ∧ ((Rch t w A (2 ^ b)).testBit a = true → m_commuteUp y' = zI (tU t w A a b + tU t w A b a) ∧ m_commuteDown y' = zI (if a = b then 1 else bD t w A b)) := by
  obtain ⟨y1, k1, k2, k3⟩ := find9T hV hM ht ha hb
  by_cases hr : (Rch t w A (2 ^ b)).testBit a = true
  · obtain ⟨u1, u2⟩ := k3 hr
    obtain ⟨y2, hy2⟩ : ∃ y2, y2 = m_commuteDown_s (m_commuteUp_s y1 (m_up y1)) (m_down (m_commuteUp_s y1 (m_up y1))) := ⟨_, rfl⟩
    have hK2 : Kq y y2 := by
      rw [hy2]
      exact k1.q.trans ((Kq_cu _ _).trans (Kq_cd _ _))
    have c1 : m_commuteUp y2 = zI (tU t w A a b) := by rw [hy2]; exact u1
    have c2 : m_commuteDown y2 = zI (if a = b then 1 else bD t w A b) := by rw [hy2]; exact u2
    obtain ⟨y3, l1, l2, l3⟩ := find9T hV (hK2.2.1 _ _ _ _ hM) ht hb ha
    obtain ⟨v1, v2⟩ := l3 (Rch_sym hV ha hr)
    refine ⟨m_commuteUp_s y3 (m_commuteUp y3 + m_up y3), hK2.trans (l1.q.trans (Kq_cu _ _)), ?_, fun _ => ⟨?_, ?_⟩⟩
    · unfold fX9_findCommute
      rw [k2, bind_s, if_pos hr, if_neg (show ¬ (1 : Int32) = 0 by decide), ltt_e, ltt_e, ltt_e, ltt_e, ← hy2, l2, bind_s, ltt_e, ltt_e]
    · show m_commuteUp y3 + m_up y3 = _
      rw [Kp_cu l1, c1, v1, zI_add]
    · show m_commuteDown y3 = _
      rw [Kp_cd l1, c2]
  · refine ⟨y1, k1.q, ?_, fun h => absurd h hr⟩
    unfold fX9_findCommute
    rw [k2, bind_s, if_neg hr, if_pos rfl]
theorem comm8 {x : SX8} {P W : Nat} {w : Nat → Wy} (hV : NV P W w) (hN : NE (w_net x) P W w) {p q : Nat} (hp : p < P) (hq : q < P) (hr : (Rch (2 ^ W - 1) w W (2 ^ q)).testBit p = true) : ∃ E, fX8_commuteAbove x (nI p) (nI q) = some (zI (tU (2 ^ W - 1) w W p q + tU (2 ^ W - 1) w W q p), w_equations_s x E) ∧ eq_below E = zI (bD (2 ^ W - 1) w W q) := by
  have hW := hV.2.2.1
  have hP := hV.2.1
  have hone := ones_lt (show W ≤ 11 by omega)
  obtain ⟨E1, a1, a2, a3⟩ := times8T hV.g hN hV.bd hone hq (w_equations x)
  obtain ⟨E2, b1, b2, b3⟩ := times8T hV.g hN hV.bd hone hp E1
  refine ⟨E2, ?_, ?_⟩
  · unfold fX8_commuteAbove
    rw [allWays8 (by omega) hN, bind_s, a1, bind_s, ltt_e, ga_ok (by omega) (by decide), ltt_e, show w_net (w_equations_s x E1) = w_net x from rfl, allWays8 (by omega) hN, bind_s, show w_equations (w_equations_s x E1) = E1 from rfl, b1, bind_s, ltt_e, ga_ok (by omega) (by decide)]
    show some (eq_above E1 p + eq_above E2 q, w_equations_s x E2) = _
    rw [a3 p hp hr, b3 q hq (Rch_sym hV.g hp hr), zI_add]
  · rw [b2]
    congr 1
    exact ground hV.g hV.bd hp hq hr
theorem op_commute {x : SX8} {y : SX9} (h : Rel x y) (a b c : Int32) : OpL (fX8_commute x a b c) (fX9_commute y a b c) := by
  obtain ⟨P, W, w, hV, hN, hM⟩ := h.1
  have hW := hV.2.2.1
  have hP := hV.2.1
  rcases jour hV hN hM a b c with ⟨k, hk, j8, j9⟩ | ⟨p, q, hp, hq, rfl, rfl, j9, hc, j8⟩
  · refine opL_far h (c12 hk) ?_ ?_
    · unfold fX8_commute
      rw [j8, bind_s, if_neg (c12n hk)]
      exact bind_id (fX8_refused x k)
    · unfold fX9_commute
      rw [j9, bind_s, if_neg (c12n hk)]
      exact bind_id (fX9_far y k)
  · have hone := ones_lt (show W ≤ 11 by omega)
    obtain ⟨y', k1, k2, k3⟩ := comm9 hV.g (at9_MA hM (2 ^ W - 1)) hone hp hq
    have hR := k1.1 x (at9_rel h (nI W) (nI (2 ^ W - 1)))
    rw [Rch_symb hV.g hp hq] at j8
    unfold fX9_commute
    rw [j9, bind_s, if_pos rfl, allThere9 (by omega) hM, bind_s, k2, bind_s]
    by_cases hr : (Rch (2 ^ W - 1) w W (2 ^ q)).testBit p = true
    · rw [if_pos hr] at j8
      rw [if_pos hr, if_neg (show ¬ (1 : Int32) = 0 by decide)]
      obtain ⟨E, e1, e2⟩ := comm8 hV hN hp hq hr
      obtain ⟨u1, u2⟩ := k3 hr
      have t1 := tU_r (t := 2 ^ W - 1) hV.g hV.bd hp hq hr
      have t2 := tU_r (t := 2 ^ W - 1) hV.g hV.bd hq hp (Rch_sym hV.g hp hr)
      have d := bD_r (t := 2 ^ W - 1) hV.g hV.bd hq
      have hLT : ∃ r, fX8_leastTerms (zI (tU (2 ^ W - 1) w W p q + tU (2 ^ W - 1) w W q p)) (eq_below E) c = some r ∧ fX9_partOf (m_commuteUp y') (m_commuteDown y') c = some r := by
        rw [u1, u2, e2]
        by_cases e : p = q
        · rw [if_pos e]
          have z : tU (2 ^ W - 1) w W p q + tU (2 ^ W - 1) w W q p = 0 := by
            unfold tU
            rw [if_pos e, if_pos e.symm]
            rfl
          rw [z]
          exact LT0 d.1 d.2 c
        · rw [if_neg e]
          exact LT (by omega) (by omega) d.1 d.2 c
      obtain ⟨r, r8, r9⟩ := hLT
      refine ⟨r, w_equations_s x E, y', ?_, ?_, rel_eq hR E⟩
      · unfold fX8_commute
        rw [j8, bind_s, if_pos rfl, e1, bind_s]
        show (fX8_leastTerms (zI (tU (2 ^ W - 1) w W p q + tU (2 ^ W - 1) w W q p)) (eq_below E) c).bind _ = _
        rw [r8, bind_s]
      · rw [r9, bind_s]
    · rw [if_neg hr] at j8
      rw [if_neg hr, if_pos rfl]
      refine opL_far hR (c := -3) (by decide) ?_ (bind_id _)
      unfold fX8_commute
      rw [j8, bind_s, if_neg (by decide)]
      exact bind_id (fX8_refused x (-3))
