/-! time, steps -/
theorem rel_eq {x : SX8} {y : SX9} (h : Rel x y) (E : SX0) : Rel (w_equations_s x E) y := ⟨h.1, h.2.1, h.2.2.1, h.2.2.2.1, h.2.2.2.2.1, h.2.2.2.2.2.1, h.2.2.2.2.2.2.1, h.2.2.2.2.2.2.2⟩
theorem isPart8 (p : Int32) : fX8_isPart p = some (if p = 0 ∨ p = 1 then 1 else 0) := by
  unfold fX8_isPart qX8_isPart_9
  by_cases h0 : p = 0
  · rw [if_pos h0, if_pos (Or.inl h0)]
  · rw [if_neg h0]
    by_cases h1 : p = 1
    · rw [if_pos h1, if_pos (Or.inr h1)]
    · rw [if_neg h1, if_neg (fun z => by rcases z with z | z; exact h0 z; exact h1 z)]
theorem jour {x : SX8} {y : SX9} {P W : Nat} {w : Nat → Wy} (hV : NV P W w) (hN : NE (w_net x) P W w) (hM : ME y P W w) (a b c : Int32) : (∃ k, (k = -1 ∨ k = -2) ∧ fX8_refusalOfJourney x a b c = some k ∧ fX9_notTwo y a b c = some k) ∨ ∃ p q : Nat, p < P ∧ q < P ∧ a = nI p ∧ b = nI q ∧ fX9_notTwo y a b c = some 0 ∧ (c = 0 ∨ c = 1) ∧ fX8_refusalOfJourney x a b c = some (if (Rch (2 ^ W - 1) w W (2 ^ p)).testBit q = true then 0 else -3) := by
  have n1 : ¬ (1 : Int32) = 0 := by decide
  have hW := hV.2.2.1
  have hP := hV.2.1
  unfold fX8_refusalOfJourney fX9_notTwo qX9_notTwo_16
  rw [isPoint8 hN.1 (by omega), isPoint9 hM.1 (by omega), bind_s, bind_s]
  by_cases ha : 0 ≤ a.toInt ∧ a.toInt < P
  · rw [if_pos ha, if_neg n1, if_neg n1, isPoint8 hN.1 (by omega), isPoint9 hM.1 (by omega), bind_s, bind_s]
    by_cases hb : 0 ≤ b.toInt ∧ b.toInt < P
    · rw [if_pos hb, if_neg n1, if_neg n1, isPart8, isPart9, bind_s, bind_s]
      by_cases hc : c = 0 ∨ c = 1
      · rw [if_pos hc, if_neg n1, if_neg n1]
        obtain ⟨p, hp, rfl, hp2⟩ := i32_nn ha.1
        obtain ⟨q, hq, rfl, hq2⟩ := i32_nn hb.1
        have hpP : p < P := by omega
        refine Or.inr ⟨p, q, hpP, by omega, rfl, rfl, rfl, hc, ?_⟩
        rw [allWays8 (by omega) hN, bind_s, fin_sh1 p (by omega), reached8 hV.g hN (ones_lt (by omega)) (two_lt hpP), bind_s, has8 (lt31 hP (Rch_lt hV.g (two_lt hpP))) (by omega), bind_s]
        by_cases hr : (Rch (2 ^ W - 1) w W (2 ^ p)).testBit q = true
        · rw [if_pos hr, if_pos hr, if_neg n1]
        · rw [if_neg hr, if_neg hr, if_pos rfl]
      · rw [if_neg hc, if_pos rfl, if_pos rfl]
        exact Or.inl ⟨-2, Or.inr rfl, rfl, rfl⟩
    · rw [if_neg hb, if_pos rfl, if_pos rfl]
      exact Or.inl ⟨-1, Or.inl rfl, rfl, rfl⟩
  · rw [if_neg ha, if_pos rfl, if_pos rfl]
    exact Or.inl ⟨-1, Or.inl rfl, rfl, rfl⟩
theorem c12 {k : Int32} (h : k = -1 ∨ k = -2) : k = -1 ∨ k = -2 ∨ k = -3 ∨ k = -4 ∨ k = -6 := by rcases h with h | h <;> simp [h]
theorem c12n {k : Int32} (h : k = -1 ∨ k = -2) : ¬ k = 0 := ref_ne (c12 h)
/-- facts of the system of one end -/
theorem sys_b {P A t b : Nat} {w : Nat → Wy} (hV : GV P A w) (hB : Bd A w) (hb : b < P) : GL (ct (op t w A (2 ^ b)) 6) (MO t w A (op t w A (2 ^ b))) ∧ ct (op t w A (2 ^ b)) 6 ≤ 5 ∧ 0 < dt (ct (op t w A (2 ^ b)) 6) (MO t w A (op t w A (2 ^ b))) ∧ dt (ct (op t w A (2 ^ b)) 6) (MO t w A (op t w A (2 ^ b))) < 2 ^ 48 := by
  have hG := GL_MO (t := t) hV (two_lt hb)
  have hO := op_lt (t := t) hV (two_lt hb)
  have hn : ct (op t w A (2 ^ b)) 6 ≤ 5 := fin_ct5 _ hO b (by have := hV.2.1; omega) (by rw [op_bit]; simp)
  have hD := D_48 (G := 1) hG hn (diag_tot hV hO) (by omega) (by have := hB.1; omega)
  exact ⟨hG, hn, hD.1, hD.2⟩
theorem X_rng {P A t b j : Nat} {w : Nat → Wy} (hV : GV P A w) (hB : Bd A w) (hb : b < P) {g : Nat → Int} (hg : ∀ i, i < ct (op t w A (2 ^ b)) 6 → 0 ≤ g i) (hG : sm (ct (op t w A (2 ^ b)) 6) g ≤ 2 * (sN A (fT w) : Int) + 2) (hj : j < ct (op t w A (2 ^ b)) 6) : 0 ≤ Xk (MO t w A (op t w A (2 ^ b))) (ct (op t w A (2 ^ b)) 6) j g ∧ Xk (MO t w A (op t w A (2 ^ b))) (ct (op t w A (2 ^ b)) 6) j g < 2 ^ 63 := by
  obtain ⟨hGL, hn, -, -⟩ := sys_b (t := t) hV hB hb
  have hO := op_lt (t := t) hV (two_lt hb)
  have hq := diag_tot (t := t) hV hO
  generalize op t w A (2 ^ b) = O at *
  obtain ⟨k, hk⟩ : ∃ k, ct O 6 = k + 1 := ⟨ct O 6 - 1, by omega⟩
  have h := num_X (r := j) (k := k) hGL hn hq hg (G := 2 * sN A (fT w) + 2) (by omega) (Bd_NC hB) (by omega) (by omega)
  rw [hk]
  refine ⟨h.1, ?_⟩
  have hd := (Iv_all hGL k (by omega)).1
  have := mm (show (1 : Int) ≤ dt k (MO t w A O) by omega) (Int.le_refl _) h.1 (by omega)
  omega
theorem ct_lt {O x : Nat} (hO : O < 64) (hx : x < 6) (hb : O.testBit x = true) : ct O x < ct O 6 := (fin_el O hO x hx hb).2
theorem tm_core {P A t p q : Nat} {w : Nat → Wy} (hV : GV P A w) (hB : Bd A w) (hp : p < P) (hq : q < P) (c : Int32) {E : SX0} (hSL : SL E t w A (2 ^ q) (du t w (fK c w) A)) {y' : SX9} (hr : (Rch t w A (2 ^ q)).testBit p = true) (h1 : p ≠ q → m_up y' = zI (Xk (MO t w A (op t w A (2 ^ q))) (ct (op t w A (2 ^ q)) 6) (ct (op t w A (2 ^ q)) p) (fun i => du t w (fK c w) A (el (op t w A (2 ^ q)) i))) ∧ m_down y' = zI (dt (ct (op t w A (2 ^ q)) 6) (MO t w A (op t w A (2 ^ q))))) (h2 : p = q → m_up y' = 0 ∧ m_down y' = 1) (hsum : sN A (fK c w) ≤ sN A (fT w)) (part : Int32) : ∃ r, fX8_leastTerms (eq_above E p) (eq_below E) part = some r ∧ fX9_partOf (m_up y') (m_down y') part = some r := by
  have hP := hV.2.1
  have hO := op_lt (t := t) hV (two_lt hq)
  obtain ⟨-, -, hD1, hD2⟩ := sys_b (t := t) hV hB hq
  rw [hSL.1, hSL.2 p (by omega)]
  by_cases e : p = q
  · obtain ⟨u1, u2⟩ := h2 e
    rw [u1, u2, if_neg (by rw [op_bit, e]; simp)]
    exact LT0 hD1 hD2 part
  · obtain ⟨u1, u2⟩ := h1 e
    have hb : (op t w A (2 ^ q)).testBit p = true := by
      rw [op_bit, hr]
      simp
      exact fun z => e z.symm
    have hx := X_rng (t := t) (j := ct (op t w A (2 ^ q)) p) hV hB hq (g := fun i => du t w (fK c w) A (el (op t w A (2 ^ q)) i)) (fun i _ => du_1 _) (by have := du_tot (t := t) hV (fK c w) hO; omega) (ct_lt hO (by omega) hb)
    rw [u1, u2, if_pos hb]
    exact LT (by omega) hx.2 hD1 hD2 part
theorem fK0 (w : Nat → Wy) : fK 0 w = fT w := funext fun _ => if_pos rfl
theorem fK1 (w : Nat → Wy) : fK 1 w = fS w := funext fun _ => if_neg (by decide)
theorem timed9 {y : SX9} {P W : Nat} {w : Nat → Wy} (hV : NV P W w) (hM : ME y P W w) {p q : Nat} (hp : p < P) (hq : q < P) (part c : Int32) (h0 : fX9_notTwo y (nI p) (nI q) part = some 0) : ∃ y', Kp (at9 y (nI W) (nI (2 ^ W - 1))) y' ∧ fX9_timed y (nI p) (nI q) part c = (if (Rch (2 ^ W - 1) w W (2 ^ q)).testBit p = true then (fX9_partOf (m_up y') (m_down y') part).bind (fun o5 => some (o5, y')) else fX9_far y' (-3)) ∧ ((Rch (2 ^ W - 1) w W (2 ^ q)).testBit p = true → p ≠ q → m_up y' = zI (Xk (MO (2 ^ W - 1) w W (op (2 ^ W - 1) w W (2 ^ q))) (ct (op (2 ^ W - 1) w W (2 ^ q)) 6) (ct (op (2 ^ W - 1) w W (2 ^ q)) p) (fun i => du (2 ^ W - 1) w (fK c w) W (el (op (2 ^ W - 1) w W (2 ^ q)) i))) ∧ m_down y' = zI (dt (ct (op (2 ^ W - 1) w W (2 ^ q)) 6) (MO (2 ^ W - 1) w W (op (2 ^ W - 1) w W (2 ^ q))))) ∧ (p = q → m_up y' = 0 ∧ m_down y' = 1) := by
  have hW := hV.2.2.1
  obtain ⟨y', k1, k2, k3, k4⟩ := find9 hV.g (at9_MA hM (2 ^ W - 1)) (ones_lt (by omega)) hp hq c
  refine ⟨y', k1, ?_, k3, k4⟩
  unfold fX9_timed
  rw [h0, bind_s, if_pos rfl, allThere9 (by omega) hM, bind_s, k2, bind_s]
  by_cases hr : (Rch (2 ^ W - 1) w W (2 ^ q)).testBit p = true
  · rw [if_pos hr, if_pos hr, if_neg (show ¬ (1 : Int32) = 0 by decide)]
  · rw [if_neg hr, if_neg hr, if_pos rfl]
    exact bind_id (fX9_far y' (-3))
theorem op_time {x : SX8} {y : SX9} (h : Rel x y) (a b c : Int32) : OpL (fX8_time x a b c) (fX9_time y a b c) := by
  obtain ⟨P, W, w, hV, hN, hM⟩ := h.1
  have hW := hV.2.2.1
  have hP := hV.2.1
  have e9 : fX9_time y a b c = fX9_timed y a b c 0 := bind_id _
  rw [e9]
  rcases jour hV hN hM a b c with ⟨k, hk, j8, j9⟩ | ⟨p, q, hp, hq, rfl, rfl, j9, hc, j8⟩
  · refine opL_far h (c12 hk) ?_ ?_
    · unfold fX8_time
      rw [j8, bind_s, if_neg (c12n hk)]
      exact bind_id (fX8_refused x k)
    · unfold fX9_timed
      rw [j9, bind_s, if_neg (c12n hk)]
      exact bind_id (fX9_far y k)
  · obtain ⟨y', k1, k2, k3, k4⟩ := timed9 hV hM hp hq c 0 j9
    have hR := k1.rel (at9_rel h (nI W) (nI (2 ^ W - 1)))
    rw [k2]
    rw [Rch_symb hV.g hp hq] at j8
    by_cases hr : (Rch (2 ^ W - 1) w W (2 ^ q)).testBit p = true
    · rw [if_pos hr] at j8 ⊢
      obtain ⟨E, q1, q2⟩ := times8 (t := 2 ^ W - 1) hV.g hN hV.bd (ones_lt (by omega)) hq (w_equations x)
      rw [← fK0 w] at q2
      obtain ⟨r, r8, r9⟩ := tm_core hV.g hV.bd hp hq 0 q2 hr (k3 hr) k4 (by rw [fK0]; exact Nat.le_refl _) c
      refine ⟨r, w_equations_s x E, y', ?_, ?_, rel_eq hR E⟩
      · unfold fX8_time
        rw [j8, bind_s, if_pos rfl, allWays8 (by omega) hN, bind_s, q1, bind_s, ltt_e, ga_ok (by omega) (by decide)]
        show (fX8_leastTerms (eq_above E p) (eq_below E) c).bind _ = _
        rw [r8, bind_s]
      · rw [r9, bind_s]
    · rw [if_neg hr] at j8 ⊢
      refine opL_far hR (c := -3) (by decide) ?_ rfl
      unfold fX8_time
      rw [j8, bind_s, if_neg (by decide)]
      exact bind_id (fX8_refused x (-3))
theorem op_steps {x : SX8} {y : SX9} (h : Rel x y) (a b c : Int32) : OpL (fX8_steps x a b c) (fX9_steps y a b c) := by
  obtain ⟨P, W, w, hV, hN, hM⟩ := h.1
  have hW := hV.2.2.1
  have hP := hV.2.1
  have e9 : fX9_steps y a b c = fX9_timed y a b c 1 := bind_id _
  rw [e9]
  rcases jour hV hN hM a b c with ⟨k, hk, j8, j9⟩ | ⟨p, q, hp, hq, rfl, rfl, j9, hc, j8⟩
  · refine opL_far h (c12 hk) ?_ ?_
    · unfold fX8_steps
      rw [j8, bind_s, if_neg (c12n hk)]
      exact bind_id (fX8_refused x k)
    · unfold fX9_timed
      rw [j9, bind_s, if_neg (c12n hk)]
      exact bind_id (fX9_far y k)
  · obtain ⟨y', k1, k2, k3, k4⟩ := timed9 hV hM hp hq c 1 j9
    have hR := k1.rel (at9_rel h (nI W) (nI (2 ^ W - 1)))
    rw [k2]
    rw [Rch_symb hV.g hp hq] at j8
    by_cases hr : (Rch (2 ^ W - 1) w W (2 ^ q)).testBit p = true
    · rw [if_pos hr] at j8 ⊢
      obtain ⟨E, q1, q2⟩ := steps8 (t := 2 ^ W - 1) hV.g hN hV.bd (ones_lt (by omega)) hq (w_equations x)
      rw [← fK1 w] at q2
      obtain ⟨r, r8, r9⟩ := tm_core hV.g hV.bd hp hq 1 q2 hr (k3 hr) k4 (by rw [fK1]; exact sST hV.g W (Nat.le_refl W)) c
      refine ⟨r, w_equations_s x E, y', ?_, ?_, rel_eq hR E⟩
      · unfold fX8_steps
        rw [j8, bind_s, if_pos rfl, allWays8 (by omega) hN, bind_s, q1, bind_s, ltt_e, ga_ok (by omega) (by decide)]
        show (fX8_leastTerms (eq_above E p) (eq_below E) c).bind _ = _
        rw [r8, bind_s]
      · rw [r9, bind_s]
    · rw [if_neg hr] at j8 ⊢
      refine opL_far hR (c := -3) (by decide) ?_ rfl
      unfold fX8_steps
      rw [j8, bind_s, if_neg (by decide)]
      exact bind_id (fX8_refused x (-3))
