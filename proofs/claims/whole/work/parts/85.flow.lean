/-! visits, resistance, flow -/
theorem Xk_0 {A : Nat → Nat → Int} {k j : Nat} {g : Nat → Int} (hj : j < k) (h : ∀ i, i < k → g i = 0) : Xk A k j g = 0 := by
  unfold Xk
  refine dt_zc k j _ hj (fun i hi => ?_)
  unfold rc
  rw [if_pos rfl, h i hi]
theorem un_el {O p i : Nat} (hO : O < 64) (hp : p < 6) (hb : O.testBit p = true) (hi : i < ct O 6) : un p (el O i) = un (ct O p) i := by
  obtain ⟨f1, f2⟩ := fin_el O hO p hp hb
  unfold un
  by_cases e : i = ct O p
  · rw [e, f1, if_pos rfl, if_pos rfl]
  · rw [if_neg e, if_neg (fun z => e (el_inj hO hi f2 (z.trans f1.symm)))]
theorem un_out {O p i : Nat} (hO : O < 64) (hb : ¬ O.testBit p = true) (hi : i < ct O 6) : un p (el O i) = 0 := by
  unfold un
  refine if_neg fun z => hb ?_
  have := (fin_eli O hO i hi).2.1
  rw [z] at this
  exact this
theorem X_urng {P A t b i j : Nat} {w : Nat → Wy} (hV : GV P A w) (hB : Bd A w) (hb : b < P) (hi : i < ct (op t w A (2 ^ b)) 6) (hj : j < ct (op t w A (2 ^ b)) 6) : 0 ≤ Xk (MO t w A (op t w A (2 ^ b))) (ct (op t w A (2 ^ b)) 6) j (un i) ∧ Xk (MO t w A (op t w A (2 ^ b))) (ct (op t w A (2 ^ b)) 6) j (un i) < 2 ^ 48 := by
  obtain ⟨hGL, hn, hD, -⟩ := sys_b (t := t) hV hB hb
  have hO := op_lt (t := t) hV (two_lt hb)
  have hq := diag_tot (t := t) hV hO
  generalize op t w A (2 ^ b) = O at *
  have h0 := ((Iv_all hGL (ct O 6) (Nat.le_refl _)).2.2.2.1 (un i) (fun l _ => by unfold un; split <;> omega)).2 j hj
  refine ⟨h0, ?_⟩
  generalize ct O 6 = n at *
  obtain ⟨m, rfl⟩ : ∃ m, n = m + 1 := ⟨n - 1, by omega⟩
  have h1 := X_max hGL (show i ≤ m by omega) (show j ≤ m by omega)
  rw [un_rc (show i ≤ m by omega)] at h1
  have hBd := GL_del hGL (show i ≤ m by omega)
  have hqB : sm m (fun l => dr i (dc i (MO t w A O)) l l) ≤ ((2 * (sN A (fS w) + 1) : Nat) : Int) := by
    have e := sm_skip (show i ≤ m by omega) (fun l => MO t w A O l l)
    have e3 : sm m (fun l => dr i (dc i (MO t w A O)) l l) = sm m (fun q => MO t w A O (if q < i then q else q + 1) (if q < i then q else q + 1)) := rfl
    have := gl_diag hGL (show i < m + 1 by omega)
    omega
  have := D_48 (G := 1) hBd (by omega) hqB (by omega) (by have := hB.1; omega)
  omega
theorem share_eq {P A t p q s : Nat} {w : Nat → Wy} (hV : GV P A w) (hB : Bd A w) (hp : p < P) (hq : q < P) (hs : s < P) (hr : (Rch t w A (2 ^ q)).testBit p = true) (hpq : p ≠ q) {E : SX0} (hSL : SL E t w A (2 ^ q) (un p)) : ∃ v : Int, 0 ≤ v ∧ v < 2 ^ 48 ∧ eq_above E s = zI v ∧ (if (op t w A (2 ^ q)).testBit s = true then zI (Xk (MO t w A (op t w A (2 ^ q))) (ct (op t w A (2 ^ q)) 6) (ct (op t w A (2 ^ q)) p) (un (ct (op t w A (2 ^ q)) s))) else 0) = zI v := by
  have hP := hV.2.1
  have hO := op_lt (t := t) hV (two_lt hq)
  obtain ⟨hGL, hn, hD, -⟩ := sys_b (t := t) hV hB hq
  have hbp : (op t w A (2 ^ q)).testBit p = true := by
    rw [op_bit, hr]
    simp
    exact fun z => hpq z.symm
  by_cases hb : (op t w A (2 ^ q)).testBit s = true
  · have hx := X_urng (t := t) hV hB hq (ct_lt hO (show s < 6 by omega) hb) (ct_lt hO (show p < 6 by omega) hbp)
    refine ⟨_, hx.1, hx.2, ?_, if_pos hb⟩
    rw [hSL.2 s (by omega), if_pos hb]
    congr 1
    rw [adj_sym hGL.1 (by omega) (ct_lt hO (show s < 6 by omega) hb) (ct_lt hO (show p < 6 by omega) hbp)]
    exact Xk_cg fun i hi => un_el hO (by omega) hbp hi
  · exact ⟨0, by decide, by decide, by rw [hSL.2 s (by omega), if_neg hb]; rfl, if_neg hb⟩
theorem resi9 {y : SX9} {P A t : Nat} {w : Nat → Wy} (hV : GV P A w) (hM : MA y P A t w) (ht : t < 2 ^ 31) {a b : Nat} (ha : a < P) (hb : b < P) : ∃ y', Kp y y' ∧ fX9_findResistance y (nI a) (nI b) = some (if (Rch t w A (2 ^ b)).testBit a = true then 1 else 0, y') ∧ ((Rch t w A (2 ^ b)).testBit a = true → a ≠ b → m_up y' = (if (op t w A (2 ^ b)).testBit a = true then zI (Xk (MO t w A (op t w A (2 ^ b))) (ct (op t w A (2 ^ b)) 6) (ct (op t w A (2 ^ b)) a) (un (ct (op t w A (2 ^ b)) a))) else 0) ∧ m_down y' = zI (dt (ct (op t w A (2 ^ b)) 6) (MO t w A (op t w A (2 ^ b))))) ∧ (a = b → m_up y' = 0 ∧ m_down y' = 1) := by
  have hP := hV.2.1
  obtain ⟨y2, hz, hK, hMz, hu0, hd1⟩ : ∃ y2, m_down_s (m_up_s y 0) 1 = y2 ∧ Kp y y2 ∧ MA y2 P A t w ∧ m_up y2 = 0 ∧ m_down y2 = 1 := by
    have h := congrArg (fun z => m_down_s (m_up_s z 0) 1) (ms_0 y)
    rw [ms_up, ms_down] at h
    exact ⟨_, h, ⟨_, _, _, _, _, _, _, rfl⟩, ms_ma hM _ _ _ _ _ _ _, rfl, rfl⟩
  by_cases hab : a = b
  · subst hab
    refine ⟨y2, hK, ?_, fun _ h => absurd rfl h, fun _ => ⟨hu0, hd1⟩⟩
    unfold fX9_findResistance
    rw [ltt_e, ltt_e, hz, if_pos rfl, if_pos (Rch_start (by rw [two_bit]; simp))]
  · have hne : ¬ nI a = nI b := fun z => hab ((nI_eq (by omega) (by omega)).mp z)
    have hR := lt31 hP (Rch_lt (t := t) hV (two_lt ha))
    have hsy := Rch_symb (t := t) hV ha hb
    by_cases hr : (Rch t w A (2 ^ b)).testBit a = true
    · obtain ⟨y3, d1, d2, d3, d4⟩ := down9 hV hMz ht hb
      obtain ⟨y4, s1, s2, s3, s4⟩ := share9 hV (d1.ma hMz) ht ha hb ha hr hab
      obtain ⟨aa, n, mx, rg, ds, u, d, hy4⟩ := s1
      refine ⟨m_up_s y4 (if (op t w A (2 ^ b)).testBit a = true then zI (Xk (MO t w A (op t w A (2 ^ b))) (ct (op t w A (2 ^ b)) 6) (ct (op t w A (2 ^ b)) a) (un (ct (op t w A (2 ^ b)) a))) else 0), ?_, ?_, fun _ _ => ⟨rfl, s4.trans d4⟩, fun h => absurd h hab⟩
      · refine (hK.trans d1).trans ?_
        rw [hy4, ms_up]
        exact ⟨_, _, _, _, _, _, _, rfl⟩
      · unfold fX9_findResistance
        rw [ltt_e, ltt_e, hz, if_neg hne, reach9 hV hMz ht ha, bind_s, has9 hR (by omega), hsy, if_pos hr, bind_s, if_neg (show ¬ (1 : Int32) = 0 by decide), d2, bind_s, s2, bind_s, ltt_e]
    · refine ⟨y2, hK, ?_, fun h => absurd h hr, fun h => absurd h hab⟩
      unfold fX9_findResistance
      rw [ltt_e, ltt_e, hz, if_neg hne, reach9 hV hMz ht ha, bind_s, has9 hR (by omega), hsy, if_neg hr, bind_s, if_pos rfl]
theorem op_resistance {x : SX8} {y : SX9} (h : Rel x y) (a b c : Int32) : OpL (fX8_resistance x a b c) (fX9_resistance y a b c) := by
  obtain ⟨P, W, w, hV, hN, hM⟩ := h.1
  have hW := hV.2.2.1
  have hP := hV.2.1
  rcases jour hV hN hM a b c with ⟨k, hk, j8, j9⟩ | ⟨p, q, hp, hq, rfl, rfl, j9, hc, j8⟩
  · refine opL_far h (c12 hk) ?_ ?_
    · unfold fX8_resistance
      rw [j8, bind_s, if_neg (c12n hk)]
      exact bind_id (fX8_refused x k)
    · unfold fX9_resistance
      rw [j9, bind_s, if_neg (c12n hk)]
      exact bind_id (fX9_far y k)
  · have hone := ones_lt (show W ≤ 11 by omega)
    obtain ⟨y', k1, k2, k3, k4⟩ := resi9 hV.g (at9_MA hM (2 ^ W - 1)) hone hp hq
    have hR := k1.rel (at9_rel h (nI W) (nI (2 ^ W - 1)))
    rw [Rch_symb hV.g hp hq] at j8
    unfold fX9_resistance
    rw [j9, bind_s, if_pos rfl, allThere9 (by omega) hM, bind_s, k2, bind_s]
    by_cases hr : (Rch (2 ^ W - 1) w W (2 ^ q)).testBit p = true
    · rw [if_pos hr] at j8
      rw [if_pos hr, if_neg (show ¬ (1 : Int32) = 0 by decide)]
      obtain ⟨E, q1, q2⟩ := current8 (t := 2 ^ W - 1) hV.g hN hV.bd hone hp hq (w_equations x)
      obtain ⟨-, -, hD1, hD2⟩ := sys_b (t := 2 ^ W - 1) hV.g hV.bd hq
      have hLT : ∃ r, fX8_leastTerms (eq_above E p) (eq_below E) c = some r ∧ fX9_partOf (m_up y') (m_down y') c = some r := by
        by_cases e : p = q
        · obtain ⟨u1, u2⟩ := k4 e
          rw [u1, u2, q2.1, q2.2 p (by omega), if_neg (by rw [op_bit, e]; simp)]
          exact LT0 hD1 hD2 c
        · obtain ⟨u1, u2⟩ := k3 hr e
          obtain ⟨v, v1, v2, v3, v4⟩ := share_eq hV.g hV.bd hp hq hp hr e q2
          rw [u1, u2, v3, v4, q2.1]
          exact LT (by omega) (by omega) hD1 hD2 c
      obtain ⟨r, r8, r9⟩ := hLT
      refine ⟨r, w_equations_s x E, y', ?_, ?_, rel_eq hR E⟩
      · unfold fX8_resistance
        rw [j8, bind_s, if_pos rfl, allWays8 (by omega) hN, bind_s, q1, bind_s, ltt_e, ga_ok (by omega) (by decide)]
        show (fX8_leastTerms (eq_above E p) (eq_below E) c).bind _ = _
        rw [r8, bind_s]
      · rw [r9, bind_s]
    · rw [if_neg hr] at j8
      rw [if_neg hr, if_pos rfl]
      refine opL_far hR (c := -3) (by decide) ?_ (bind_id _)
      unfold fX8_resistance
      rw [j8, bind_s, if_neg (by decide)]
      exact bind_id (fX8_refused x (-3))
theorem isPt {P : Nat} {a : Int32} (h : 0 ≤ a.toInt ∧ a.toInt < P) : ∃ p, p < P ∧ a = nI p := by
  obtain ⟨p, hp, rfl, hp2⟩ := i32_nn h.1
  exact ⟨p, by omega, rfl⟩
theorem jr_a {x : SX8} {P W : Nat} {w : Nat → Wy} (hV : NV P W w) (hN : NE (w_net x) P W w) {a b c : Int32} (h : ¬ ((0 ≤ a.toInt ∧ a.toInt < P) ∧ (0 ≤ b.toInt ∧ b.toInt < P))) : fX8_refusalOfJourney x a b c = some (-1) := by
  have n1 : ¬ (1 : Int32) = 0 := by decide
  have hP := hV.2.1
  unfold fX8_refusalOfJourney
  rw [isPoint8 hN.1 (by omega), bind_s]
  by_cases ha : 0 ≤ a.toInt ∧ a.toInt < P
  · rw [if_pos ha, if_neg n1, isPoint8 hN.1 (by omega), bind_s, if_neg (fun z => h ⟨ha, z⟩), if_pos rfl]
  · rw [if_neg ha, if_pos rfl]
theorem jr_c {x : SX8} {P W : Nat} {w : Nat → Wy} (hV : NV P W w) (hN : NE (w_net x) P W w) {p q : Nat} {c : Int32} (hp : p < P) (hq : q < P) (h : ¬ (c = 0 ∨ c = 1)) : fX8_refusalOfJourney x (nI p) (nI q) c = some (-2) := by
  have n1 : ¬ (1 : Int32) = 0 := by decide
  have hP := hV.2.1
  have t1 : (nI p).toInt = p := nI_toInt (by omega)
  have t2 : (nI q).toInt = q := nI_toInt (by omega)
  unfold fX8_refusalOfJourney
  rw [isPoint8 hN.1 (by omega), if_pos (by omega), bind_s, if_neg n1, isPoint8 hN.1 (by omega), if_pos (by omega), bind_s, if_neg n1, isPart8, if_neg h, bind_s, if_pos rfl]
theorem jr_ok {x : SX8} {P W : Nat} {w : Nat → Wy} (hV : NV P W w) (hN : NE (w_net x) P W w) {p q : Nat} {c : Int32} (hp : p < P) (hq : q < P) (h : c = 0 ∨ c = 1) : fX8_refusalOfJourney x (nI p) (nI q) c = some (if (Rch (2 ^ W - 1) w W (2 ^ p)).testBit q = true then 0 else -3) := by
  have n1 : ¬ (1 : Int32) = 0 := by decide
  have hP := hV.2.1
  have hW := hV.2.2.1
  have t1 : (nI p).toInt = p := nI_toInt (by omega)
  have t2 : (nI q).toInt = q := nI_toInt (by omega)
  unfold fX8_refusalOfJourney
  rw [isPoint8 hN.1 (by omega), if_pos (by omega), bind_s, if_neg n1, isPoint8 hN.1 (by omega), if_pos (by omega), bind_s, if_neg n1, isPart8, if_pos h, bind_s, if_neg n1, allWays8 (by omega) hN, bind_s, fin_sh1 p (by omega), reached8 hV.g hN (ones_lt (by omega)) (two_lt hp), bind_s, has8 (lt31 hP (Rch_lt hV.g (two_lt hp))) (by omega), bind_s]
  by_cases hr : (Rch (2 ^ W - 1) w W (2 ^ p)).testBit q = true
  · rw [if_pos hr, if_pos hr, if_neg n1]
  · rw [if_neg hr, if_neg hr, if_pos rfl]
theorem op_flow {x : SX8} {y : SX9} (h : Rel x y) (v a b c : Int32) : OpL (fX8_flow x v a b c) (fX9_flow y v a b c) := by
  have n1 : ¬ (1 : Int32) = 0 := by decide
  obtain ⟨P, W, w, hV, hN, hM⟩ := h.1
  have hW := hV.2.2.1
  have hP := hV.2.1
  have hfar : ∀ k : Int32, ¬ k = 0 → qX8_flow_28 v a b c x k = fX8_refused x k := fun k hk => by
    unfold qX8_flow_28
    rw [if_neg hk]
    exact bind_id (fX8_refused x k)
  unfold fX8_flow fX9_flow qX8_flow_16 qX9_flow_29
  rw [isWay8 hN.2.1 (by omega), isWay9 hM.2.1 (by omega), bind_s, bind_s]
  by_cases hv : 0 ≤ v.toInt ∧ v.toInt < W
  · rw [if_pos hv, if_neg n1, if_neg n1]
    by_cases hpt : (0 ≤ a.toInt ∧ a.toInt < P) ∧ (0 ≤ b.toInt ∧ b.toInt < P)
    · rw [isPoint9 hM.1 (by omega), if_pos hpt.1, bind_s, if_neg n1, isPoint9 hM.1 (by omega), if_pos hpt.2, bind_s, if_neg n1]
      by_cases hab : a = b
      · rw [if_pos hab, if_pos hab, hfar _ (by decide)]
        exact opL_far h (c := -1) (by decide) rfl (bind_id _)
      · rw [if_neg hab, if_neg hab, isPart9, bind_s]
        obtain ⟨p, hp, rfl⟩ := isPt hpt.1
        obtain ⟨q, hq, rfl⟩ := isPt hpt.2
        have hpq : p ≠ q := fun e => hab (by rw [e])
        by_cases hc : c = 0 ∨ c = 1
        · rw [if_pos hc, if_neg n1, jr_ok hV hN hp hq hc, bind_s, allThere9 (by omega) hM, bind_s]
          have hone := ones_lt (show W ≤ 11 by omega)
          have hMA := at9_MA hM (2 ^ W - 1)
          have hR0 := at9_rel h (nI W) (nI (2 ^ W - 1))
          generalize at9 y (nI W) (nI (2 ^ W - 1)) = y1 at *
          rw [reach9 hV.g hMA hone hp, bind_s, has9 (lt31 hP (Rch_lt hV.g (two_lt hp))) (by omega), bind_s]
          by_cases hr : (Rch (2 ^ W - 1) w W (2 ^ p)).testBit q = true
          · rw [if_pos hr, if_pos hr, if_neg n1]
            rw [Rch_symb hV.g hp hq] at hr
            obtain ⟨k, hk, rfl⟩ := isPt hv
            have hOk := hV.2.2.2 k hk
            have hF := hOk.1
            have hS := hOk.2.1
            have hb := wtw_b hOk
            obtain ⟨E, q1, q2⟩ := current8 (t := 2 ^ W - 1) hV.g hN hV.bd hone hp hq (w_equations x)
            obtain ⟨-, -, hD1, hD2⟩ := sys_b (t := 2 ^ W - 1) hV.g hV.bd hq
            obtain ⟨v1, a1, a2, a3, a4⟩ := share_eq hV.g hV.bd hp hq hF hr hpq q2
            obtain ⟨v2, b1, b2, b3, b4⟩ := share_eq hV.g hV.bd hp hq hS hr hpq q2
            obtain ⟨y2, s1, s2, s3, s4⟩ := share9 hV.g hMA hone hp hq hF hr hpq
            obtain ⟨y3, t1, t2, t3, t4⟩ := share9 hV.g (s1.ma hMA) hone hp hq hS hr hpq
            obtain ⟨y4, d1, d2, d3, d4⟩ := down9 hV.g (t1.ma (s1.ma hMA)) hone hq
            have hm1 : (wtw (w k) : Int) * (v1 - v2) ≤ 18 * 2 ^ 48 := by
              have := mm (show (wtw (w k) : Int) ≤ 18 by omega) (show v1 - v2 ≤ 2 ^ 48 by omega)
              by_cases hh : 0 ≤ v1 - v2
              · exact this hh (by decide)
              · have := pn_mul (show (0 : Int) ≤ wtw (w k) by omega) (show v1 - v2 ≤ 0 by omega)
                omega
            have hm2 : -(18 * 2 ^ 48) ≤ (wtw (w k) : Int) * (v1 - v2) := by
              by_cases hh : v1 - v2 ≤ 0
              · have := mm (show (wtw (w k) : Int) ≤ 18 by omega) (show -(v1 - v2) ≤ 2 ^ 48 by omega) (by omega) (by decide)
                rw [Int.mul_neg] at this
                omega
              · have := Int.mul_nonneg (show (0 : Int) ≤ wtw (w k) by omega) (show 0 ≤ v1 - v2 by omega)
                omega
            obtain ⟨r, r8, r9⟩ := LT (a := (wtw (w k) : Int) * (v1 - v2)) (by omega) (by omega) hD1 hD2 c
            refine ⟨r, w_equations_s x E, y4, ?_, ?_, rel_eq (d1.rel (t1.rel (s1.rel hR0))) E⟩
            · unfold qX8_flow_28
              rw [if_pos rfl, allWays8 (by omega) hN, bind_s, q1, bind_s, ltt_e, ga_ok (by omega) (by decide), show w_net (w_equations_s x E) = w_net x from rfl, (hN.2.2 k hk).1, ga_ok (by omega) (by decide), ga_ok (by omega) (by decide), (hN.2.2 k hk).2.1, ga_ok (by omega) (by decide), ltt_e, weight8 (by omega) (hN.2.2 k hk) hOk, bind_s]
              show (fX8_leastTerms ((nI (wtw (w k))).toInt64 * (eq_above E (wF (w k)) - eq_above E (wS (w k)))) (eq_below E) c).bind _ = _
              rw [a3, b3, zI_sub, zI_n (by omega), zI_mul, q2.1, r8, bind_s]
            · rw [ga_ok (by omega) (by decide), show m_first y1 k = nI (wF (w k)) from (hMA.2.2.2 k hk).1, s2, bind_s, ga_ok (by omega) (by decide), show m_second y2 k = nI (wS (w k)) from ((s1.ma hMA).2.2.2 k hk).2.1, t2, bind_s, ltt_e, d2, bind_s, weight9 (by omega) ((d1.ma (t1.ma (s1.ma hMA))).2.2.2 k hk) hOk, bind_s, a4, b4, zI_sub, zI_n (by omega), zI_mul, d4, Int.mul_comm, r9, bind_s]
          · rw [if_neg hr, if_neg hr, if_pos rfl, hfar _ (by decide)]
            exact opL_far hR0 (c := -3) (by decide) rfl (bind_id _)
        · rw [if_neg hc, if_pos rfl, jr_c hV hN hp hq hc, bind_s, hfar _ (by decide)]
          exact opL_far h (c := -2) (by decide) rfl (bind_id _)
    · have e9 : ((fX9_isPoint y a).bind fun o3 => if o3 = 0 then (fX9_far y (-1)).bind fun o2 => some (o2.1, o2.2) else (fX9_isPoint y b).bind fun o4 => if o4 = 0 then (fX9_far y (-1)).bind fun o2 => some (o2.1, o2.2) else if a = b then (fX9_far y (-1)).bind fun o2 => some (o2.1, o2.2) else (fX9_isIn (c.toInt64) (0 : Int64) (1 : Int64)).bind fun o5 => if o5 = 0 then (fX9_far y (-2)).bind fun o15 => some (o15.1, o15.2) else (fX9_allThere y).bind fun o6 => (fX9_reach o6 a).bind fun o7 => (fX9_has o7 b).bind fun o8 => if o8 = 0 then (fX9_far o6 (-3)).bind fun o14 => some (o14.1, o14.2) else ga 11 v fun j1 => (fX9_share o6 a b ((m_first o6) j1)).bind fun o9 => ga 11 v fun j2 => (fX9_share o9.2 a b ((m_second o9.2) j2)).bind fun o10 => ltt ((o9.1 - o10.1)) fun v1 => (fX9_findDown o10.2 b).bind fun o11 => (fX9_weight o11 v).bind fun o12 => (fX9_partOf (v1 * (o12.toInt64)) (m_down o11) c).bind fun o13 => some (o13, o11)) = fX9_far y (-1) := by
        rw [isPoint9 hM.1 (by omega), bind_s]
        by_cases ha : 0 ≤ a.toInt ∧ a.toInt < P
        · rw [if_pos ha, if_neg n1, isPoint9 hM.1 (by omega), bind_s, if_neg (fun z => hpt ⟨ha, z⟩), if_pos rfl]
          exact bind_id _
        · rw [if_neg ha, if_pos rfl]
          exact bind_id _
      refine opL_far h (c := -1) (by decide) ?_ e9
      by_cases hab : a = b
      · rw [if_pos hab, hfar _ (by decide)]
      · rw [if_neg hab, jr_a hV hN hpt, bind_s, hfar _ (by decide)]
  · rw [if_neg hv, if_pos rfl, if_pos rfl, hfar _ (by decide)]
    exact opL_far h (c := -1) (by decide) rfl (bind_id _)
