/-! ahead -/
def aend (pa pd : Int32) (Y : SX9) : Option (Int64 × SX9) := (fX9_columnOf Y pa).bind fun o11 => (fX9_det Y o11).bind fun o12 => (fX9_det o12.2 (-1 : Int32)).bind fun o13 => (fX9_partOf o12.1 o13.1 pd).bind fun o14 => some (o14, o13.2)
theorem ah_loop {y : SX9} {P A t : Nat} {w : Nat → Wy} (hV : GV P A w) (hM : MA y P A t w) (ht : t < 2 ^ 31) {pa pb pd : Int32} {one : Nat} (ho : one < 6) {a : Nat → Int32} {O n : Nat} (hO : O < 64) (hn : n = ct O 6) (ha : ∀ i, i < n → a i = nI (el O i)) {mx ds : Nat → Int64} {u e : Int64} : ∀ (d fu i : Nat) (rg : Nat → Int64), i + d = n → d < fu → (∀ j, j < i → rg j = zI (bt t w (el O j) one A : Int)) → ∃ rg' : Nat → Int64, qX9_ahead_139 pa pb (nI one) pd fu (ms9 y a (nI n) mx rg ds u e) (nI i) = aend pa pd (ms9 y a (nI n) mx rg' ds u e) ∧ ∀ j, j < n → rg' j = zI (bt t w (el O j) one A : Int) := by
  have hn6 : n ≤ 6 := by rw [hn]; exact fin_ctb O hO 6 (by omega)
  have hA := hV.2.2.1
  intro d
  induction d with
  | zero =>
    intro fu i rg h1 h2 h3
    match fu, h2 with
    | fu + 1, _ =>
      have hi : i = n := by omega
      subst hi
      refine ⟨rg, ?_, h3⟩
      unfold qX9_ahead_139 aend
      rw [mg_innerMany, if_pos (nI_le (Nat.le_refl i) (by omega))]
  | succ d ih =>
    intro fu i rg h1 h2 h3
    match fu, h2 with
    | fu + 1, h2 =>
      have hb := bt_b (t := t) (x := el O i) (z := one) hV A (Nat.le_refl A)
      obtain ⟨rg', q1, q2⟩ := ih fu (i + 1) (vp_updL rg i (zI (bt t w (el O i) one A : Int))) (by omega) (by omega) (fun j hj => by
        by_cases e : j = i
        · rw [e, updL_s]
        · rw [updL_n e]; exact h3 j (by omega))
      refine ⟨rg', ?_, q2⟩
      unfold qX9_ahead_139
      rw [mg_innerMany, if_neg (nI_ge (by omega) (by omega)), ga_ok (by omega) (by decide), mg_inner, ha i (by omega), between9 hV (ms_ma hM _ _ _ _ _ _ _) ht (fin_eli O hO i (by omega)).1 ho, bind_s, zI_n (by omega), ltt_e, ga_ok (by omega) (by decide), ltt_e, mg_right, ms_right, ltt_e, nI_1, q1]
theorem aend9 {y : SX9} {O n x : Nat} {a : Nat → Int32} {mx rg ds : Nat → Int64} {u e : Int64} (hO : O < 64) (hn : n = ct O 6) (ha : ∀ i, i < n → a i = nI (el O i)) {M : Nat → Nat → Int} {g : Nat → Int} (hmx : ∀ i j, i < n → j < n → mx (6 * i + j) = zI (M i j)) (hrg : ∀ i, i < n → rg i = zI (g i)) (hx : x < 6) (hb : O.testBit x = true) (pd : Int32) : ∃ ds' : Nat → Int64, aend (nI x) pd (ms9 y a (nI n) mx rg ds u e) = (fX9_partOf (zI (Xk M n (ct O x) g)) (zI (dt n M)) pd).bind fun o14 => some (o14, ms9 y a (nI n) mx rg ds' u e) := by
  have hn6 : n ≤ 6 := by rw [hn]; exact fin_ctb O hO 6 (by omega)
  obtain ⟨f1, f2⟩ := fin_el O hO x hx hb
  obtain ⟨ds1, q1⟩ := det9 (y := y) (a := a) (mx := mx) (rg := rg) (ds := ds) (u := u) (e := e) (C := rc (ct O x) g M) (other := nI (ct O x)) hn6 (fun i j hi hj => by
    unfold rc
    by_cases e : j = ct O x
    · rw [if_pos (by rw [e]), if_pos e]; exact hrg i hi
    · rw [if_neg (fun z => e ((nI_eq (by omega) (by omega)).mp z)), if_neg e]; exact hmx i j hi hj)
  obtain ⟨ds2, q2⟩ := det9 (y := y) (a := a) (mx := mx) (rg := rg) (ds := ds1) (u := u) (e := e) (C := M) (other := -1) hn6 (fun i j hi hj => by rw [if_neg (neg1_ne (by omega))]; exact hmx i j hi hj)
  refine ⟨ds2, ?_⟩
  unfold aend
  rw [columnOf9 hO hx hb (fun i hi => by rw [mg_inner]; exact ha i (by omega)), bind_s, q1, bind_s, q2, bind_s]
  rfl
theorem fin_l1 : fX8_leastTerms 1 1 0 = some 1 ∧ fX8_leastTerms 1 1 1 = some 1 ∧ fX8_leastTerms 0 1 0 = some 0 ∧ fX8_leastTerms 0 1 1 = some 1 := by decide +kernel
theorem op_ahead {x : SX8} {y : SX9} (h : Rel x y) (a g o c : Int32) : OpL (fX8_ahead x a g o c) (fX9_ahead y a g o c) := by
  have n1 : ¬ (1 : Int32) = 0 := by decide
  obtain ⟨P, W, w, hV, hN, hM⟩ := h.1
  have hW := hV.2.2.1
  have hP := hV.2.1
  have h64 := p2_64 hP
  have hfar : ∀ k : Int32, ¬ k = 0 → fX8_refusalOfGoals x a g o c = some k → fX8_ahead x a g o c = fX8_refused x k := fun k hk hr => by
    unfold fX8_ahead
    rw [hr, bind_s, if_neg hk]
    exact bind_id (fX8_refused x k)
  by_cases hpt : (0 ≤ a.toInt ∧ a.toInt < P) ∧ (0 ≤ o.toInt ∧ o.toInt < P)
  · obtain ⟨ha, ho⟩ := hpt
    have e8 : fX8_refusalOfGoals x a g o c = (if (0 : Int32) ≤ g then (if g ≤ nI (2 ^ P - 1) then (if c = 0 ∨ c = 1 then (fX8_has g o).bind fun o6 => (if o6 = (0 : Int32) then some (-3 : Int32) else (fX3_allWays (w_net x)).bind fun o7 => (fX3_reached (w_net x) ((1 : Int32) <<< (a &&& 31)) o7).bind fun o8 => (if (o8 &&& g) = (0 : Int32) then some (-3 : Int32) else some (0 : Int32))) else some (-2)) else some (-6)) else some (-4)) := by
      unfold fX8_refusalOfGoals
      rw [isPoint8 hN.1 (by omega), if_pos ha, bind_s, if_neg n1, isPoint8 hN.1 (by omega), if_pos ho, bind_s, if_neg n1, allPoints8 hP hN, bind_s, rON, bind_s]
      by_cases g0 : (0 : Int32) ≤ g
      · rw [if_pos g0, if_pos g0]
        by_cases g1 : g ≤ nI (2 ^ P - 1)
        · rw [if_pos g1, if_pos g1, if_pos rfl, isPart8, bind_s]
          by_cases hc : c = 0 ∨ c = 1
          · rw [if_pos hc, if_pos hc, if_neg n1]
          · rw [if_neg hc, if_neg hc, if_pos rfl]
        · rw [if_neg g1, if_neg g1, if_neg (by decide)]
      · rw [if_neg g0, if_neg g0, if_neg (by decide)]
    have e9 : fX9_ahead y a g o c = (if (0 : Int32) ≤ g then (if g ≤ nI (2 ^ P - 1) then (if c = 0 ∨ c = 1 then (fX9_reach (at9 y (nI W) (nI (2 ^ W - 1))) a).bind fun o6 => (fX9_has g o).bind fun o7 => (if o7 = (0 : Int32) then fX9_far (at9 y (nI W) (nI (2 ^ W - 1))) (-3) else (if (o6 &&& g) = (0 : Int32) then fX9_far (at9 y (nI W) (nI (2 ^ W - 1))) (-3) else (fX9_has g a).bind fun o9 => (if o9 = (0 : Int32) then (fX9_within (at9 y (nI W) (nI (2 ^ W - 1))) (o6 &&& (g ^^^ (-1 : Int32)))).bind fun o10 => qX9_ahead_139 a g o c FU o10 (0 : Int32) else (if c = (1 : Int32) then some ((1 : Int64), at9 y (nI W) (nI (2 ^ W - 1))) else (if a = o then some ((1 : Int64), at9 y (nI W) (nI (2 ^ W - 1))) else some ((0 : Int64), at9 y (nI W) (nI (2 ^ W - 1)))))))) else fX9_far y (-2)) else fX9_far y (-6)) else fX9_far y (-4)) := by
      unfold fX9_ahead qX9_ahead_94 qX9_ahead_120
      rw [isPoint9 hM.1 (by omega), if_pos ha, bind_s, if_neg n1, isPoint9 hM.1 (by omega), if_pos ho, bind_s, if_neg n1, hM.1, fin_sh1 P (by omega)]
      by_cases g0 : (0 : Int32) ≤ g
      · rw [if_pos g0, if_pos g0]
        have hgg : (g < nI (2 ^ P)) ↔ g ≤ nI (2 ^ P - 1) := by
          have := Nat.two_pow_pos P
          rw [i32_lt, i32_le, nI_toInt (by omega), nI_toInt (by omega)]
          omega
        by_cases g1 : g ≤ nI (2 ^ P - 1)
        · rw [if_pos (hgg.mpr g1), if_pos g1, isPart9, bind_s]
          by_cases hc : c = 0 ∨ c = 1
          · rw [if_pos hc, if_pos hc, if_neg n1, allThere9 (by omega) hM, bind_s, bind_id (fX9_far (at9 y (nI W) (nI (2 ^ W - 1))) (-3))]
          · rw [if_neg hc, if_neg hc, if_pos rfl]
            exact bind_id _
        · rw [if_neg (fun z => g1 (hgg.mp z)), if_neg g1]
          exact bind_id _
      · rw [if_neg g0, if_neg g0]
        exact bind_id _
    rw [e9]
    by_cases g0 : (0 : Int32) ≤ g
    · rw [if_pos g0] at e8 ⊢
      by_cases g1 : g ≤ nI (2 ^ P - 1)
      · rw [if_pos g1] at e8 ⊢
        by_cases hc : c = 0 ∨ c = 1
        · rw [if_pos hc] at e8 ⊢
          obtain ⟨p, hp, rfl⟩ := isPt ha
          obtain ⟨q, hq, rfl⟩ := isPt ho
          have g0' : 0 ≤ g.toInt := by rw [i32_le] at g0; exact g0
          obtain ⟨G, hG31, rfl, hG2⟩ := i32_nn g0'
          have hGP : G < 2 ^ P := by
            have := Nat.two_pow_pos P
            rw [nI_leI (by omega) (by omega)] at g1
            omega
          have hone := ones_lt (show W ≤ 11 by omega)
          have hMA := at9_MA hM (2 ^ W - 1)
          have hR0 := at9_rel h (nI W) (nI (2 ^ W - 1))
          generalize at9 y (nI W) (nI (2 ^ W - 1)) = y1 at *
          have hRl := Rch_lt (t := 2 ^ W - 1) hV.g (two_lt hp)
          rw [has8 hG31 (by omega), bind_s] at e8
          rw [reach9 hV.g hMA hone hp, bind_s, has9 hG31 (by omega), bind_s]
          by_cases hoG : G.testBit q = true
          · rw [if_pos hoG, if_neg n1, allWays8 (by omega) hN, bind_s, fin_sh1 p (by omega), reached8 hV.g hN hone (two_lt hp), bind_s, nI_and] at e8
            rw [if_pos hoG, if_neg n1, nI_and]
            by_cases hz : Rch (2 ^ W - 1) w W (2 ^ p) &&& G = 0
            · rw [hz, if_pos (show nI 0 = (0 : Int32) from rfl)] at e8
              rw [hz, if_pos (show nI 0 = (0 : Int32) from rfl)]
              exact opL_far hR0 (c := -3) (by decide) (hfar _ (by decide) e8) rfl
            · have hlt := lt31 hP (and_lt (b := G) hRl)
              rw [if_neg (nI_ne0 (by omega) hlt)] at e8
              rw [if_neg (nI_ne0 (by omega) hlt), has9 hG31 (by omega), bind_s]
              have a8 : fX8_ahead x (nI p) (nI G) (nI q) c = if G.testBit p = true then (if nI p = nI q then qX8_ahead_41 (nI p) (nI G) (nI q) c x 1 else qX8_ahead_41 (nI p) (nI G) (nI q) c x 0) else (fX0_aheadOf (w_equations x) (w_net x) (nI (2 ^ W - 1)) (nI G) (nI q)).bind fun o4 => ltt ((w_equations_s x o4)) fun xs1 => ga 6 (nI p) fun j1 => (fX8_leastTerms ((eq_above (w_equations xs1)) j1) (eq_below (w_equations xs1)) c).bind fun o5 => some (o5, xs1) := by
                unfold fX8_ahead
                rw [e8, bind_s, if_pos rfl, has8 hG31 (by omega), bind_s]
                by_cases hpG : G.testBit p = true
                · rw [if_pos hpG, if_pos hpG, if_neg n1]
                · rw [if_neg hpG, if_neg hpG, if_pos rfl, allWays8 (by omega) hN, bind_s]
              rw [a8]
              by_cases hpG : G.testBit p = true
              · rw [if_pos hpG, if_pos hpG, if_neg n1]
                obtain ⟨l1, l2, l3, l4⟩ := fin_l1
                unfold qX8_ahead_41
                rcases hc with rfl | rfl
                · rw [if_neg (show ¬ (0 : Int32) = 1 by decide)]
                  by_cases e : nI p = nI q
                  · rw [if_pos e, if_pos e, l1, bind_s]
                    exact ⟨1, x, y1, rfl, rfl, hR0⟩
                  · rw [if_neg e, if_neg e, l3, bind_s]
                    exact ⟨0, x, y1, rfl, rfl, hR0⟩
                · rw [if_pos rfl, l2, l4, bind_s, ite_self]
                  exact ⟨1, x, y1, rfl, rfl, hR0⟩
              · rw [if_neg hpG, if_neg hpG, if_pos rfl]
                obtain ⟨e, he⟩ : ∃ e, (Rch (2 ^ W - 1) w W (2 ^ p) &&& G).testBit e = true := by
                  apply Classical.byContradiction
                  intro hno
                  apply hz
                  apply bit_eq
                  intro k
                  rw [Nat.zero_testBit]
                  exact Bool.eq_false_iff.mpr fun z => hno ⟨k, z⟩
                rw [Nat.testBit_and, Bool.and_eq_true] at he
                have heP : e < P := by
                  apply Classical.byContradiction
                  intro hno
                  rw [bit_hi hGP (by omega)] at he
                  exact absurd he.2 (by decide)
                obtain ⟨b1, b2, b3, b4⟩ := block (t := 2 ^ W - 1) hV.g hV.bd hGP hp heP he.2 he.1 hpG (fun z => (bt (2 ^ W - 1) w z q W : Int))
                have hGC : G &&& Rch (2 ^ W - 1) w W (2 ^ p) < 2 ^ P := and_lt hGP
                have heGC : (G &&& Rch (2 ^ W - 1) w W (2 ^ p)).testBit e = true := by rw [Nat.testBit_and, he.2, he.1]; rfl
                obtain ⟨-, -, D8a, D8b⟩ := sys_Z (t := 2 ^ W - 1) hV.g hV.bd hGP hq hoG
                obtain ⟨-, -, D9a, D9b⟩ := sys_Z (t := 2 ^ W - 1) hV.g hV.bd hGC heP heGC
                have hO8 := op_lt (t := 2 ^ W - 1) hV.g hGP
                have hO9 := op_lt (t := 2 ^ W - 1) hV.g hGC
                have x8 := X_rngZ (t := 2 ^ W - 1) (z := q) hV.g hV.bd hGP hq hoG (ct_lt hO8 (show p < 6 by omega) b2)
                have x9 := X_rngZ (t := 2 ^ W - 1) (z := q) hV.g hV.bd hGC heP heGC (ct_lt hO9 (show p < 6 by omega) b3)
                obtain ⟨E, q1, q2⟩ := ahead8 (t := 2 ^ W - 1) hV.g hN hV.bd hone hGP hq hoG (w_equations x)
                have hOP := op_P (t := 2 ^ W - 1) hV.g hGC
                obtain ⟨aa, mx, rg, w1, w2, w3, w4⟩ := within9 hV.g hMA hone hOP
                obtain ⟨rg', r1, r2⟩ := ah_loop hV.g hMA hone (pa := nI p) (pb := nI G) (pd := c) (one := q) (by omega) hO9 rfl w2 (mx := mx) (ds := m_dets y1) (u := m_up y1) (e := m_down y1) (ct (op (2 ^ W - 1) w W (G &&& Rch (2 ^ W - 1) w W (2 ^ p))) 6) FU 0 rg (by omega) (by have := fin_ctb _ hO9 6 (by omega); unfold FU; omega) (fun j hj => by omega)
                obtain ⟨ds', f1⟩ := aend9 (y := y1) (u := m_up y1) (e := m_down y1) (ds := m_dets y1) hO9 rfl w2 (M := MO (2 ^ W - 1) w W (op (2 ^ W - 1) w W (G &&& Rch (2 ^ W - 1) w W (2 ^ p)))) (g := fun i => (bt (2 ^ W - 1) w (el (op (2 ^ W - 1) w W (G &&& Rch (2 ^ W - 1) w W (2 ^ p))) i) q W : Int)) w3 r2 (show p < 6 by omega) b3 c
                obtain ⟨r, l8, l9⟩ := LTq x8.1 x8.2 D8a D8b x9.1 x9.2 D9a D9b (by rw [Int.mul_comm, b4, Int.mul_comm]) c
                refine ⟨r, w_equations_s x E, ms9 y1 aa (nI (ct (op (2 ^ W - 1) w W (G &&& Rch (2 ^ W - 1) w W (2 ^ p))) 6)) mx rg' ds' (m_up y1) (m_down y1), ?_, ?_, rel_eq (Kp.rel ⟨_, _, _, _, _, _, _, rfl⟩ hR0) E⟩
                · rw [q1, bind_s, ltt_e, ga_ok (by omega) (by decide), show eq_above (w_equations (w_equations_s x E)) p = eq_above E p from rfl, show eq_below (w_equations (w_equations_s x E)) = eq_below E from rfl, q2.1, q2.2 p (by omega), if_pos b2, l8, bind_s]
                · rw [nI_andn, b1, w1, bind_s, show (0 : Int32) = nI 0 from rfl, r1, f1, l9, bind_s]
          · rw [if_neg hoG, if_pos rfl] at e8
            rw [if_neg hoG, if_pos rfl]
            exact opL_far hR0 (c := -3) (by decide) (hfar _ (by decide) e8) rfl
        · rw [if_neg hc] at e8 ⊢
          exact opL_far h (c := -2) (by decide) (hfar _ (by decide) e8) rfl
      · rw [if_neg g1] at e8 ⊢
        exact opL_far h (c := -6) (by decide) (hfar _ (by decide) e8) rfl
    · rw [if_neg g0] at e8 ⊢
      exact opL_far h (c := -4) (by decide) (hfar _ (by decide) e8) rfl
  · refine opL_far h (c := -1) (by decide) (hfar _ (by decide) ?_) ?_
    · unfold fX8_refusalOfGoals
      rw [isPoint8 hN.1 (by omega), bind_s]
      by_cases ha : 0 ≤ a.toInt ∧ a.toInt < P
      · rw [if_pos ha, if_neg n1, isPoint8 hN.1 (by omega), bind_s, if_neg (fun z => hpt ⟨ha, z⟩), if_pos rfl]
      · rw [if_neg ha, if_pos rfl]
    · unfold fX9_ahead qX9_ahead_16
      rw [isPoint9 hM.1 (by omega), bind_s]
      by_cases ha : 0 ≤ a.toInt ∧ a.toInt < P
      · rw [if_pos ha, if_neg n1, isPoint9 hM.1 (by omega), bind_s, if_neg (fun z => hpt ⟨ha, z⟩), if_pos rfl]
        exact bind_id _
      · rw [if_neg ha, if_pos rfl]
        exact bind_id _
