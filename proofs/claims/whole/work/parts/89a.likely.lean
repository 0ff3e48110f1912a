/-! sure, fast -/
theorem sm_rev (f : Nat → Int) : ∀ n, sm n f = sm n (fun i => f (n - 1 - i)) := by
  have h : ∀ n (f : Nat → Int), sm (n + 1) f = f 0 + sm n (fun i => f (i + 1)) := by
    intro n
    induction n with
    | zero => intro f; rw [sm_s, sm_0, sm_0]; omega
    | succ n ih => intro f; rw [sm_s, ih, sm_s]; omega
  intro n
  induction n with
  | zero => rfl
  | succ n ih =>
    rw [sm_s, ih, h]
    have e : sm n (fun i => f (n + 1 - 1 - (i + 1))) = sm n (fun i => f (n - 1 - i)) := sm_cg fun i hi => by
      congr 1
      omega
    rw [e, show n + 1 - 1 - 0 = n by omega]
    omega
theorem pow_loop {T k : Nat} (hT : T ≤ 20) (hk : k ≤ 6) : ∀ (d fu i : Nat), i + d = k → d < fu → qX8_power_5 (zI T) (nI k) fu (zI ((T : Int) ^ i)) (nI i) = some (zI ((T : Int) ^ k)) := by
  intro d
  induction d with
  | zero =>
    intro fu i h1 h2
    match fu, h2 with
    | fu + 1, _ =>
      have hi : i = k := by omega
      subst hi
      unfold qX8_power_5
      rw [if_pos (nI_le (Nat.le_refl i) (by omega))]
  | succ d ih =>
    intro fu i h1 h2
    match fu, h2 with
    | fu + 1, h2 =>
      unfold qX8_power_5
      rw [if_neg (nI_ge (by omega) (by omega)), zI_mul, ltt_e, ltt_e, nI_1, ← Int.pow_succ, ih fu (i + 1) (by omega) (by omega)]
theorem power8 {T k : Nat} (hT : T ≤ 20) (hk : k ≤ 6) : fX8_power (zI T) (nI k) = some (zI ((T : Int) ^ k)) := by
  unfold fX8_power
  have := pow_loop hT hk k FU 0 (by omega) (by unfold FU; omega)
  rw [show (T : Int) ^ 0 = 1 from rfl] at this
  rw [show (1 : Int64) = zI 1 from rfl, show (0 : Int32) = nI 0 from rfl, this]
theorem fin_bc : ∀ g, g < 64 → fJ6_bitCount_0f7a4 (nI g) = some (nI (ct g 6)) := by decide +kernel
theorem fin_cpl : ∀ n, n < 7 → ∀ s, s < 2 ^ n → ct s 6 + ct (2 ^ n - 1 - s) 6 = n := by decide +kernel
def mn6 (W : Nat) : Nat := if W ≤ 6 then W else 6
theorem fin_mask : ∀ W, W < 11 → ∀ s, s < 2 ^ mn6 W → ((nI (2 ^ W - 1) >>> (nI (mn6 W) &&& 31)) <<< (nI (mn6 W) &&& 31)) ||| nI s = nI (andn (2 ^ W - 1) (2 ^ mn6 W - 1 - s)) := by decide +kernel
/-- whether it comes within mm, by the ways t -/
def CW (t : Nat) (w : Nat → Wy) (W a b : Nat) (mm : Int32) : Prop := (Rch t w W (2 ^ b)).testBit a = true ∧ ((0 : Int32) ≤ mm → a ≠ b → ¬ mm.toInt64 * zI (bD t w W b) < zI (tU t w W a b))
theorem cw8 {x : SX8} {P W : Nat} {w : Nat → Wy} (hV : NV P W w) (hN : NE (w_net x) P W w) {t a b : Nat} (ht : t < 2 ^ 31) (ha : a < P) (hb : b < P) {m : Int32} (hm : m.toInt ≤ 999) (E : SX0) : ∃ E' r, fX8_comesWithin (w_equations_s x E) (nI a) (nI b) m (nI t) = some (r, w_equations_s x E') ∧ ((r = 1 ∧ CW t w W a b m) ∨ (r = 0 ∧ ¬ CW t w W a b m)) := by
  have hW := hV.2.2.1
  have hP := hV.2.1
  have n1 : ¬ (1 : Int32) = 0 := by decide
  unfold fX8_comesWithin
  rw [show w_net (w_equations_s x E) = w_net x from rfl, fin_sh1 a (by omega), reached8 hV.g hN ht (two_lt ha), bind_s, has8 (lt31 hP (Rch_lt hV.g (two_lt ha))) (by omega), bind_s, Rch_symb hV.g ha hb]
  by_cases hr : (Rch t w W (2 ^ b)).testBit a = true
  · rw [if_pos hr, if_neg n1]
    by_cases hm0 : (0 : Int32) ≤ m
    · rw [if_pos hm0]
      obtain ⟨E', q1, q2, q3⟩ := times8T hV.g hN hV.bd ht hb (w_equations (w_equations_s x E))
      rw [q1, bind_s, ltt_e, ga_ok (by omega) (by decide), show eq_below (w_equations (w_equations_s (w_equations_s x E) E')) = eq_below E' from rfl, show eq_above (w_equations (w_equations_s (w_equations_s x E) E')) a = eq_above E' a from rfl, q2, q3 a ha hr]
      by_cases hab : a = b
      · have h0 : tU t w W a b = 0 := if_pos hab
        have d := bD_r (t := t) hV.g hV.bd hb
        have hmn : 0 ≤ m.toInt := by rw [i32_le] at hm0; exact hm0
        have hprod : 0 ≤ m.toInt * bD t w W b ∧ m.toInt * bD t w W b ≤ 999 * 2 ^ 48 := ⟨Int.mul_nonneg hmn (by omega), mm hm (by omega) (by omega) (by decide)⟩
        have hm64 : m.toInt64 = zI m.toInt := by
          apply Int64.toInt_inj.mp
          rw [i32_64, zI_t (by omega) (by omega)]
        rw [h0, hm64, zI_mul, if_neg (by rw [zI_lt (by omega) (by omega) (by decide) (by decide)]; omega)]
        exact ⟨E', 1, rfl, Or.inl ⟨rfl, hr, fun _ z => absurd hab z⟩⟩
      · by_cases hq : m.toInt64 * zI (bD t w W b) < zI (tU t w W a b)
        · rw [if_pos hq]
          exact ⟨E', 0, rfl, Or.inr ⟨rfl, fun z => z.2 hm0 hab hq⟩⟩
        · rw [if_neg hq]
          exact ⟨E', 1, rfl, Or.inl ⟨rfl, hr, fun _ _ => hq⟩⟩
    · rw [if_neg hm0]
      exact ⟨E, 1, rfl, Or.inl ⟨rfl, hr, fun z => absurd z hm0⟩⟩
  · rw [if_neg hr, if_pos rfl]
    exact ⟨E, 0, rfl, Or.inr ⟨rfl, fun z => hr z.1⟩⟩
noncomputable def FG (w : Nat → Wy) (W a b T : Nat) (m : Int32) (g : Nat) : Int := @ite Int (CW (andn (2 ^ W - 1) g) w W a b m) (Classical.propDecidable _) (((T - 1 : Nat) : Int) ^ (mn6 W - ct g 6)) 0
theorem FG_1 {w : Nat → Wy} {W a b T g : Nat} {m : Int32} (h : CW (andn (2 ^ W - 1) g) w W a b m) : FG w W a b T m g = ((T - 1 : Nat) : Int) ^ (mn6 W - ct g 6) := by
  unfold FG
  rw [if_pos h]
theorem FG_0 {w : Nat → Wy} {W a b T g : Nat} {m : Int32} (h : ¬ CW (andn (2 ^ W - 1) g) w W a b m) : FG w W a b T m g = 0 := by
  unfold FG
  rw [if_neg h]
theorem mn6_b (W : Nat) : mn6 W ≤ 6 ∧ mn6 W ≤ W := by
  unfold mn6
  split <;> omega
theorem p2_64 {n : Nat} (h : n ≤ 6) : 2 ^ n ≤ 64 := Nat.pow_le_pow_right (n := 2) (by decide) h
theorem fin_pow : ∀ T, T < 21 → ∀ k, k < 7 → T ^ k ≤ 64000000 := by decide +kernel
theorem FG_b {w : Nat → Wy} {W a b T g : Nat} {m : Int32} (hT : T ≤ 20) : 0 ≤ FG w W a b T m g ∧ FG w W a b T m g ≤ 64000000 := by
  by_cases h : CW (andn (2 ^ W - 1) g) w W a b m
  · rw [FG_1 h]
    have h1 := fin_pow (T - 1) (by omega) (mn6 W - ct g 6) (by have := (mn6_b W).1; omega)
    have h2 : (((T - 1 : Nat) : Int) ^ (mn6 W - ct g 6)) = (((T - 1) ^ (mn6 W - ct g 6) : Nat) : Int) := by
      rw [Int.natCast_pow]
    rw [h2]
    omega
  · rw [FG_0 h]
    decide
theorem FG_s {w : Nat → Wy} {W a b T : Nat} {m : Int32} (hT : T ≤ 20) : ∀ n, n ≤ 64 → 0 ≤ sm n (FG w W a b T m) ∧ sm n (FG w W a b T m) ≤ 64000000 * (n : Int) := by
  intro n
  induction n with
  | zero => intro _; exact ⟨Int.le_refl 0, Int.le_refl 0⟩
  | succ n ih =>
    intro hn
    have h1 := ih (by omega)
    have h2 := FG_b (w := w) (W := W) (a := a) (b := b) (g := n) (m := m) hT
    rw [sm_s]
    omega
theorem lik8 {x : SX8} {P W : Nat} {w : Nat → Wy} (hV : NV P W w) (hN : NE (w_net x) P W w) {a b T : Nat} (ha : a < P) (hb : b < P) (hT1 : 2 ≤ T) (hT : T ≤ 20) {m : Int32} (hm : m.toInt ≤ 999) (part : Int32) : ∀ (d fu g : Nat) (E : SX0), g + d = 2 ^ mn6 W → d < fu → ∃ E', qX8_likely_20 (nI a) (nI b) (nI T) m part fu (w_equations_s x E) (nI (mn6 W)) (zI (sm g (FG w W a b T m))) (nI g) = (fX8_leastTerms (zI (sm (2 ^ mn6 W) (FG w W a b T m))) (zI ((T : Int) ^ mn6 W)) part).bind fun o2 => some (o2, w_equations_s x E') := by
  have hW := hV.2.2.1
  have hb6 := mn6_b W
  have h64 := p2_64 hb6.1
  intro d
  induction d with
  | zero =>
    intro fu g E h1 h2
    match fu, h2 with
    | fu + 1, _ =>
      have hg : g = 2 ^ mn6 W := by omega
      refine ⟨E, ?_⟩
      unfold qX8_likely_20
      rw [fin_sh1 _ (by omega), if_pos (nI_le (by omega) (by omega)), zI_n (by omega), power8 hT hb6.1, bind_s, hg]
  | succ d ih =>
    intro fu g E h1 h2
    match fu, h2 with
    | fu + 1, h2 =>
      have hg : g < 2 ^ mn6 W := by omega
      obtain ⟨E1, r, q1, q2⟩ := cw8 (x := x) (a := a) (b := b) (m := m) hV hN (t := andn (2 ^ W - 1) g) (andn_lt (ones_lt (by omega))) ha hb hm E
      obtain ⟨E', i1⟩ := ih fu (g + 1) E1 (by omega) (by omega)
      refine ⟨E', ?_⟩
      have hcg := fin_ctb g (by omega) 6 (by omega)
      have hcpl := fin_cpl (mn6 W) (by omega) g hg
      rw [sm_s] at i1
      unfold qX8_likely_20 qX8_likely_76
      rw [fin_sh1 _ (by omega), if_neg (nI_ge hg (by omega)), show w_net (w_equations_s x E) = w_net x from rfl, allWays8 (by omega) hN, bind_s, nI_andn, ltt_e, q1, bind_s]
      rcases q2 with ⟨rfl, hc⟩ | ⟨rfl, hc⟩
      · rw [FG_1 hc] at i1
        have e1 : (nI T - 1 : Int32).toInt64 = zI ((T - 1 : Nat) : Int) := by
          have := nI_pred (T - 1)
          rw [show T - 1 + 1 = T by omega] at this
          rw [this, zI_n (by omega)]
        have e2 : nI (mn6 W) - nI (ct g 6) = nI (mn6 W - ct g 6) := nI_sub (by omega) (by omega)
        rw [if_neg (show ¬ (1 : Int32) = 0 by decide), fin_bc g (by omega), bind_s, e1, e2, power8 (by omega) (by omega), bind_s, zI_add, ltt_e, ltt_e, nI_1, i1]
      · rw [FG_0 hc, Int.add_zero] at i1
        rw [if_pos rfl, ltt_e, nI_1, i1]
theorem cw9 {x : SX8} {y : SX9} {P W : Nat} {w : Nat → Wy} (hV : NV P W w) (hR : Rel x y) (hM : ME y P W w) {t a b : Nat} (ht : t < 2 ^ 31) (ha : a < P) (hb : b < P) (m : Int32) : ∃ (y' : SX9) (r : Int32), Rel x y' ∧ ME y' P W w ∧ ((r = 1 ∧ CW t w W a b m) ∨ (r = 0 ∧ ¬ CW t w W a b m)) ∧ ∀ k130 : SX9 → Int32 → Option (Int64 × SX9), (if (0 : Int32) ≤ m then (fX9_findTime (at9 y (nI W) (nI t)) (nI a) (nI b) (0 : Int32)).bind fun o3 => (if o3.1 = (0 : Int32) then k130 o3.2 0 else (if ((m.toInt64) * (m_down o3.2)) < (m_up o3.2) then k130 o3.2 0 else k130 o3.2 1)) else (fX9_reach (at9 y (nI W) (nI t)) (nI a)).bind fun o5 => (fX9_has o5 (nI b)).bind fun o6 => k130 (at9 y (nI W) (nI t)) o6) = k130 y' r := by
  have hP := hV.2.1
  have hMA := at9_MA hM t
  have hR0 := at9_rel hR (nI W) (nI t)
  have hM0 : ME (at9 y (nI W) (nI t)) P W w := hM
  by_cases hm0 : (0 : Int32) ≤ m
  · obtain ⟨y', k1, k2, k3⟩ := find9T hV.g hMA ht ha hb
    by_cases hr : (Rch t w W (2 ^ b)).testBit a = true
    · obtain ⟨u1, u2⟩ := k3 hr
      by_cases hab : a = b
      · refine ⟨y', 1, k1.rel hR0, k1.me hM0, Or.inl ⟨rfl, hr, fun _ z => absurd hab z⟩, fun k130 => ?_⟩
        have h0 : tU t w W a b = 0 := if_pos hab
        have hmn : 0 ≤ m.toInt := by rw [i32_le] at hm0; exact hm0
        have hm64 : m.toInt64 = zI m.toInt := by
          apply Int64.toInt_inj.mp
          have := i32_rng m
          rw [i32_64, zI_t (by omega) (by omega)]
        have := i32_rng m
        rw [if_pos hm0, k2, bind_s, if_pos hr, if_neg (show ¬ (1 : Int32) = 0 by decide), u1, u2, h0, if_pos hab, hm64, zI_mul, Int.mul_one, if_neg (by rw [zI_lt (by omega) (by omega) (by decide) (by decide)]; omega)]
      · by_cases hq : m.toInt64 * zI (bD t w W b) < zI (tU t w W a b)
        · refine ⟨y', 0, k1.rel hR0, k1.me hM0, Or.inr ⟨rfl, fun z => z.2 hm0 hab hq⟩, fun k130 => ?_⟩
          rw [if_pos hm0, k2, bind_s, if_pos hr, if_neg (show ¬ (1 : Int32) = 0 by decide), u1, u2, if_neg hab, if_pos hq]
        · refine ⟨y', 1, k1.rel hR0, k1.me hM0, Or.inl ⟨rfl, hr, fun _ _ => hq⟩, fun k130 => ?_⟩
          rw [if_pos hm0, k2, bind_s, if_pos hr, if_neg (show ¬ (1 : Int32) = 0 by decide), u1, u2, if_neg hab, if_neg hq]
    · refine ⟨y', 0, k1.rel hR0, k1.me hM0, Or.inr ⟨rfl, fun z => hr z.1⟩, fun k130 => ?_⟩
      rw [if_pos hm0, k2, bind_s, if_neg hr, if_pos rfl]
  · by_cases hr : (Rch t w W (2 ^ b)).testBit a = true
    · refine ⟨at9 y (nI W) (nI t), 1, hR0, hM0, Or.inl ⟨rfl, hr, fun z => absurd z hm0⟩, fun k130 => ?_⟩
      rw [if_neg hm0, reach9 hV.g hMA ht ha, bind_s, has9 (lt31 hP (Rch_lt hV.g (two_lt ha))) (by omega), bind_s, Rch_symb hV.g ha hb, if_pos hr]
    · refine ⟨at9 y (nI W) (nI t), 0, hR0, hM0, Or.inr ⟨rfl, fun z => hr z.1⟩, fun k130 => ?_⟩
      rw [if_neg hm0, reach9 hV.g hMA ht ha, bind_s, has9 (lt31 hP (Rch_lt hV.g (two_lt ha))) (by omega), bind_s, Rch_symb hV.g ha hb, if_neg hr]
theorem by_loop {pa pb m part : Int32} {T n s : Nat} (hT1 : 2 ≤ T) (hT : T ≤ 20) (hn : n ≤ 6) (hs : s < 2 ^ n) (k52 : SX9 → Int32 → Int64 → Int64 → Int32 → Option (Int64 × SX9)) (y : SX9) (l7 l9 : Int64) (r : Int32) : ∀ (d fu k : Nat), k + d = n → d < fu → qX9_doubted_138 pa pb (nI T) m part k52 fu y (nI n) l7 l9 (nI s) r (zI (((T - 1 : Nat) : Int) ^ ct s k)) (nI k) = k52 y (nI n) (l7 + (if r = 0 then 0 else zI (((T - 1 : Nat) : Int) ^ ct s 6))) l9 (nI (s + 1)) := by
  have h64 := p2_64 hn
  intro d
  induction d with
  | zero =>
    intro fu k h1 h2
    match fu, h2 with
    | fu + 1, _ =>
      have hk : k = n := by omega
      subst hk
      unfold qX9_doubted_138 qX9_doubted_187
      rw [if_pos (nI_le (Nat.le_refl k) (by omega)), fin_sub k (by omega) s hs]
      by_cases hr : r = 0
      · rw [if_pos hr, if_pos hr, ltt_e, ltt_e, nI_1]
      · rw [if_neg hr, if_neg hr, ltt_e, ltt_e, nI_1]
  | succ d ih =>
    intro fu k h1 h2
    match fu, h2 with
    | fu + 1, h2 =>
      have q := ih fu (k + 1) (by omega) (by omega)
      have e1 : (nI T - 1 : Int32).toInt64 = zI ((T - 1 : Nat) : Int) := by
        have := nI_pred (T - 1)
        rw [show T - 1 + 1 = T by omega] at this
        rw [this, zI_n (by omega)]
      unfold qX9_doubted_138 qX9_doubted_165
      rw [if_neg (nI_ge (by omega) (by omega)), has9 (by omega) (by omega), bind_s]
      by_cases hb : s.testBit k = true
      · rw [ct_s, if_pos hb, Int.pow_succ] at q
        rw [if_pos hb, if_neg (show ¬ (1 : Int32) = 0 by decide), e1, zI_mul, ltt_e, ltt_e, nI_1, q]
      · rw [ct_s, if_neg hb, Nat.add_zero] at q
        rw [if_neg hb, if_pos rfl, show (1 : Int64) = zI 1 from rfl, zI_mul, Int.mul_one, ltt_e, ltt_e, nI_1, q]
theorem dou9 {x : SX8} {P W : Nat} {w : Nat → Wy} (hV : NV P W w) {a b T : Nat} (ha : a < P) (hb : b < P) (hT1 : 2 ≤ T) (hT : T ≤ 20) (m part : Int32) (l9 : Int64) : ∀ (d fu s : Nat) (y : SX9), s + d = 2 ^ mn6 W → d < fu → Rel x y → ME y P W w → ∃ y', Rel x y' ∧ qX9_doubted_52 (nI a) (nI b) (nI T) m part fu y (nI (mn6 W)) (zI (sm s (fun i => FG w W a b T m (2 ^ mn6 W - 1 - i)))) l9 (nI s) = (fX9_partOf (zI (sm (2 ^ mn6 W) (FG w W a b T m))) l9 part).bind fun o1 => some (o1, y') := by
  have hW := hV.2.2.1
  have hb6 := mn6_b W
  have h64 := p2_64 hb6.1
  intro d
  induction d with
  | zero =>
    intro fu s y h1 h2 hR hM
    match fu, h2 with
    | fu + 1, _ =>
      have hs : s = 2 ^ mn6 W := by omega
      refine ⟨y, hR, ?_⟩
      unfold qX9_doubted_52
      rw [fin_sh1 _ (by omega), if_pos (nI_le (by omega) (by omega)), hs, ← sm_rev]
  | succ d ih =>
    intro fu s y h1 h2 hR hM
    match fu, h2 with
    | fu + 1, h2 =>
      have hs : s < 2 ^ mn6 W := by omega
      obtain ⟨y1, r, c1, c2, c3, c4⟩ := cw9 (a := a) (b := b) hV hR hM (t := andn (2 ^ W - 1) (2 ^ mn6 W - 1 - s)) (andn_lt (ones_lt (by omega))) ha hb m
      obtain ⟨y', i1, i2⟩ := ih fu (s + 1) y1 (by omega) (by omega) c1 c2
      refine ⟨y', i1, ?_⟩
      have hcpl := fin_cpl (mn6 W) (by omega) s hs
      rw [sm_s] at i2
      have hval : (zI (sm s (fun i => FG w W a b T m (2 ^ mn6 W - 1 - i))) + (if r = 0 then 0 else zI (((T - 1 : Nat) : Int) ^ ct s 6))) = zI (sm s (fun i => FG w W a b T m (2 ^ mn6 W - 1 - i)) + FG w W a b T m (2 ^ mn6 W - 1 - s)) := by
        rcases c3 with ⟨rfl, hc⟩ | ⟨rfl, hc⟩
        · rw [if_neg (show ¬ (1 : Int32) = 0 by decide), FG_1 hc, show mn6 W - ct (2 ^ mn6 W - 1 - s) 6 = ct s 6 by omega, zI_add]
        · rw [if_pos rfl, FG_0 hc, Int.add_zero, show (0 : Int64) = zI 0 from rfl, zI_add, Int.add_zero]
      have hby := by_loop (pa := nI a) (pb := nI b) (m := m) (part := part) hT1 hT hb6.1 hs (qX9_doubted_52 (nI a) (nI b) (nI T) m part fu) y1 (zI (sm s (fun i => FG w W a b T m (2 ^ mn6 W - 1 - i)))) l9 r (mn6 W) FU 0 (by omega) (by unfold FU; omega)
      rw [hval, i2] at hby
      have hc := c4 (fun z v => qX9_doubted_130 (nI a) (nI b) (nI T) m part (qX9_doubted_52 (nI a) (nI b) (nI T) m part fu) z (nI (mn6 W)) (zI (sm s (fun i => FG w W a b T m (2 ^ mn6 W - 1 - i)))) l9 (nI s) v)
      unfold qX9_doubted_52 qX9_doubted_129
      rw [fin_sh1 _ (by omega), if_neg (nI_ge hs (by omega)), allThere9 (by omega) hM, bind_s, show m_there (at9 y (nI W) (nI (2 ^ W - 1))) = nI (2 ^ W - 1) from rfl, fin_mask W (by omega) s hs, ltt_e, ltt_e, at9_t]
      refine Eq.trans hc ?_
      unfold qX9_doubted_130
      rw [show (0 : Int32) = nI 0 from rfl]
      exact hby
theorem tn_loop {x : SX8} {P W : Nat} {w : Nat → Wy} {pa pb m part : Int32} {T n : Nat} (hn : n ≤ 6) (y : SX9) (l7 : Int64) : ∀ (d fu k : Nat), k + d = n → d < fu → T ≤ 20 → qX9_doubted_29 pa pb (nI T) m part fu y (nI n) l7 (zI ((T : Int) ^ k)) (nI k) = qX9_doubted_52 pa pb (nI T) m part FU y (nI n) l7 (zI ((T : Int) ^ n)) 0 := by
  intro d
  induction d with
  | zero =>
    intro fu k h1 h2 hT
    match fu, h2 with
    | fu + 1, _ =>
      have hk : k = n := by omega
      subst hk
      rw [qX9_doubted_29, if_pos (nI_le (Nat.le_refl k) (by omega))]
  | succ d ih =>
    intro fu k h1 h2 hT
    match fu, h2 with
    | fu + 1, h2 =>
      rw [qX9_doubted_29, if_neg (nI_ge (by omega) (by omega)), zI_n (by omega), zI_mul, ltt_e, ltt_e, nI_1, ← Int.pow_succ, ih fu (k + 1) (by omega) (by omega) hT]
theorem pow_r {T n : Nat} (h1 : 2 ≤ T) (h2 : T ≤ 20) (hn : n ≤ 6) : 0 < (T : Int) ^ n ∧ (T : Int) ^ n < 2 ^ 48 := by
  have a := fin_pow T (by omega) n (by omega)
  have b : 0 < T ^ n := Nat.pow_pos (by omega)
  have e : (T : Int) ^ n = ((T ^ n : Nat) : Int) := by rw [Int.natCast_pow]
  rw [e]
  omega
theorem unsure {x : SX8} {y : SX9} (h : Rel x y) (a b T m part : Int32) : (∃ c, (c = -1 ∨ c = -2 ∨ c = -3 ∨ c = -4 ∨ c = -6) ∧ fX8_refusalOfUnsure x a b T m part = some c ∧ fX9_notDoubt y a b T m part = some c) ∨ ((∃ P W w p q t, NV P W w ∧ NE (w_net x) P W w ∧ ME y P W w ∧ p < P ∧ q < P ∧ a = nI p ∧ b = nI q ∧ 2 ≤ t ∧ t ≤ 20 ∧ T = nI t ∧ m.toInt ≤ 999) ∧ fX8_refusalOfUnsure x a b T m part = some 0 ∧ fX9_notDoubt y a b T m part = some 0) := by
  have n1 : ¬ (1 : Int32) = 0 := by decide
  obtain ⟨P, W, w, hV, hN, hM⟩ := h.1
  have hP := hV.2.1
  unfold fX8_refusalOfUnsure fX9_notDoubt
  rw [isPoint8 hN.1 (by omega), isPoint9 hM.1 (by omega), bind_s, bind_s]
  by_cases ha : 0 ≤ a.toInt ∧ a.toInt < P
  · rw [if_pos ha, if_neg n1, if_neg n1, isPoint8 hN.1 (by omega), isPoint9 hM.1 (by omega), bind_s, bind_s]
    by_cases hb : 0 ≤ b.toInt ∧ b.toInt < P
    · rw [if_pos hb, if_neg n1, if_neg n1]
      by_cases h2 : T < 2
      · rw [if_pos h2, if_pos h2]
        exact Or.inl ⟨-4, by decide, rfl, rfl⟩
      · rw [if_neg h2, if_neg h2]
        by_cases hm0 : (0 : Int32) ≤ m
        · rw [if_pos hm0, if_pos hm0]
          by_cases h20 : (20 : Int32) < T
          · rw [if_pos h20, if_pos h20]
            exact Or.inl ⟨-6, by decide, rfl, rfl⟩
          · rw [if_neg h20, if_neg h20]
            by_cases hm9 : m ≤ 999
            · rw [if_pos hm9, if_pos hm9, isPart8, isPart9, bind_s]
              by_cases hc : part = 0 ∨ part = 1
              · rw [if_pos hc, if_neg n1]
                obtain ⟨p, hp, rfl⟩ := isPt ha
                obtain ⟨q, hq, rfl⟩ := isPt hb
                rw [i32_lt, show (2 : Int32).toInt = 2 by decide] at h2
                rw [i32_lt, show (20 : Int32).toInt = 20 by decide] at h20
                obtain ⟨t, ht, rfl, ht2⟩ := i32_nn (a := T) (by omega)
                rw [i32_le, show (999 : Int32).toInt = 999 by decide] at hm9
                exact Or.inr ⟨⟨P, W, w, p, q, t, hV, hN, hM, hp, hq, rfl, rfl, by omega, by omega, rfl, hm9⟩, rfl, rfl⟩
              · rw [if_neg hc, if_pos rfl]
                exact Or.inl ⟨-2, by decide, rfl, rfl⟩
            · rw [if_neg hm9, if_neg hm9]
              exact Or.inl ⟨-6, by decide, rfl, rfl⟩
        · rw [if_neg hm0, if_neg hm0]
          exact Or.inl ⟨-4, by decide, rfl, rfl⟩
    · rw [if_neg hb, if_pos rfl, if_pos rfl]
      exact Or.inl ⟨-1, by decide, rfl, rfl⟩
  · rw [if_neg ha, if_pos rfl, if_pos rfl]
    exact Or.inl ⟨-1, by decide, rfl, rfl⟩
theorem likely_eq {x : SX8} {y : SX9} (h : Rel x y) {P W : Nat} {w : Nat → Wy} (hV : NV P W w) (hN : NE (w_net x) P W w) (hM : ME y P W w) {p q t : Nat} (hp : p < P) (hq : q < P) (h2 : 2 ≤ t) (h20 : t ≤ 20) {m : Int32} (hm : m.toInt ≤ 999) (part : Int32) : OpL (fX8_likely x (nI p) (nI q) (nI t) m part) (fX9_doubted y (nI p) (nI q) (nI t) m part) := by
  have hW := hV.2.2.1
  have hb6 := mn6_b W
  have h64 := p2_64 hb6.1
  obtain ⟨E', e8⟩ := lik8 hV hN hp hq h2 h20 hm part (2 ^ mn6 W) FU 0 (w_equations x) (by omega) (by unfold FU; omega)
  obtain ⟨y', r9, e9⟩ := dou9 hV hp hq h2 h20 m part (zI ((t : Int) ^ mn6 W)) (2 ^ mn6 W) FU 0 y (by omega) (by unfold FU; omega) h hM
  have hs := FG_s (w := w) (W := W) (a := p) (b := q) (m := m) h20 (2 ^ mn6 W) h64
  have hpw := pow_r h2 h20 hb6.1
  obtain ⟨r, l8, l9⟩ := LT (a := sm (2 ^ mn6 W) (FG w W p q t m)) (by omega) (by omega) hpw.1 hpw.2 part
  refine ⟨r, w_equations_s x E', y', ?_, ?_, rel_eq r9 E'⟩
  · unfold fX8_likely
    have hmin : (if (6 : Int32) < n_ways (w_net x) then (6 : Int32) else n_ways (w_net x)) = nI (mn6 W) := by
      rw [hN.2.1]
      unfold mn6
      by_cases hc : W ≤ 6
      · rw [if_neg (show ¬ (6 : Int32) < nI W from nI_nlt (b := W) (a := 6) hc (by decide)), if_pos hc]
      · rw [if_pos (show (6 : Int32) < nI W from nI_lt (a := 6) (by omega) (by omega)), if_neg hc]
        rfl
    rw [hmin, ltt_e]
    rw [l8, bind_s] at e8
    exact e8
  · have h18 : fX9_doubted y (nI p) (nI q) (nI t) m part = qX9_doubted_18 (nI p) (nI q) (nI t) m part y (nI (mn6 W)) := by
      unfold fX9_doubted
      rw [hM.2.1]
      unfold mn6
      by_cases hc : (6 : Int32) ≤ nI W
      · rw [if_pos hc]
        by_cases hc2 : W ≤ 6
        · have : W = 6 := by
            rw [show (6 : Int32) = nI 6 from rfl, nI_leI (by decide) (by omega)] at hc
            omega
          rw [if_pos hc2, this]
          rfl
        · rw [if_neg hc2]
          rfl
      · rw [if_neg hc]
        by_cases hc2 : W ≤ 6
        · rw [if_pos hc2]
        · exact absurd (show (6 : Int32) ≤ nI W from nI_le (a := 6) (by omega) (by omega)) hc
    rw [h18]
    unfold qX9_doubted_18
    have htn := tn_loop (x := x) (P := P) (W := W) (w := w) (pa := nI p) (pb := nI q) (m := m) (part := part) hb6.1 y 0 (mn6 W) FU 0 (by omega) (by unfold FU; omega) h20
    rw [show (t : Int) ^ 0 = 1 from rfl] at htn
    rw [show (1 : Int64) = zI 1 from rfl, show (0 : Int32) = nI 0 from rfl, htn, show (0 : Int32) = nI 0 from rfl]
    rw [l9, bind_s] at e9
    exact e9
theorem op_sure {x : SX8} {y : SX9} (h : Rel x y) (a b T part : Int32) : OpL (fX8_sure x a b T part) (fX9_sure y a b T part) := by
  unfold fX8_sure fX9_sure
  rcases unsure h a b T 0 part with ⟨c, hc, j8, j9⟩ | ⟨⟨P, W, w, p, q, t, hV, hN, hM, hp, hq, rfl, rfl, h2, h20, rfl, hm⟩, j8, j9⟩
  · rw [j8, j9, bind_s, bind_s, if_neg (ref_ne hc), if_neg (ref_ne hc)]
    exact opL_far h hc (bind_id _) (bind_id _)
  · rw [j8, j9, bind_s, bind_s, if_pos rfl, if_pos rfl, bind_id (fX8_likely x (nI p) (nI q) (nI t) (-1) part), bind_id (fX9_doubted y (nI p) (nI q) (nI t) (-1) part)]
    exact likely_eq h hV hN hM hp hq h2 h20 (by decide) part
theorem op_fast {x : SX8} {y : SX9} (h : Rel x y) (a b T m part : Int32) : OpL (fX8_fast x a b T m part) (fX9_fast y a b T m part) := by
  unfold fX8_fast fX9_fast
  rcases unsure h a b T m part with ⟨c, hc, j8, j9⟩ | ⟨⟨P, W, w, p, q, t, hV, hN, hM, hp, hq, rfl, rfl, h2, h20, rfl, hm⟩, j8, j9⟩
  · rw [j8, j9, bind_s, bind_s, if_neg (ref_ne hc), if_neg (ref_ne hc)]
    exact opL_far h hc (bind_id _) (bind_id _)
  · rw [j8, j9, bind_s, bind_s, if_pos rfl, if_pos rfl, bind_id (fX8_likely x (nI p) (nI q) (nI t) m part), bind_id (fX9_doubted y (nI p) (nI q) (nI t) m part)]
    exact likely_eq h hV hN hM hp hq h2 h20 hm part
