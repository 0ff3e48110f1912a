/-! says -/
theorem Kp_sd {y y' : SX9} (h : Kp y y') : m_said y' = m_said y ∧ m_saidMany y' = m_saidMany y := by
  obtain ⟨a, n, mx, rg, ds, u, d, rfl⟩ := h
  exact ⟨rfl, rfl⟩
theorem comm9s {y : SX9} {P A t : Nat} {w : Nat → Wy} (hV : GV P A w) (hM : MA y P A t w) (ht : t < 2 ^ 31) {a b : Nat} (ha : a < P) (hb : b < P) : ∃ y', Kq y y' ∧ (m_said y' = m_said y ∧ m_saidMany y' = m_saidMany y) ∧ fX9_findCommute y (nI a) (nI b) = some (if (Rch t w A (2 ^ b)).testBit a = true then 1 else 0, y') ∧ ((Rch t w A (2 ^ b)).testBit a = true → m_commuteUp y' = zI (tU t w A a b + tU t w A b a) ∧ m_commuteDown y' = zI (if a = b then 1 else bD t w A b)) := by
  obtain ⟨y1, k1, k2, k3⟩ := find9T hV hM ht ha hb
  by_cases hr : (Rch t w A (2 ^ b)).testBit a = true
  · obtain ⟨u1, u2⟩ := k3 hr
    obtain ⟨y2, hy2⟩ : ∃ y2, y2 = m_commuteDown_s (m_commuteUp_s y1 (m_up y1)) (m_down (m_commuteUp_s y1 (m_up y1))) := ⟨_, rfl⟩
    have hK2 : Kq y y2 := by
      rw [hy2]
      exact k1.q.trans ((Kq_cu _ _).trans (Kq_cd _ _))
    have c1 : m_commuteUp y2 = zI (tU t w A a b) := by rw [hy2]; exact u1
    have c2 : m_commuteDown y2 = zI (if a = b then 1 else bD t w A b) := by rw [hy2]; exact u2
    have s1 := Kp_sd k1
    have s2 : m_said y2 = m_said y ∧ m_saidMany y2 = m_saidMany y := by
      rw [hy2]
      exact ⟨s1.1, s1.2⟩
    obtain ⟨y3, l1, l2, l3⟩ := find9T hV (hK2.2.1 _ _ _ _ hM) ht hb ha
    obtain ⟨v1, v2⟩ := l3 (Rch_sym hV ha hr)
    refine ⟨m_commuteUp_s y3 (m_commuteUp y3 + m_up y3), hK2.trans (l1.q.trans (Kq_cu _ _)), ⟨(Kp_sd l1).1.trans s2.1, (Kp_sd l1).2.trans s2.2⟩, ?_, fun _ => ⟨?_, ?_⟩⟩
    · unfold fX9_findCommute
      rw [k2, bind_s, if_pos hr, if_neg (show ¬ (1 : Int32) = 0 by decide), ltt_e, ltt_e, ltt_e, ltt_e, ← hy2, l2, bind_s, ltt_e, ltt_e]
    · show m_commuteUp y3 + m_up y3 = _
      rw [Kp_cu l1, c1, v1, zI_add]
    · show m_commuteDown y3 = _
      rw [Kp_cd l1, c2]
  · refine ⟨y1, k1.q, Kp_sd k1, ?_, fun h => absurd h hr⟩
    unfold fX9_findCommute
    rw [k2, bind_s, if_neg hr, if_pos rfl]
theorem tU_r2 {P A t a b : Nat} {w : Nat → Wy} (hV : GV P A w) (hB : Bd A w) (ha : a < P) (hb : b < P) (hr : (Rch t w A (2 ^ b)).testBit a = true) : 0 ≤ tU t w A a b ∧ tU t w A a b < 2 ^ 39 := by
  have hP := hV.2.1
  unfold tU
  by_cases hab : a = b
  · rw [if_pos hab]; decide
  rw [if_neg hab]
  obtain ⟨hGL, hn, hD, -⟩ := sys_b (t := t) hV hB hb
  have hO := op_lt (t := t) hV (two_lt hb)
  have hq := diag_tot (t := t) hV hO
  have hOa : (op t w A (2 ^ b)).testBit a = true := by
    rw [op_bit, hr]
    simp
    exact fun z => hab z.symm
  have hsum := du_tot (t := t) hV (fT w) hO
  generalize op t w A (2 ^ b) = O at *
  have hj := ct_lt hO (show a < 6 by omega) hOa
  generalize ct O a = j at *
  generalize hnn : ct O 6 = n at *
  obtain ⟨m, rfl⟩ : ∃ m, n = m + 1 := ⟨n - 1, by omega⟩
  have hX := X_col hGL (show j ≤ m by omega) (g := fun i => du t w (fT w) A (el O i)) (fun i _ => du_1 _)
  have h0 := ((Iv_all hGL (m + 1) (Nat.le_refl _)).2.2.2.1 (fun i => du t w (fT w) A (el O i)) (fun i _ => du_1 _)).2 j hj
  have hBd := GL_del hGL (show j ≤ m by omega)
  have hqB : sm m (fun l => dr j (dc j (MO t w A O)) l l) ≤ ((2 * (sN A (fS w) + 1) : Nat) : Int) := by
    have e := sm_skip (show j ≤ m by omega) (fun l => MO t w A O l l)
    have e3 : sm m (fun l => dr j (dc j (MO t w A O)) l l) = sm m (fun q => MO t w A O (if q < j then q else q + 1) (if q < j then q else q + 1)) := rfl
    have := gl_diag hGL hj
    omega
  have hd := (Iv_all hBd m (Nat.le_refl m)).1
  have hd2 : dt m (dr j (dc j (MO t w A O))) ≤ 68574961 := by
    have db := d_bnd hBd hqB (by omega) (Nat.le_refl m)
    have hq1 := hB.1
    generalize hqq : 2 * (sN A (fS w) + 1) = q at *
    have q1 : (q : Int) ≤ 364 := by omega
    have q0 : (0 : Int) ≤ q := by omega
    have s2 : (q : Int) * q ≤ 364 * 364 := mm q1 q1 q0 (by decide)
    have s2n := Int.mul_nonneg q0 q0
    have s3 : (q : Int) * q * q ≤ 364 * 364 * 364 := mm s2 q1 q0 (by decide)
    have s3n := Int.mul_nonneg s2n q0
    have s4 : (q : Int) * q * q * q ≤ 364 * 364 * 364 * 364 := mm s3 q1 q0 (by decide)
    by_cases h3 : m ≤ 3
    · have := db.1 h3
      omega
    · have := db.2 (by omega)
      omega
  have hs : sm (m + 1) (fun i => du t w (fT w) A (el O i)) ≤ 4700 := by have := hB.2; omega
  have u := mm hs hd2 (by omega) (by decide)
  exact ⟨h0, by omega⟩
theorem vals {T D D' : Int} (t0 : 0 ≤ T) (t1 : T < 2 ^ 40) (d0 : 0 < D) (d1 : D < 2 ^ 40) (h : D' = D ∨ (T = 0 ∧ D' = 1)) : ∃ v0 v1 : Nat, v0 < 10 ^ 13 ∧ v1 < 10 ^ 13 ∧ fX8_leastTerms (zI T) (zI D) 0 = some (lN v0) ∧ fX8_leastTerms (zI T) (zI D) 1 = some (lN v1) ∧ fX9_partOf (zI T) (zI D') 0 = some (lN v0) ∧ fX9_partOf (zI T) (zI D') 1 = some (lN v1) := by
  have n1 : ¬ (1 : Int32) = 0 := by decide
  rcases h with rfl | ⟨rfl, rfl⟩
  · obtain ⟨A, rfl⟩ : ∃ A : Nat, T = A := ⟨T.toNat, by omega⟩
    obtain ⟨B, rfl⟩ : ∃ B : Nat, D' = B := ⟨D'.toNat, by omega⟩
    have g1 : 0 < Nat.gcd A B := Nat.gcd_pos_of_pos_right _ (by omega)
    have l1 : Nat.gcd A B ≤ B := Nat.gcd_le_right _ (by omega)
    have e0 : zI (A : Int) / lN (Nat.gcd A B) = lN (A / Nat.gcd A B) := by rw [← lN_zI (by omega), pk_lDiv (by omega) g1 (by omega)]
    have e1 : zI (B : Int) / lN (Nat.gcd A B) = lN (B / Nat.gcd A B) := by rw [← lN_zI (by omega), pk_lDiv (by omega) g1 (by omega)]
    have q0 := lt8 (a := A) (b := B) (by omega) (by omega) (by omega) (by omega) 0
    have q1 := lt8 (a := A) (b := B) (by omega) (by omega) (by omega) (by omega) 1
    have p0 := lt9 (a := A) (b := B) (by omega) (by omega) (by omega) (by omega) 0
    have p1 := lt9 (a := A) (b := B) (by omega) (by omega) (by omega) (by omega) 1
    rw [if_pos rfl, Int.natAbs_natCast, Int.natAbs_natCast, e0] at q0 p0
    rw [if_neg n1, Int.natAbs_natCast, Int.natAbs_natCast, e1] at q1 p1
    have := Nat.div_le_self A (Nat.gcd A B)
    have := Nat.div_le_self B (Nat.gcd A B)
    exact ⟨_, _, by omega, by omega, q0, q1, p0, p1⟩
  · obtain ⟨r0, a0, b0⟩ := LT0 d0 (show D < 2 ^ 48 by omega) 0
    obtain ⟨r1, a1, b1⟩ := LT0 d0 (show D < 2 ^ 48 by omega) 1
    have h0 : fX9_partOf 0 1 0 = some (lN 0) ∧ fX9_partOf 0 1 1 = some (lN 1) := by decide +kernel
    refine ⟨0, 1, by decide, by decide, ?_, ?_, h0.1, h0.2⟩
    · exact a0.trans (b0.symm.trans h0.1)
    · exact a1.trans (b1.symm.trans h0.2)
def q9c : Nat → SX9 → Int32 → Option SX9 := fun _ y i => if i = 0 then (fX9_writes y 58).bind fun o => fX9_writes o 32 else if i = 1 then fX9_writes y 32 else some y
def q9s : Nat → SX9 → Int32 → Option SX9 := fun _ y i => if i = 0 then fX9_writes y 47 else some y
theorem txt {k n : Nat} (hk : k < 12) {q9 : Nat → SX9 → Int32 → Option SX9} {x : SX8} (h1 : ∀ fu y i, Rel x y → i < gtl.getD k 0 → q9 (fu + 1) y (nI i) = (fX9_writes y (tc k i)).bind fun o => q9 fu o (nI (i + 1))) (h2 : ∀ fu y, q9 (fu + 1) y (nI (gtl.getD k 0)) = some y) (hn : n + 10 ≤ 120) {s : SX4} {y : SX9} (hR : Rel x y) (hS : SDn n s y) : ∃ s' y', fX4_addText s k = some s' ∧ q9 FU y 0 = some y' ∧ SDn (n + gtl.getD k 0) s' y' ∧ Ks y y' := by
  have hl := (fin_len12 k hk).2
  obtain ⟨s', y', a1, a2, a3, a4⟩ := txt_loop hk q9 (fun y => Rel x y) (fun _ _ hks hr => hks.1.1 x hr) h1 h2 (gtl.getD k 0) FU 0 n s y (by omega) (by unfold FU; omega) (by omega) hR hS
  refine ⟨s', y', ?_, ?_, a3, a4⟩
  · unfold fX4_addText
    rw [show (0 : Int32) = nI 0 from rfl, a1]
  · rw [show (0 : Int32) = nI 0 from rfl, a2]
theorem fin_said : (∀ i, i < 4 → m_to iX9 i = tc 6 i) ∧ (∀ i, i < 5 → m_never iX9 i = tc 8 i) ∧ (∀ i, i < 8 → m_one iX9 i = tc 10 i) ∧ (∀ i, i < 10 → m_both iX9 i = tc 11 i) := by decide +kernel
theorem t_to {n : Nat} {x : SX8} (hn : n + 10 ≤ 120) {s : SX4} {y : SX9} (hR : Rel x y) (hS : SDn n s y) : ∃ s' y', fX4_addText s 6 = some s' ∧ fX9_saysAll_23 y = some y' ∧ SDn (n + 4) s' y' ∧ Ks y y' := txt (k := 6) (by decide) (q9 := qX9_saysAll_23_2) (fun fu y i hR hi => by
  have hi' : i < 4 := hi
  rw [qX9_saysAll_23_2, if_neg (show ¬ (4 : Int32) ≤ nI i from nI_ge (b := 4) hi' (by decide)), ga_ok hi' (by decide), hR.2.2.2.2.2.2.2.2.2.2.1, fin_said.1 i hi']
  simp only [ltt, nI_1]) (fun fu y => by rw [qX9_saysAll_23_2, if_pos (show (4 : Int32) ≤ nI (gtl.getD 6 0) by decide)]) hn hR hS
theorem t_never {n : Nat} {x : SX8} (hn : n + 10 ≤ 120) {s : SX4} {y : SX9} (hR : Rel x y) (hS : SDn n s y) : ∃ s' y', fX4_addText s 8 = some s' ∧ fX9_saysAll_24 y = some y' ∧ SDn (n + 5) s' y' ∧ Ks y y' := txt (k := 8) (by decide) (q9 := qX9_saysAll_24_2) (fun fu y i hR hi => by
  have hi' : i < 5 := hi
  rw [qX9_saysAll_24_2, if_neg (show ¬ (5 : Int32) ≤ nI i from nI_ge (b := 5) hi' (by decide)), ga_ok hi' (by decide), hR.2.2.2.2.2.2.2.2.2.2.2.1, fin_said.2.1 i hi']
  simp only [ltt, nI_1]) (fun fu y => by rw [qX9_saysAll_24_2, if_pos (show (5 : Int32) ≤ nI (gtl.getD 8 0) by decide)]) hn hR hS
theorem t_one {n : Nat} {x : SX8} (hn : n + 10 ≤ 120) {s : SX4} {y : SX9} (hR : Rel x y) (hS : SDn n s y) : ∃ s' y', fX4_addText s 10 = some s' ∧ fX9_saysAll_25 y = some y' ∧ SDn (n + 8) s' y' ∧ Ks y y' := txt (k := 10) (by decide) (q9 := qX9_saysAll_25_2) (fun fu y i hR hi => by
  have hi' : i < 8 := hi
  rw [qX9_saysAll_25_2, if_neg (show ¬ (8 : Int32) ≤ nI i from nI_ge (b := 8) hi' (by decide)), ga_ok hi' (by decide), hR.2.2.2.2.2.2.2.2.2.2.2.2.1, fin_said.2.2.1 i hi']
  simp only [ltt, nI_1]) (fun fu y => by rw [qX9_saysAll_25_2, if_pos (show (8 : Int32) ≤ nI (gtl.getD 10 0) by decide)]) hn hR hS
theorem t_both {n : Nat} {x : SX8} (hn : n + 10 ≤ 120) {s : SX4} {y : SX9} (hR : Rel x y) (hS : SDn n s y) : ∃ s' y', fX4_addText s 11 = some s' ∧ fX9_saysAll_26 y = some y' ∧ SDn (n + 10) s' y' ∧ Ks y y' := txt (k := 11) (by decide) (q9 := qX9_saysAll_26_2) (fun fu y i hR hi => by
  have hi' : i < 10 := hi
  rw [qX9_saysAll_26_2, if_neg (show ¬ (10 : Int32) ≤ nI i from nI_ge (b := 10) hi' (by decide)), ga_ok hi' (by decide), hR.2.2.2.2.2.2.2.2.2.2.2.2.2, fin_said.2.2.2 i hi']
  simp only [ltt, nI_1]) (fun fu y => by rw [qX9_saysAll_26_2, if_pos (show (10 : Int32) ≤ nI (gtl.getD 11 0) by decide)]) hn hR hS
theorem t_col {n : Nat} {x : SX8} (hn : n + 10 ≤ 120) {s : SX4} {y : SX9} (hR : Rel x y) (hS : SDn n s y) : ∃ s' y', fX4_addText s 7 = some s' ∧ ((fX9_writes y 58).bind fun o => fX9_writes o 32) = some y' ∧ SDn (n + 2) s' y' ∧ Ks y y' := txt (k := 7) (by decide) (q9 := q9c) (fun fu y i hR hi => by
  have hi' : i < 2 := hi
  have hc : i = 0 ∨ i = 1 := by omega
  rcases hc with rfl | rfl
  · rfl
  · show fX9_writes y 32 = (fX9_writes y 32).bind fun o => some o
    rw [bind_self]) (fun fu y => rfl) hn hR hS
theorem t_sl {n : Nat} {x : SX8} (hn : n + 10 ≤ 120) {s : SX4} {y : SX9} (hR : Rel x y) (hS : SDn n s y) : ∃ s' y', fX4_addText s 9 = some s' ∧ fX9_writes y 47 = some y' ∧ SDn (n + 1) s' y' ∧ Ks y y' := txt (k := 9) (by decide) (q9 := q9s) (fun fu y i hR hi => by
  have hi' : i < 1 := hi
  have hc : i = 0 := by omega
  subst hc
  show fX9_writes y 47 = (fX9_writes y 47).bind fun o => some o
  rw [bind_self]) (fun fu y => rfl) hn hR hS
theorem frac {x xs : SX8} {n : Nat} {y : SX9} (hR : Rel x y) (hS : SDn n (w_saying xs) y) (hn : n + 40 ≤ 120) {v0 v1 : Nat} (h0 : v0 < 10 ^ 13) (h1 : v1 < 10 ^ 13) {pa ua ub : Int64} (e0 : fX8_leastTerms pa (eq_below (w_equations xs)) 0 = some (lN v0)) (e1 : fX8_leastTerms pa (eq_below (w_equations xs)) 1 = some (lN v1)) (f0 : fX9_partOf ua ub 0 = some (lN v0)) (f1 : fX9_partOf ua ub 1 = some (lN v1)) : ∃ l s' y', l ≤ 27 ∧ fX8_sayFraction xs pa = some (w_saying_s xs s') ∧ fX9_saysFraction y ua ub = some y' ∧ SDn (n + l) s' y' ∧ Ks y y' := by
  obtain ⟨l1, s1, y1, a0, a1, a2, a3, a4⟩ := num_both2 h0 (show n + 13 ≤ 120 by omega) hS
  by_cases hone : lN v1 = 1
  · refine ⟨l1, s1, y1, by omega, ?_, ?_, a3, a4⟩
    · unfold fX8_sayFraction
      rw [e1, bind_s, e0, bind_s, a1, bind_s, ltt_e, if_pos hone]
    · unfold fX9_saysFraction
      rw [f0, bind_s, a2, bind_s, f1, bind_s, if_pos hone]
  · obtain ⟨s2, y2, b1, b2, b3, b4⟩ := t_sl (n := n + l1) (by omega) (a4.1.1 x hR) a3
    obtain ⟨l3, s3, y3, c0, c1, c2, c3, c4⟩ := num_both2 h1 (show n + l1 + 1 + 13 ≤ 120 by omega) b3
    refine ⟨l1 + 1 + l3, s3, y3, by omega, ?_, ?_, by rw [show n + (l1 + 1 + l3) = n + l1 + 1 + l3 by omega]; exact c3, a4.trans (b4.trans c4)⟩
    · unfold fX8_sayFraction
      rw [e1, bind_s, e0, bind_s, a1, bind_s, ltt_e, if_neg hone, show w_saying (w_saying_s xs s1) = s1 from rfl, b1, bind_s, ltt_e, show w_saying (w_saying_s (w_saying_s xs s1) s2) = s2 from rfl, c1, bind_s, ltt_e]
    · unfold fX9_saysFraction
      rw [f0, bind_s, a2, bind_s, f1, bind_s, if_neg hone, b2, bind_s, bind_s, c2, bind_s]
theorem num1 {v : Nat} (hv : v < 10) {s s1 : SX4} (a1 : fX4_addLetter s (nI (48 + v)) = some s1) : fX4_addNumber s (lN v) = some s1 := by
  have a8 := num5 (v := v) (m := 0) hv (by decide) (Or.inl rfl) s 0 FU 0 (by omega) (by unfold FU; omega)
  have hne : ¬ lN (10 ^ 0) = (0 : Int64) := by decide
  have hrem : (((lN v / lN (10 ^ 0)) - (lN v / lN (10 ^ 0)) / (10 : Int64) * (10 : Int64)).toInt32) = nI v := by
    rw [pk_lDiv (by omega) (by decide) (by decide), show (10 : Int64) = lN 10 by decide, show v / 10 ^ 0 = v by simp, pk_lRem (by omega) (by decide) (by decide), lN_32 (by omega), Nat.mod_eq_of_lt hv]
  unfold fX4_addNumber
  rw [show (1 : Int64) = lN (10 ^ 0) by decide, show (0 : Int32) = nI 0 from rfl, a8, show FU = 1998 + 1 + 1 from rfl, qX4_addNumber_37, if_neg (show ¬ (18 : Int32) ≤ 0 by decide), if_neg (show ¬ lN (10 ^ 0) ≤ (0 : Int64) by decide)]
  unfold gzl
  rw [if_neg hne, hrem, show (48 : Int32) = nI 48 from rfl, nI_add, a1, bind_s, ltt_e, ltt_e, qX4_addNumber_37, if_neg (show ¬ (18 : Int32) ≤ 0 + 1 by decide), if_pos (show lN (10 ^ 0) / (10 : Int64) ≤ 0 by decide)]
theorem rel_say {x : SX8} {y : SX9} (h : Rel x y) (s : SX4) : Rel (w_saying_s x s) y := ⟨h.1, h.2.1, h.2.2.1, h.2.2.2.1, h.2.2.2.2.1, h.2.2.2.2.2.1, h.2.2.2.2.2.2.1, h.2.2.2.2.2.2.2⟩
theorem Ks_m (y : SX9) (v : Int32) : Ks y (m_saidMany_s y v) := ⟨⟨fun _ h => ⟨h.1, h.2.1, h.2.2.1, h.2.2.2.1, h.2.2.2.2.1, h.2.2.2.2.2.1, h.2.2.2.2.2.2.1, h.2.2.2.2.2.2.2⟩, fun _ _ _ _ h => ⟨h.1, h.2.1, h.2.2.1, h.2.2.2⟩, fun _ _ _ h => ⟨h.1, h.2.1, h.2.2⟩⟩, Eq.refl _, Eq.refl _, Eq.refl _, Eq.refl _⟩
theorem say_tail {x : SX8} {y : SX9} {m : Nat} (hR : Rel x y) (hS : SDn (m + 1) (w_saying x) y) (hn : m + 1 ≤ 120) (a b i : Int32) : OpI (if i = (-1 : Int32) then some (sa_size (w_saying x), x) else if i < (0 : Int32) then qX8_says_62 a b i x else if i < sa_size (w_saying x) then ga 120 i fun j1 => some (sa_letters (w_saying x) j1, x) else qX8_says_62 a b i x) (qX9_says_135 a b i y) := by
  obtain ⟨s1, s2, s3⟩ := hS
  unfold qX8_says_62 qX9_says_135
  by_cases h1 : i = -1
  · rw [if_pos h1, if_pos h1]
    exact ⟨nI (m + 1), x, y, by rw [s1], by rw [s2], hR⟩
  rw [if_neg h1, if_neg h1, isIn_eq, bind_s, s2, s1, i32_64, i32_64, nI_pred, show (0 : Int64).toInt = 0 from rfl, nI_toInt (by omega)]
  by_cases h2 : 0 ≤ i.toInt ∧ i.toInt ≤ (m : Int)
  · obtain ⟨k, hk, rfl, hk2⟩ := i32_nn h2.1
    rw [if_pos h2, if_neg (show ¬ (1 : Int32) = 0 by decide), if_neg (nI_pos (by omega)), if_pos (show nI k < nI (m + 1) by rw [Int32.lt_iff_toInt_lt, nI_toInt (by omega), nI_toInt (by omega)]; omega), ga_ok (by omega) (by decide), ga_ok (by omega) (by decide)]
    exact ⟨sa_letters (w_saying x) k, x, y, rfl, by rw [s3 k (by omega)], hR⟩
  · rw [if_neg h2, if_pos rfl]
    have e8 : (if i < (0 : Int32) then (fX8_counted x (-1)).bind (fun o5 => some (o5.1, o5.2)) else if i < nI (m + 1) then ga 120 i fun j1 => some (sa_letters (w_saying x) j1, x) else (fX8_counted x (-1)).bind (fun o5 => some (o5.1, o5.2))) = fX8_counted x (-1) := by
      by_cases h3 : i < (0 : Int32)
      · rw [if_pos h3]
        exact bind_id _
      · rw [if_neg h3, if_neg]
        · exact bind_id _
        · rw [Int32.lt_iff_toInt_lt, nI_toInt (by omega)]
          rw [Int32.lt_iff_toInt_lt, show (0 : Int32).toInt = 0 from rfl] at h3
          omega
    exact opI_no hR (c := -1) (by decide) e8 (bind_id _)
theorem sd_k {n : Nat} {s : SX4} {y y' : SX9} (h : m_said y' = m_said y ∧ m_saidMany y' = m_saidMany y) (hS : SDn n s y) : SDn n s y' := ⟨hS.1, h.2.trans hS.2.1, fun k hk => by rw [h.1]; exact hS.2.2 k hk⟩
theorem ws1 (x : SX8) (s : SX4) : w_saying (w_saying_s x s) = s := rfl
theorem ws2 (x : SX8) (s s' : SX4) : w_saying_s (w_saying_s x s) s' = w_saying_s x s' := rfl
theorem ws3 (x : SX8) (s : SX4) : w_net (w_saying_s x s) = w_net x := rfl
theorem ws4 (x : SX8) (s : SX4) : w_equations (w_saying_s x s) = w_equations x := rfl
theorem ws5 (x : SX8) (E : SX0) : w_equations (w_equations_s x E) = E := rfl
theorem ws6 (x : SX8) (E : SX0) : w_saying (w_equations_s x E) = w_saying x := rfl
theorem ws7 (x : SX8) (E : SX0) : w_net (w_equations_s x E) = w_net x := rfl
theorem say_both {x : SX8} {y : SX9} (h : Rel x y) {P W : Nat} {w : Nat → Wy} (hV : NV P W w) (hN : NE (w_net x) P W w) (hM : ME y P W w) {p q : Nat} (hp : p < P) (hq : q < P) (i : Int32) : ∃ n x' y', n + 1 ≤ 120 ∧ SDn (n + 1) (w_saying x') y' ∧ Rel x' y' ∧ fX8_say x (nI p) (nI q) = some x' ∧ fX9_says y (nI p) (nI q) i = qX9_says_135 (nI p) (nI q) i y' := by
  have n1 : ¬ (1 : Int32) = 0 := by decide
  have hW := hV.2.2.1
  have hP := hV.2.1
  have hone := ones_lt (show W ≤ 11 by omega)
  have hR0 : Rel x (m_saidMany_s (at9 y (nI W) (nI (2 ^ W - 1))) 0) := (Ks_m _ 0).1.1 x (at9_rel h _ _)
  have hMA0 : MA (m_saidMany_s (at9 y (nI W) (nI (2 ^ W - 1))) 0) P W (2 ^ W - 1) w := (Ks_m _ 0).1.2.1 _ _ _ _ (at9_MA hM (2 ^ W - 1))
  have hS0 : SDn 0 (sa_size_s (w_saying x) 0) (m_saidMany_s (at9 y (nI W) (nI (2 ^ W - 1))) 0) := ⟨rfl, rfl, fun k hk => absurd hk (by omega)⟩
  have ip : ∀ a : Nat, a < P → fX9_isPoint y (nI a) = some 1 := by
    intro a ha
    rw [isPoint9 hM.1 (by omega), if_pos]
    rw [nI_toInt (by omega)]
    omega
  have hat : (fX9_allThere y).bind (fun o4 => some (m_saidMany_s o4 0)) = some (m_saidMany_s (at9 y (nI W) (nI (2 ^ W - 1))) 0) := by rw [allThere9 (by omega) hM, bind_s]
  obtain ⟨s1, y1, a1, a2, a3, a4, -⟩ := wr hS0 (by omega) (nI (48 + p))
  have b1 := num1 (v := p) (by omega) a1
  obtain ⟨s2, y2, c1, c2, c3, c4⟩ := t_to (n := 1) (x := x) (by omega) (a4.1.1 x hR0) a3
  obtain ⟨s3, y3, d1, d2, d3, d4, -⟩ := wr c3 (by omega) (nI (48 + q))
  have d5 := num1 (v := q) (by omega) d1
  have K3 := a4.trans (c4.trans d4)
  obtain ⟨s4, y4, e1, e2, e3, e4⟩ := t_col (n := 6) (x := x) (by omega) (K3.1.1 x hR0) d3
  have K4 := K3.trans e4
  obtain ⟨y5, f1, f2, f3, f4⟩ := comm9s hV.g (K4.1.2.1 _ _ _ _ hMA0) hone hp hq
  have hS5 := sd_k f2 e3
  have hR5 := f1.1 x (K4.1.1 x hR0)
  have hMA5 := f1.2.1 _ _ _ _ (K4.1.2.1 _ _ _ _ hMA0)
  have n64 : ∀ a : Nat, a < P → (nI a).toInt64 = lN a := by
    intro a ha
    have : ∀ k, k < 6 → (nI k).toInt64 = lN k := by decide
    exact this a (by omega)
  have h8 : fX8_say x (nI p) (nI q) = (if (if (Rch (2 ^ W - 1) w W (2 ^ q)).testBit p = true then (1 : Int32) else 0) = 0 then (fX4_addText s4 8).bind fun o15 => some (w_saying_s x o15) else (fX0_timesTo (w_equations x) (w_net x) (nI (2 ^ W - 1)) (nI q)).bind fun o9 => (fX8_sayFraction (w_equations_s (w_saying_s x s4) o9) (eq_above o9 p)).bind fun o10 => (fX4_addText (w_saying o10) 10).bind fun o11 => (fX8_commuteAbove (w_saying_s o10 o11) (nI p) (nI q)).bind fun o12 => (fX8_sayFraction o12.2 o12.1).bind fun o13 => (fX4_addText (w_saying o13) 11).bind fun o14 => some (w_saying_s o13 o14)) := by
    unfold fX8_say
    rw [ltt_e, ws1, n64 p hp, b1, bind_s, ltt_e, ws2, ws1, c1, bind_s, ltt_e, ws2, ws1, n64 q hq, d5, bind_s, ltt_e, ws2, ws1, e1, bind_s, ltt_e, ws2, ws1, ws3, ws4, allWays8 (by omega) hN, bind_s, fin_sh1 p (by omega), reached8 hV.g hN hone (two_lt hp), bind_s, has8 (lt31 hP (Rch_lt hV.g (two_lt hp))) (by omega), bind_s, Rch_symb hV.g hp hq]
    by_cases hr : (Rch (2 ^ W - 1) w W (2 ^ q)).testBit p = true
    · rw [if_pos hr, if_neg n1, if_neg n1, bind_s]
      congr 1
      funext o9
      rw [ltt_e, ga_ok (by omega) (by decide)]
      rfl
    · rw [if_neg hr, if_pos rfl, if_pos rfl]
      rfl
  have h9 : fX9_says y (nI p) (nI q) i = (if (if (Rch (2 ^ W - 1) w W (2 ^ q)).testBit p = true then (1 : Int32) else 0) = 0 then (fX9_saysAll_24 y5).bind fun o11 => qX9_says_135 (nI p) (nI q) i o11 else (fX9_findTime y5 (nI p) (nI q) 0).bind fun o14 => (fX9_saysFraction o14.2 (m_up o14.2) (m_down o14.2)).bind fun o15 => (fX9_saysAll_25 o15).bind fun o16 => (fX9_saysFraction o16 (m_commuteUp o16) (m_commuteDown o16)).bind fun o17 => (fX9_saysAll_26 o17).bind fun o18 => qX9_says_135 (nI p) (nI q) i o18) := by
    have e2' : ∀ g : SX9 → Option (Int32 × SX9), ((fX9_writes y3 58).bind fun o8 => (fX9_writes o8 32).bind g) = g y4 := by
      intro g
      have : ((fX9_writes y3 58).bind fun o8 => (fX9_writes o8 32).bind g) = ((fX9_writes y3 58).bind fun o => fX9_writes o 32).bind g := by
        cases fX9_writes y3 58 with
        | none => rfl
        | some o => rfl
      rw [this, e2, bind_s]
    unfold fX9_says
    rw [ip p hp, bind_s, if_neg n1, ip q hq, bind_s, if_neg n1, allThere9 (by omega) hM, bind_s, ltt_e, show (48 : Int32) = nI 48 from rfl, nI_add, nI_add, a2, bind_s, c2, bind_s, d2, bind_s, e2', f3, bind_s]
  rw [h8, h9]
  by_cases hr : (Rch (2 ^ W - 1) w W (2 ^ q)).testBit p = true
  · rw [if_pos hr, if_neg n1, if_neg n1]
    obtain ⟨E1, g1, g2, g3⟩ := times8T hV.g hN hV.bd hone hq (w_equations x)
    obtain ⟨y6, l1, l2, l3⟩ := find9T hV.g hMA5 hone hp hq
    obtain ⟨u1, u2⟩ := l3 hr
    obtain ⟨u3, u4⟩ := f4 hr
    have hS6 := sd_k (Kp_sd l1) hS5
    have hR6 := l1.q.1 x hR5
    have t1 := tU_r2 (t := 2 ^ W - 1) hV.g hV.bd hp hq hr
    have t2 := tU_r2 (t := 2 ^ W - 1) hV.g hV.bd hq hp (Rch_sym hV.g hp hr)
    have d := bD_31 (t := 2 ^ W - 1) hV.g hV.bd hq
    obtain ⟨v0, v1, z1, z2, z3, z4, z5, z6⟩ := vals (T := tU (2 ^ W - 1) w W p q) (D := bD (2 ^ W - 1) w W q) (D' := if p = q then 1 else bD (2 ^ W - 1) w W q) (by omega) (by omega) d.1 (by omega) (by
      by_cases e : p = q
      · rw [if_pos e]
        exact Or.inr ⟨by unfold tU; rw [if_pos e], rfl⟩
      · rw [if_neg e]
        exact Or.inl rfl)
    obtain ⟨v2, v3, w1, w2, w3, w4, w5, w6⟩ := vals (T := tU (2 ^ W - 1) w W p q + tU (2 ^ W - 1) w W q p) (D := bD (2 ^ W - 1) w W q) (D' := if p = q then 1 else bD (2 ^ W - 1) w W q) (by omega) (by omega) d.1 (by omega) (by
      by_cases e : p = q
      · rw [if_pos e]
        exact Or.inr ⟨by unfold tU; rw [if_pos e, if_pos e.symm]; rfl, rfl⟩
      · rw [if_neg e]
        exact Or.inl rfl)
    rw [← u1, ← u2] at z5 z6
    rw [← g2, ← g3 p hp hr] at z3 z4
    obtain ⟨la, s7, y7, m0, m1, m2, m3, m4⟩ := frac (xs := w_equations_s (w_saying_s x s4) E1) hR6 (by rw [ws6, ws1]; exact hS6) (by omega) z1 z2 (pa := eq_above E1 p) (by rw [ws5]; exact z3) (by rw [ws5]; exact z4) z5 z6
    obtain ⟨s8, y8, o1, o2, o3, o4⟩ := t_one (n := 6 + 2 + la) (x := x) (by omega) (m4.1.1 x hR6) m3
    obtain ⟨E2, r1, r2⟩ := comm8 (x := w_saying_s (w_saying_s (w_equations_s (w_saying_s x s4) E1) s7) s8) hV hN hp hq hr
    have K8 := m4.trans o4
    have c8 : m_commuteUp y8 = zI (tU (2 ^ W - 1) w W p q + tU (2 ^ W - 1) w W q p) := by rw [K8.2.2.2.1, Kp_cu l1, u3]
    have c9 : m_commuteDown y8 = zI (if p = q then 1 else bD (2 ^ W - 1) w W q) := by rw [K8.2.2.2.2, Kp_cd l1, u4]
    rw [← c8, ← c9] at w5 w6
    rw [← r2] at w3 w4
    obtain ⟨lb, s9, y9, j0, j1, j2, j3, j4⟩ := frac (xs := w_equations_s (w_saying_s (w_saying_s (w_equations_s (w_saying_s x s4) E1) s7) s8) E2) (K8.1.1 x hR6) (by rw [ws6, ws1]; exact o3) (by omega) w1 w2 (by rw [ws5]; exact w3) (by rw [ws5]; exact w4) w5 w6
    obtain ⟨s10, y10, i1, i2, i3, i4⟩ := t_both (n := 6 + 2 + la + 8 + lb) (x := x) (by omega) (j4.1.1 x (K8.1.1 x hR6)) j3
    refine ⟨6 + 2 + la + 8 + lb + 9, w_saying_s (w_saying_s (w_equations_s (w_saying_s (w_saying_s (w_equations_s (w_saying_s x s4) E1) s7) s8) E2) s9) s10, y10, by omega, by rw [ws1]; exact i3, ?_, ?_, ?_⟩
    · exact rel_say (rel_say (rel_eq (rel_say (rel_say (rel_eq (rel_say (i4.1.1 x (j4.1.1 x (K8.1.1 x hR6))) s4) E1) s7) s8) E2) s9) s10
    · rw [g1, bind_s, m1, bind_s, ws1, o1, bind_s, r1, bind_s, j1, bind_s, ws1, i1, bind_s]
    · rw [l2, bind_s, m2, bind_s, o2, bind_s, j2, bind_s, i2, bind_s]
  · rw [if_neg hr, if_pos rfl, if_pos rfl]
    obtain ⟨s6, y6, g1, g2, g3, g4⟩ := t_never (n := 6 + 2) (x := x) (by omega) hR5 hS5
    refine ⟨6 + 2 + 4, w_saying_s x s6, y6, by omega, by rw [ws1]; exact g3, rel_say (g4.1.1 x hR5) s6, ?_, ?_⟩
    · rw [g1, bind_s]
    · rw [g2, bind_s]
theorem op_says {x : SX8} {y : SX9} (h : Rel x y) (a b i : Int32) : OpI (fX8_says x a b i) (fX9_says y a b i) := by
  obtain ⟨P, W, w, hV, hN, hM⟩ := h.1
  have n1 : ¬ (1 : Int32) = 0 := by decide
  have hP := hV.2.1
  by_cases ha : 0 ≤ a.toInt ∧ a.toInt < P
  · by_cases hb : 0 ≤ b.toInt ∧ b.toInt < P
    · obtain ⟨p, hp, rfl⟩ := isPt ha
      obtain ⟨q, hq, rfl⟩ := isPt hb
      obtain ⟨n, x', y', k1, k2, k3, k4, k5⟩ := say_both h hV hN hM hp hq i
      rw [k5]
      unfold fX8_says
      rw [isPoint8 hN.1 (by omega), bind_s, if_pos ha, if_neg n1, isPoint8 hN.1 (by omega), bind_s, if_pos hb, if_neg n1, k4, bind_s]
      exact say_tail k3 k2 k1 (nI p) (nI q) i
    · refine opI_no h (c := -1) (by decide) ?_ ?_
      · unfold fX8_says qX8_says_22
        rw [isPoint8 hN.1 (by omega), bind_s, if_pos ha, if_neg n1, isPoint8 hN.1 (by omega), bind_s, if_neg hb, if_pos rfl]
        exact bind_id _
      · unfold fX9_says qX9_says_16
        rw [isPoint9 hM.1 (by omega), bind_s, if_pos ha, if_neg n1, isPoint9 hM.1 (by omega), bind_s, if_neg hb, if_pos rfl]
        exact bind_id _
  · refine opI_no h (c := -1) (by decide) ?_ ?_
    · unfold fX8_says qX8_says_22
      rw [isPoint8 hN.1 (by omega), bind_s, if_neg ha, if_pos rfl]
      exact bind_id _
    · unfold fX9_says qX9_says_16
      rw [isPoint9 hM.1 (by omega), bind_s, if_neg ha, if_pos rfl]
      exact bind_id _
