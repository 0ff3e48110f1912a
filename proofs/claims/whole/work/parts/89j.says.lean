/-! says -/
theorem Kp_sd {y y' : SX9} (h : Kp y y') : m_said y' = m_said y ∧ m_saidMany y' = m_saidMany y := by
  obtain ⟨a, n, mx, rg, ds, u, d, rfl⟩ := h
  exact ⟨rfl, rfl⟩
theorem comm9s {y : SX9} {P A t : Nat} {w : Nat → Wy} (hV : GV P A w) (hM : MA y P A t w) (ht : t < 2 ^ 31) {a b : Nat} (ha : a < P) (hb : b < P) : ∃ y', Kq y y' ∧ (m_said y' = m_said y ∧ m_saidMany y' = m_saidMany y) ∧ fX9_findCommute y (nI a) (nI b) = some (if (Rch t w A (2 ^ b)).testBit a = true then 1 else 0, y') ∧ ((Rch t w A (2 ^ b)).testBit a = true → m_commuteUp y' = zI (tU t w A a b + tU t w A b a) ∧ m_commuteDown y' = zI (if a = b then 1 else bD t w A b)) := by
  obtain ⟨y1, k1, k2, k3⟩ := find9T hV hM ht ha hb
  by_cases hr : (Rch t w A (2 ^ b)).testBit a = true
  · obtain ⟨u1, u2⟩ := k3 hr
    obtain ⟨y2, hy2⟩ : ∃ y2, y2 = m_commuteDown_s (m_commuteUp_s y1 (m_up y1)) (m_down (m_commuteUp_s y1 (m_up y1))) := ⟨_, rfl⟩
    have hK2 : Kq y y2 := by
      rw [hy2]
      exact k1.q.trans ((Kq_cu _ _).trans (Kq_cd _ _))
    have c1 : m_commuteUp y2 = zI (tU t w A a b) := by rw [hy2]; exact u1
    have c2 : m_commuteDown y2 = zI (if a = b then 1 else bD t w A b) := by rw [hy2]; exact u2
    have s2 : m_said y2 = m_said y ∧ m_saidMany y2 = m_saidMany y := by rw [hy2]; exact Kp_sd k1
    obtain ⟨y3, l1, l2, l3⟩ := find9T hV (hK2.2.1 _ _ _ _ hM) ht hb ha
    obtain ⟨v1, v2⟩ := l3 (Rch_sym hV ha hr)
    refine ⟨m_commuteUp_s y3 (m_commuteUp y3 + m_up y3), hK2.trans (l1.q.trans (Kq_cu _ _)), ⟨(Kp_sd l1).1.trans s2.1, (Kp_sd l1).2.trans s2.2⟩, ?_, fun _ => ⟨?_, ?_⟩⟩
    · unfold fX9_findCommute
      rw [k2, bind_s, if_pos hr, if_neg (show ¬ (1 : Int32) = 0 by decide), ltt_e, ltt_e, ltt_e, ltt_e, ← hy2, l2, bind_s, ltt_e, ltt_e]
    · show m_commuteUp y3 + m_up y3 = _
      rw [Kp_cu l1, c1, v1, zI_add]
    · show m_commuteDown y3 = _
      rw [Kp_cd l1, c2]
  · refine ⟨y1, k1.q, Kp_sd k1, ?_, fun h => absurd h hr⟩
    unfold fX9_findCommute
    rw [k2, bind_s, if_neg hr, if_pos rfl]
theorem tU_r2 {P A t a b : Nat} {w : Nat → Wy} (hV : GV P A w) (hB : Bd A w) (ha : a < P) (hb : b < P) (hr : (Rch t w A (2 ^ b)).testBit a = true) : 0 ≤ tU t w A a b ∧ tU t w A a b < 2 ^ 39 := by
  have hP := hV.2.1
  unfold tU
  by_cases hab : a = b
  · rw [if_pos hab]; decide
  rw [if_neg hab]
  obtain ⟨hGL, hn, hD, -⟩ := sys_b (t := t) hV hB hb
  have hO := op_lt (t := t) hV (two_lt hb)
  have hq := diag_tot (t := t) hV hO
  have hOa : (op t w A (2 ^ b)).testBit a = true := by
    rw [op_bit, hr]
    simp
    exact fun z => hab z.symm
  have hsum := du_tot (t := t) hV (fT w) hO
  generalize op t w A (2 ^ b) = O at *
  have hj := ct_lt hO (show a < 6 by omega) hOa
  generalize ct O a = j at *
  generalize hnn : ct O 6 = n at *
  obtain ⟨m, rfl⟩ : ∃ m, n = m + 1 := ⟨n - 1, by omega⟩
  have hX := X_col hGL (show j ≤ m by omega) (g := fun i => du t w (fT w) A (el O i)) (fun i _ => du_1 _)
  have h0 := ((Iv_all hGL (m + 1) (Nat.le_refl _)).2.2.2.1 (fun i => du t w (fT w) A (el O i)) (fun i _ => du_1 _)).2 j hj
  have hBd := GL_del hGL (show j ≤ m by omega)
  have hqB : sm m (fun l => dr j (dc j (MO t w A O)) l l) ≤ ((2 * (sN A (fS w) + 1) : Nat) : Int) := by
    have e := sm_skip (show j ≤ m by omega) (fun l => MO t w A O l l)
    have e3 : sm m (fun l => dr j (dc j (MO t w A O)) l l) = sm m (fun q => MO t w A O (if q < j then q else q + 1) (if q < j then q else q + 1)) := rfl
    have := gl_diag hGL hj
    omega
  have hd := (Iv_all hBd m (Nat.le_refl m)).1
  have hd2 : dt m (dr j (dc j (MO t w A O))) ≤ 68574961 := by
    have db := d_bnd hBd hqB (by omega) (Nat.le_refl m)
    have hq1 := hB.1
    generalize hqq : 2 * (sN A (fS w) + 1) = q at *
    have q1 : (q : Int) ≤ 364 := by omega
    have q0 : (0 : Int) ≤ q := by omega
    have s2 : (q : Int) * q ≤ 364 * 364 := mm q1 q1 q0 (by decide)
    have s2n := Int.mul_nonneg q0 q0
    have s3 : (q : Int) * q * q ≤ 364 * 364 * 364 := mm s2 q1 q0 (by decide)
    have s3n := Int.mul_nonneg s2n q0
    have s4 : (q : Int) * q * q * q ≤ 364 * 364 * 364 * 364 := mm s3 q1 q0 (by decide)
    by_cases h3 : m ≤ 3
    · have := db.1 h3
      omega
    · have := db.2 (by omega)
      omega
  have hs : sm (m + 1) (fun i => du t w (fT w) A (el O i)) ≤ 4700 := by have := hB.2; omega
  have u := mm hs hd2 (by omega) (by decide)
  exact ⟨h0, by omega⟩
theorem vals {T D D' : Int} (t0 : 0 ≤ T) (t1 : T < 2 ^ 40) (d0 : 0 < D) (d1 : D < 2 ^ 40) (h : D' = D ∨ (T = 0 ∧ D' = 1)) : ∃ v0 v1 : Nat, v0 < 10 ^ 13 ∧ v1 < 10 ^ 13 ∧ fX8_leastTerms (zI T) (zI D) 0 = some (lN v0) ∧ fX8_leastTerms (zI T) (zI D) 1 = some (lN v1) ∧ fX9_partOf (zI T) (zI D') 0 = some (lN v0) ∧ fX9_partOf (zI T) (zI D') 1 = some (lN v1) := by
  have n1 : ¬ (1 : Int32) = 0 := by decide
  rcases h with rfl | ⟨rfl, rfl⟩
  · obtain ⟨A, rfl⟩ : ∃ A : Nat, T = A := ⟨T.toNat, by omega⟩
    obtain ⟨B, rfl⟩ : ∃ B : Nat, D' = B := ⟨D'.toNat, by omega⟩
    have g1 : 0 < Nat.gcd A B := Nat.gcd_pos_of_pos_right _ (by omega)
    have l1 : Nat.gcd A B ≤ B := Nat.gcd_le_right _ (by omega)
    have e0 : zI (A : Int) / lN (Nat.gcd A B) = lN (A / Nat.gcd A B) := by rw [← lN_zI (by omega), pk_lDiv (by omega) g1 (by omega)]
    have e1 : zI (B : Int) / lN (Nat.gcd A B) = lN (B / Nat.gcd A B) := by rw [← lN_zI (by omega), pk_lDiv (by omega) g1 (by omega)]
    have q0 := lt8 (a := A) (b := B) (by omega) (by omega) (by omega) (by omega) 0
    have q1 := lt8 (a := A) (b := B) (by omega) (by omega) (by omega) (by omega) 1
    have p0 := lt9 (a := A) (b := B) (by omega) (by omega) (by omega) (by omega) 0
    have p1 := lt9 (a := A) (b := B) (by omega) (by omega) (by omega) (by omega) 1
    rw [if_pos rfl, Int.natAbs_natCast, Int.natAbs_natCast, e0] at q0 p0
    rw [if_neg n1, Int.natAbs_natCast, Int.natAbs_natCast, e1] at q1 p1
    have := Nat.div_le_self A (Nat.gcd A B)
    have := Nat.div_le_self B (Nat.gcd A B)
    exact ⟨_, _, by omega, by omega, q0, q1, p0, p1⟩
  · obtain ⟨r0, a0, b0⟩ := LT0 d0 (show D < 2 ^ 48 by omega) 0
    obtain ⟨r1, a1, b1⟩ := LT0 d0 (show D < 2 ^ 48 by omega) 1
    have h0 : fX9_partOf 0 1 0 = some (lN 0) ∧ fX9_partOf 0 1 1 = some (lN 1) := by decide +kernel
    refine ⟨0, 1, by decide, by decide, ?_, ?_, h0.1, h0.2⟩
    · exact a0.trans (b0.symm.trans h0.1)
    · exact a1.trans (b1.symm.trans h0.2)
def q9c : Nat → SX9 → Int32 → Option SX9 := fun _ y i => if i = 0 then (fX9_writes y 58).bind fun o => fX9_writes o 32 else if i = 1 then fX9_writes y 32 else some y
def q9s : Nat → SX9 → Int32 → Option SX9 := fun _ y i => if i = 0 then fX9_writes y 47 else some y
theorem txt {k n : Nat} (hk : k < 12) {q9 : Nat → SX9 → Int32 → Option SX9} {x : SX8} (h1 : ∀ fu y i, Rel x y → i < gtl.getD k 0 → q9 (fu + 1) y (nI i) = (fX9_writes y (tc k i)).bind fun o => q9 fu o (nI (i + 1))) (h2 : ∀ fu y, q9 (fu + 1) y (nI (gtl.getD k 0)) = some y) (hn : n + 10 ≤ 120) {s : SX4} {y : SX9} (hR : Rel x y) (hS : SDn n s y) : ∃ s' y', fX4_addText s k = some s' ∧ q9 FU y 0 = some y' ∧ SDn (n + gtl.getD k 0) s' y' ∧ Ks y y' := by
  have hl := (fin_len12 k hk).2
  obtain ⟨s', y', a1, a2, a3, a4⟩ := txt_loop hk q9 (fun y => Rel x y) (fun _ _ hks hr => hks.1.1 x hr) h1 h2 (gtl.getD k 0) FU 0 n s y (by omega) (by unfold FU; omega) (by omega) hR hS
  refine ⟨s', y', ?_, ?_, a3, a4⟩
  · unfold fX4_addText
    rw [show (0 : Int32) = nI 0 from rfl, a1]
  · rw [show (0 : Int32) = nI 0 from rfl, a2]
theorem fin_said : (∀ i, i < 4 → m_to iX9 i = tc 6 i) ∧ (∀ i, i < 5 → m_never iX9 i = tc 8 i) ∧ (∀ i, i < 8 → m_one iX9 i = tc 10 i) ∧ (∀ i, i < 10 → m_both iX9 i = tc 11 i) := by decide +kernel
theorem t_to {n : Nat} {x : SX8} (hn : n + 10 ≤ 120) {s : SX4} {y : SX9} (hR : Rel x y) (hS : SDn n s y) : ∃ s' y', fX4_addText s 6 = some s' ∧ fX9_saysAll_23 y = some y' ∧ SDn (n + 4) s' y' ∧ Ks y y' := txt (k := 6) (by decide) (q9 := qX9_saysAll_23_2) (fun fu y i hR hi => by
  have hi' : i < 4 := hi
  rw [qX9_saysAll_23_2, if_neg (show ¬ (4 : Int32) ≤ nI i from nI_ge (b := 4) hi' (by decide)), ga_ok hi' (by decide), hR.2.2.2.2.2.2.2.2.2.2.1, fin_said.1 i hi']
  simp only [ltt, nI_1]) (fun fu y => by rw [qX9_saysAll_23_2, if_pos (show (4 : Int32) ≤ nI (gtl.getD 6 0) by decide)]) hn hR hS
theorem t_never {n : Nat} {x : SX8} (hn : n + 10 ≤ 120) {s : SX4} {y : SX9} (hR : Rel x y) (hS : SDn n s y) : ∃ s' y', fX4_addText s 8 = some s' ∧ fX9_saysAll_24 y = some y' ∧ SDn (n + 5) s' y' ∧ Ks y y' := txt (k := 8) (by decide) (q9 := qX9_saysAll_24_2) (fun fu y i hR hi => by
  have hi' : i < 5 := hi
  rw [qX9_saysAll_24_2, if_neg (show ¬ (5 : Int32) ≤ nI i from nI_ge (b := 5) hi' (by decide)), ga_ok hi' (by decide), hR.2.2.2.2.2.2.2.2.2.2.2.1, fin_said.2.1 i hi']
  simp only [ltt, nI_1]) (fun fu y => by rw [qX9_saysAll_24_2, if_pos (show (5 : Int32) ≤ nI (gtl.getD 8 0) by decide)]) hn hR hS
theorem t_one {n : Nat} {x : SX8} (hn : n + 10 ≤ 120) {s : SX4} {y : SX9} (hR : Rel x y) (hS : SDn n s y) : ∃ s' y', fX4_addText s 10 = some s' ∧ fX9_saysAll_25 y = some y' ∧ SDn (n + 8) s' y' ∧ Ks y y' := txt (k := 10) (by decide) (q9 := qX9_saysAll_25_2) (fun fu y i hR hi => by
  have hi' : i < 8 := hi
  rw [qX9_saysAll_25_2, if_neg (show ¬ (8 : Int32) ≤ nI i from nI_ge (b := 8) hi' (by decide)), ga_ok hi' (by decide), hR.2.2.2.2.2.2.2.2.2.2.2.2.1, fin_said.2.2.1 i hi']
  simp only [ltt, nI_1]) (fun fu y => by rw [qX9_saysAll_25_2, if_pos (show (8 : Int32) ≤ nI (gtl.getD 10 0) by decide)]) hn hR hS
theorem t_both {n : Nat} {x : SX8} (hn : n + 10 ≤ 120) {s : SX4} {y : SX9} (hR : Rel x y) (hS : SDn n s y) : ∃ s' y', fX4_addText s 11 = some s' ∧ fX9_saysAll_26 y = some y' ∧ SDn (n + 10) s' y' ∧ Ks y y' := txt (k := 11) (by decide) (q9 := qX9_saysAll_26_2) (fun fu y i hR hi => by
  have hi' : i < 10 := hi
  rw [qX9_saysAll_26_2, if_neg (show ¬ (10 : Int32) ≤ nI i from nI_ge (b := 10) hi' (by decide)), ga_ok hi' (by decide), hR.2.2.2.2.2.2.2.2.2.2.2.2.2, fin_said.2.2.2 i hi']
  simp only [ltt, nI_1]) (fun fu y => by rw [qX9_saysAll_26_2, if_pos (show (10 : Int32) ≤ nI (gtl.getD 11 0) by decide)]) hn hR hS
theorem t_col {n : Nat} {x : SX8} (hn : n + 10 ≤ 120) {s : SX4} {y : SX9} (hR : Rel x y) (hS : SDn n s y) : ∃ s' y', fX4_addText s 7 = some s' ∧ ((fX9_writes y 58).bind fun o => fX9_writes o 32) = some y' ∧ SDn (n + 2) s' y' ∧ Ks y y' := txt (k := 7) (by decide) (q9 := q9c) (fun fu y i hR hi => by
  have hi' : i < 2 := hi
  have hc : i = 0 ∨ i = 1 := by omega
  rcases hc with rfl | rfl
  · rfl
  · show fX9_writes y 32 = (fX9_writes y 32).bind fun o => some o
    rw [bind_self]) (fun fu y => rfl) hn hR hS
theorem t_sl {n : Nat} {x : SX8} (hn : n + 10 ≤ 120) {s : SX4} {y : SX9} (hR : Rel x y) (hS : SDn n s y) : ∃ s' y', fX4_addText s 9 = some s' ∧ fX9_writes y 47 = some y' ∧ SDn (n + 1) s' y' ∧ Ks y y' := txt (k := 9) (by decide) (q9 := q9s) (fun fu y i hR hi => by
  have hi' : i < 1 := hi
  have hc : i = 0 := by omega
  subst hc
  show fX9_writes y 47 = (fX9_writes y 47).bind fun o => some o
  rw [bind_self]) (fun fu y => rfl) hn hR hS
theorem frac {x xs : SX8} {n : Nat} {y : SX9} (hR : Rel x y) (hS : SDn n (w_saying xs) y) (hn : n + 40 ≤ 120) {v0 v1 : Nat} (h0 : v0 < 10 ^ 13) (h1 : v1 < 10 ^ 13) {pa ua ub : Int64} (e0 : fX8_leastTerms pa (eq_below (w_equations xs)) 0 = some (lN v0)) (e1 : fX8_leastTerms pa (eq_below (w_equations xs)) 1 = some (lN v1)) (f0 : fX9_partOf ua ub 0 = some (lN v0)) (f1 : fX9_partOf ua ub 1 = some (lN v1)) : ∃ l s' y', l ≤ 27 ∧ fX8_sayFraction xs pa = some (w_saying_s xs s') ∧ fX9_saysFraction y ua ub = some y' ∧ SDn (n + l) s' y' ∧ Ks y y' := by
  obtain ⟨l1, s1, y1, a0, a1, a2, a3, a4⟩ := num_both2 h0 (show n + 13 ≤ 120 by omega) hS
  by_cases hone : lN v1 = 1
  · refine ⟨l1, s1, y1, by omega, ?_, ?_, a3, a4⟩
    · unfold fX8_sayFraction
      rw [e1, bind_s, e0, bind_s, a1, bind_s, ltt_e, if_pos hone]
    · unfold fX9_saysFraction
      rw [f0, bind_s, a2, bind_s, f1, bind_s, if_pos hone]
  · obtain ⟨s2, y2, b1, b2, b3, b4⟩ := t_sl (n := n + l1) (by omega) (a4.1.1 x hR) a3
    obtain ⟨l3, s3, y3, c0, c1, c2, c3, c4⟩ := num_both2 h1 (show n + l1 + 1 + 13 ≤ 120 by omega) b3
    refine ⟨l1 + 1 + l3, s3, y3, by omega, ?_, ?_, by rw [show n + (l1 + 1 + l3) = n + l1 + 1 + l3 by omega]; exact c3, a4.trans (b4.trans c4)⟩
    · unfold fX8_sayFraction
      rw [e1, bind_s, e0, bind_s, a1, bind_s, ltt_e, if_neg hone, show w_saying (w_saying_s xs s1) = s1 from rfl, b1, bind_s, ltt_e, show w_saying (w_saying_s (w_saying_s xs s1) s2) = s2 from rfl, c1, bind_s, ltt_e]
    · unfold fX9_saysFraction
      rw [f0, bind_s, a2, bind_s, f1, bind_s, if_neg hone, b2, bind_s, bind_s, c2, bind_s]
theorem num1 {v : Nat} (hv : v < 10) {s s1 : SX4} (a1 : fX4_addLetter s (nI (48 + v)) = some s1) : fX4_addNumber s (lN v) = some s1 := by
  have a8 := num5 (v := v) (m := 0) hv (by decide) (Or.inl rfl) s 0 FU 0 (by omega) (by unfold FU; omega)
  have hne : ¬ lN (10 ^ 0) = (0 : Int64) := by decide
  have hrem : (((lN v / lN (10 ^ 0)) - (lN v / lN (10 ^ 0)) / (10 : Int64) * (10 : Int64)).toInt32) = nI v := by
    rw [pk_lDiv (by omega) (by decide) (by decide), show (10 : Int64) = lN 10 by decide, show v / 10 ^ 0 = v by simp, pk_lRem (by omega) (by decide) (by decide), lN_32 (by omega), Nat.mod_eq_of_lt hv]
  unfold fX4_addNumber
  rw [show (1 : Int64) = lN (10 ^ 0) by decide, show (0 : Int32) = nI 0 from rfl, a8, show FU = 1998 + 1 + 1 from rfl, qX4_addNumber_37, if_neg (show ¬ (18 : Int32) ≤ 0 by decide), if_neg (show ¬ lN (10 ^ 0) ≤ (0 : Int64) by decide)]
  unfold gzl
  rw [if_neg hne, hrem, show (48 : Int32) = nI 48 from rfl, nI_add, a1, bind_s, ltt_e, ltt_e, qX4_addNumber_37, if_neg (show ¬ (18 : Int32) ≤ 0 + 1 by decide), if_pos (show lN (10 ^ 0) / (10 : Int64) ≤ 0 by decide)]
