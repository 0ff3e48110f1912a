/-! whichever end: the same below the line -/
theorem Rch_eq {P A t a b : Nat} {w : Nat → Wy} (hV : GV P A w) (ha : a < P) (hb : b < P) (h : (Rch t w A (2 ^ b)).testBit a = true) : Rch t w A (2 ^ a) = Rch t w A (2 ^ b) := by
  have h' := Rch_sym hV ha h
  apply bit_eq
  intro j
  apply Bool.eq_iff_iff.mpr
  constructor
  · exact Rch_min (Rch_cl hV (two_lt hb)) (fun i hi => by
      rw [two_bit] at hi
      rw [← of_decide_eq_true hi]
      exact h) j
  · exact Rch_min (Rch_cl hV (two_lt ha)) (fun i hi => by
      rw [two_bit] at hi
      rw [← of_decide_eq_true hi]
      exact h') j
theorem row_0 {P A t C z : Nat} {w : Nat → Wy} (hV : GV P A w) (hC : Cl t w A C) (hz : C.testBit z = true) (hz6 : z < 6) : sm 6 (fun y => if C.testBit y = true then lp t w A z y else 0) = 0 := by
  have h : ∀ y, y < 6 → (if C.testBit y = true then lp t w A z y else 0) = sm A (fun k => if C.testBit y = true then lw t w k z y else 0) := by
    intro y _
    by_cases hb : C.testBit y = true
    · rw [if_pos hb]
      exact sm_cg fun k _ => by rw [if_pos hb]
    · rw [if_neg hb]
      exact (sm_z fun k _ => by rw [if_neg hb]).symm
  rw [sm_cg h, sm_swap]
  refine sm_z fun k hk => ?_
  rw [lw_row hV.2.1 (hV.2.2.2 k hk) hz hz6]
  unfold sw_
  by_cases ht : t.testBit k = true
  · rw [if_pos ht, if_neg (fun q => by
      rcases q with ⟨q1, q2⟩ | ⟨q1, q2⟩
      · have := (hC k hk ht (Or.inl (by rw [q1]; exact hz))).2
        rw [this] at q2
        exact absurd q2 (by decide)
      · have := (hC k hk ht (Or.inr (by rw [q1]; exact hz))).1
        rw [this] at q2
        exact absurd q2 (by decide))]
  · rw [if_neg ht]
theorem gsol {P A t a b : Nat} {w : Nat → Wy} (hV : GV P A w) (hB : Bd A w) (ha : a < P) (hb : b < P) (hab : a ≠ b) (h : (Rch t w A (2 ^ b)).testBit a = true) : ∃ XX : Nat → Int, (∀ y, ¬ (op t w A (2 ^ b)).testBit y = true → XX y = 0) ∧ (∀ z, z < 6 → (op t w A (2 ^ b)).testBit z = true → sm 6 (fun y => lp t w A z y * XX y) = dt (ct (op t w A (2 ^ b)) 6) (MO t w A (op t w A (2 ^ b))) * un a z) ∧ sm 6 (fun y => lp t w A b y * XX y) = - dt (ct (op t w A (2 ^ b)) 6) (MO t w A (op t w A (2 ^ b))) ∧ XX a = dt (ct (andn (op t w A (2 ^ b)) (2 ^ a)) 6) (MO t w A (andn (op t w A (2 ^ b)) (2 ^ a))) ∧ 0 < XX a := by
  have hP := hV.2.1
  obtain ⟨hGL, hn, hD, -⟩ := sys_b (t := t) hV hB hb
  have hO := op_lt (t := t) hV (two_lt hb)
  have hbit : ∀ y, (op t w A (2 ^ b)).testBit y = ((Rch t w A (2 ^ b)).testBit y && !decide (b = y)) := fun y => op_bit
  have hCl := Rch_cl (t := t) hV (two_lt hb)
  have hbC : (Rch t w A (2 ^ b)).testBit b = true := Rch_start (by rw [two_bit]; simp)
  generalize Rch t w A (2 ^ b) = C at *
  generalize op t w A (2 ^ b) = O at *
  have hOa : O.testBit a = true := by
    rw [hbit, h]
    simp
    exact fun z => hab z.symm
  have hOC : ∀ y, O.testBit y = true → C.testBit y = true := fun y hy => by
    rw [hbit] at hy
    simp only [Bool.and_eq_true] at hy
    exact hy.1
  have hCO : ∀ y, C.testBit y = true → y ≠ b → O.testBit y = true := fun y hy hne => by
    rw [hbit, hy]
    simp
    exact fun z => hne z.symm
  have hcta := ct_lt hO (show a < 6 by omega) hOa
  have hel : ∀ z, z < 6 → O.testBit z = true → el O (ct O z) = z := fun z hz hb => (fin_el O hO z hz hb).1
  obtain ⟨XX, hXX⟩ : ∃ XX : Nat → Int, XX = fun y => if O.testBit y = true then Xk (MO t w A O) (ct O 6) (ct O y) (un (ct O a)) else 0 := ⟨_, rfl⟩
  have h1 : ∀ y, ¬ O.testBit y = true → XX y = 0 := fun y hy => by rw [hXX]; exact if_neg hy
  have h2 : ∀ z, z < 6 → O.testBit z = true → sm 6 (fun y => lp t w A z y * XX y) = dt (ct O 6) (MO t w A O) * un a z := fun z hz hzO => by
    have hc := Xk_c (A := MO t w A O) (ct_lt hO hz hzO) (un (ct O a))
    have e1 : sm (ct O 6) (fun j => MO t w A O (ct O z) j * Xk (MO t w A O) (ct O 6) j (un (ct O a))) = sm (ct O 6) (fun j => (fun y => lp t w A z y * XX y) (el O j)) := sm_cg fun j hj => by
      obtain ⟨f1, f2, f3⟩ := fin_eli O hO j hj
      show lp t w A (el O (ct O z)) (el O j) * _ = lp t w A z (el O j) * XX (el O j)
      rw [hel z hz hzO, hXX]
      show _ = _ * (if O.testBit (el O j) = true then Xk (MO t w A O) (ct O 6) (ct O (el O j)) (un (ct O a)) else 0)
      rw [if_pos f2, f3]
    rw [e1, re_sum hO (fun y => lp t w A z y * XX y) 6 (Nat.le_refl 6)] at hc
    have e2 : sm 6 (fun y => if O.testBit y = true then lp t w A z y * XX y else 0) = sm 6 (fun y => lp t w A z y * XX y) := sm_cg fun y _ => by
      by_cases hy : O.testBit y = true
      · rw [if_pos hy]
      · rw [if_neg hy, h1 y hy, Int.mul_zero]
    rw [e2] at hc
    rw [hc]
    congr 1
    have := un_el hO (show a < 6 by omega) hOa (ct_lt hO hz hzO)
    rw [hel z hz hzO] at this
    exact this.symm
  have h3 : sm 6 (fun y => lp t w A b y * XX y) = - dt (ct O 6) (MO t w A O) := by
    have e1 : sm 6 (fun z => if C.testBit z = true then sm 6 (fun y => lp t w A z y * XX y) else 0) = 0 := by
      have e : ∀ z, z < 6 → (if C.testBit z = true then sm 6 (fun y => lp t w A z y * XX y) else 0) = sm 6 (fun y => XX y * (if C.testBit z = true then lp t w A y z else 0)) := fun z _ => by
        by_cases hz : C.testBit z = true
        · rw [if_pos hz]
          exact sm_cg fun y _ => by rw [if_pos hz, lp_sym t w A z y, Int.mul_comm]
        · rw [if_neg hz]
          exact (sm_z fun y _ => by rw [if_neg hz, Int.mul_zero]).symm
      rw [sm_cg e, sm_swap]
      refine sm_z fun y hy => ?_
      rw [sm_ml]
      by_cases hyO : O.testBit y = true
      · rw [row_0 hV hCl (hOC y hyO) hy, Int.mul_zero]
      · rw [h1 y hyO, Int.zero_mul]
    have e2 : ∀ z, z < 6 → (if C.testBit z = true then sm 6 (fun y => lp t w A z y * XX y) else 0) = (if z = b then sm 6 (fun y => lp t w A b y * XX y) else 0) + (if z = a then dt (ct O 6) (MO t w A O) else 0) := fun z hz => by
      by_cases hzb : z = b
      · subst hzb
        rw [if_pos hbC, if_pos rfl, if_neg (fun q => hab q.symm), Int.add_zero]
      · by_cases hzC : C.testBit z = true
        · rw [if_pos hzC, if_neg hzb, h2 z hz (hCO z hzC hzb), Int.zero_add]
          unfold un
          by_cases hza : z = a
          · rw [if_pos hza, if_pos hza, Int.mul_one]
          · rw [if_neg hza, if_neg hza, Int.mul_zero]
        · rw [if_neg hzC, if_neg hzb, if_neg (fun q => hzC (by rw [q]; exact h))]
          rfl
    rw [sm_cg e2, sm_add, sm_pt (by omega), sm_pt (by omega)] at e1
    omega
  have h4 : XX a = dt (ct (andn O (2 ^ a)) 6) (MO t w A (andn O (2 ^ a))) ∧ 0 < XX a := by
    obtain ⟨l1, l2⟩ := fin_dela O hO a (by omega) hOa
    obtain ⟨m, hm⟩ : ∃ m, ct O 6 = m + 1 := ⟨ct O 6 - 1, by omega⟩
    have e0 : XX a = dt m (dr (ct O a) (dc (ct O a) (MO t w A O))) := by
      rw [hXX]
      show (if O.testBit a = true then Xk (MO t w A O) (ct O 6) (ct O a) (un (ct O a)) else 0) = _
      rw [if_pos hOa, hm, un_rc (by omega)]
    have hG1 : GL (m + 1) (MO t w A O) := by rw [← hm]; exact hGL
    have hpos := (Iv_all (GL_del hG1 (show ct O a ≤ m by omega)) m (Nat.le_refl m)).1
    rw [← e0] at hpos
    refine ⟨?_, hpos⟩
    rw [e0, l2, hm, Nat.add_sub_cancel]
    apply dt_cg
    intro i q hi hq
    show lp t w A (el O (if i < ct O a then i else i + 1)) (el O (if q < ct O a then q else q + 1)) = lp t w A (el (andn O (2 ^ a)) i) (el (andn O (2 ^ a)) q)
    rw [fin_delb O hO a (by omega) i (by omega) hOa (by omega), fin_delb O hO a (by omega) q (by omega) hOa (by omega)]
  exact ⟨XX, h1, h2, h3, h4.1, h4.2⟩
theorem ground {P A t a b : Nat} {w : Nat → Wy} (hV : GV P A w) (hB : Bd A w) (ha : a < P) (hb : b < P) (h : (Rch t w A (2 ^ b)).testBit a = true) : dt (ct (op t w A (2 ^ a)) 6) (MO t w A (op t w A (2 ^ a))) = dt (ct (op t w A (2 ^ b)) 6) (MO t w A (op t w A (2 ^ b))) := by
  by_cases hab : a = b
  · rw [hab]
  have hP := hV.2.1
  obtain ⟨XX, x1, x2, x3, x4, x5⟩ := gsol hV hB ha hb hab h
  obtain ⟨ZZ, z1, z2, z3, z4, z5⟩ := gsol hV hB hb ha (fun q => hab q.symm) (Rch_sym hV ha h)
  obtain ⟨hGL, hn, hD, -⟩ := sys_b (t := t) hV hB hb
  have hO := op_lt (t := t) hV (two_lt hb)
  have hCl := Rch_cl (t := t) hV (two_lt hb)
  have hbitb : ∀ y, (op t w A (2 ^ b)).testBit y = ((Rch t w A (2 ^ b)).testBit y && !decide (b = y)) := fun y => op_bit
  have hbita : ∀ y, (op t w A (2 ^ a)).testBit y = ((Rch t w A (2 ^ a)).testBit y && !decide (a = y)) := fun y => op_bit
  have hK : andn (op t w A (2 ^ b)) (2 ^ a) = andn (op t w A (2 ^ a)) (2 ^ b) := by
    apply bit_eq
    intro y
    rw [andn_bit, andn_bit, hbitb, hbita, two_bit, two_bit, Rch_eq hV ha hb h]
    cases (Rch t w A (2 ^ b)).testBit y <;> simp [Bool.and_comm]
  rw [hK] at x4
  have hXZ : XX a = ZZ b := x4.trans z4.symm
  rw [Rch_eq hV ha hb h] at hbita
  have hbC : (Rch t w A (2 ^ b)).testBit b = true := Rch_start (by rw [two_bit]; simp)
  generalize Rch t w A (2 ^ b) = C at *
  generalize op t w A (2 ^ b) = O at *
  generalize op t w A (2 ^ a) = Q at *
  generalize dt (ct Q 6) (MO t w A Q) = Da at *
  have hOa : O.testBit a = true := by
    rw [hbitb, h]
    simp
    exact fun z => hab z.symm
  have hOC : ∀ y, O.testBit y = true → C.testBit y = true ∧ y ≠ b := fun y hy => by
    rw [hbitb] at hy
    simp only [Bool.and_eq_true] at hy
    refine ⟨hy.1, fun q => ?_⟩
    rw [q] at hy
    simp at hy
  have hQC : ∀ y, Q.testBit y = true → C.testBit y = true := fun y hy => by
    rw [hbita] at hy
    simp only [Bool.and_eq_true] at hy
    exact hy.1
  have hQ : ∀ y, C.testBit y = true → y ≠ a → Q.testBit y = true := fun y hy hne => by
    rw [hbita, hy]
    simp
    exact fun z => hne z.symm
  have hZa : ZZ a = 0 := z1 a (by rw [hbita]; simp)
  have hXb : XX b = 0 := x1 b (by rw [hbitb]; simp)
  have hzz : ∀ z, z < 6 → O.testBit z = true → sm 6 (fun y => lp t w A z y * ZZ y) = - (Da * un a z) := fun z hz hzO => by
    obtain ⟨c1, c2⟩ := hOC z hzO
    by_cases e : z = a
    · subst e
      rw [z3]
      unfold un
      rw [if_pos rfl]
      omega
    · rw [z2 z hz (hQ z c1 e)]
      unfold un
      rw [if_neg c2, if_neg e]
      omega
  have hV0 : ∀ i, i < ct O 6 → sm (ct O 6) (fun j => MO t w A O i j * (Da * XX (el O j) + dt (ct O 6) (MO t w A O) * ZZ (el O j) - dt (ct O 6) (MO t w A O) * ZZ b)) = 0 := by
    intro i hi
    obtain ⟨f1, f2, f3⟩ := fin_eli O hO i hi
    have e1 := re_sum hO (fun y => lp t w A (el O i) y * (Da * XX y + dt (ct O 6) (MO t w A O) * ZZ y - dt (ct O 6) (MO t w A O) * ZZ b)) 6 (Nat.le_refl 6)
    have e2 : sm (ct O 6) (fun j => MO t w A O i j * (Da * XX (el O j) + dt (ct O 6) (MO t w A O) * ZZ (el O j) - dt (ct O 6) (MO t w A O) * ZZ b)) = sm (ct O 6) (fun i_1 => lp t w A (el O i) (el O i_1) * (Da * XX (el O i_1) + dt (ct O 6) (MO t w A O) * ZZ (el O i_1) - dt (ct O 6) (MO t w A O) * ZZ b)) := rfl
    have e3 : ∀ y, y < 6 → (if O.testBit y = true then lp t w A (el O i) y * (Da * XX y + dt (ct O 6) (MO t w A O) * ZZ y - dt (ct O 6) (MO t w A O) * ZZ b) else 0) = Da * (lp t w A (el O i) y * XX y) + dt (ct O 6) (MO t w A O) * (lp t w A (el O i) y * ZZ y) - dt (ct O 6) (MO t w A O) * ZZ b * (if C.testBit y = true then lp t w A (el O i) y else 0) := by
      intro y hy
      by_cases hyO : O.testBit y = true
      · rw [if_pos hyO, if_pos (hOC y hyO).1]
        grind
      · by_cases hyC : C.testBit y = true
        · have hyb : y = b := Classical.byContradiction fun hne => hyO (by
            rw [hbitb, hyC]
            simp
            exact fun z => hne z.symm)
          rw [if_neg hyO, if_pos hyC, hyb, hXb]
          grind
        · rw [if_neg hyO, if_neg hyC, x1 y hyO, z1 y (fun z => hyC (hQC y z))]
          grind
    rw [e2, e1, sm_cg e3, sm_sub, sm_add, sm_ml, sm_ml, sm_ml, x2 _ f1 f2, hzz _ f1 f2, row_0 hV hCl (hOC _ f2).1 f1]
    grind
  have := inj hGL.1 (by omega) hV0 (ct_lt hO (show a < 6 by omega) hOa)
  simp only [(fin_el O hO a (by omega) hOa).1, hZa] at this
  have e : (Da - dt (ct O 6) (MO t w A O)) * XX a = 0 := by
    rw [← hXZ] at this
    grind
  rcases Int.mul_eq_zero.mp e with q | q
  · omega
  · omega
