/-! ahead -/
theorem red {a b c d : Nat} (hb : 0 < b) (hd : 0 < d) (h : a * d = c * b) : a / Nat.gcd a b = c / Nat.gcd c d ∧ b / Nat.gcd a b = d / Nat.gcd c d := by
  have hg : 0 < Nat.gcd a b := Nat.gcd_pos_of_pos_right _ hb
  have hh : 0 < Nat.gcd c d := Nat.gcd_pos_of_pos_right _ hd
  have c1 := Nat.coprime_div_gcd_div_gcd hg
  have c2 := Nat.coprime_div_gcd_div_gcd hh
  have a1 : a = Nat.gcd a b * (a / Nat.gcd a b) := (Nat.mul_div_cancel' (Nat.gcd_dvd_left a b)).symm
  have b1 : b = Nat.gcd a b * (b / Nat.gcd a b) := (Nat.mul_div_cancel' (Nat.gcd_dvd_right a b)).symm
  have a2 : c = Nat.gcd c d * (c / Nat.gcd c d) := (Nat.mul_div_cancel' (Nat.gcd_dvd_left c d)).symm
  have b2 : d = Nat.gcd c d * (d / Nat.gcd c d) := (Nat.mul_div_cancel' (Nat.gcd_dvd_right c d)).symm
  generalize Nat.gcd a b = g at *
  generalize Nat.gcd c d = k at *
  generalize a / g = x at *
  generalize b / g = y at *
  generalize c / k = z at *
  generalize d / k = u at *
  subst a1 b1 a2 b2
  have e : x * u = z * y := by
    have h1 : (g * k) * (x * u) = (g * k) * (z * y) := by grind
    exact Nat.eq_of_mul_eq_mul_left (Nat.mul_pos hg hh) h1
  have d1 : x ∣ z := c1.dvd_of_dvd_mul_right (Nat.dvd_trans (Nat.dvd_mul_right x u) (e ▸ Nat.dvd_refl _))
  have d2 : z ∣ x := c2.dvd_of_dvd_mul_right (Nat.dvd_trans (Nat.dvd_mul_right z y) (e ▸ Nat.dvd_refl _))
  have hxz : x = z := Nat.dvd_antisymm d1 d2
  subst hxz
  refine ⟨rfl, ?_⟩
  by_cases h0 : x = 0
  · subst h0
    have y1 : y = 1 := by have := c1; unfold Nat.Coprime at this; rw [Nat.gcd_zero_left] at this; exact this
    have u1 : u = 1 := by have := c2; unfold Nat.Coprime at this; rw [Nat.gcd_zero_left] at this; exact this
    rw [y1, u1]
  · exact (Nat.eq_of_mul_eq_mul_left (by omega) e).symm
theorem LTq {a b c d : Int} (a0 : 0 ≤ a) (a1 : a < 2 ^ 63) (b0 : 0 < b) (b1 : b < 2 ^ 48) (c0 : 0 ≤ c) (c1 : c < 2 ^ 63) (d0 : 0 < d) (d1 : d < 2 ^ 48) (h : a * d = c * b) (p : Int32) : ∃ r, fX8_leastTerms (zI a) (zI b) p = some r ∧ fX9_partOf (zI c) (zI d) p = some r := by
  refine ⟨_, lt8 (by omega) a1 b0 b1 p, ?_⟩
  rw [lt9 (by omega) c1 d0 d1 p]
  congr 1
  obtain ⟨A, rfl⟩ : ∃ A : Nat, a = A := ⟨a.toNat, by omega⟩
  obtain ⟨B, rfl⟩ : ∃ B : Nat, b = B := ⟨b.toNat, by omega⟩
  obtain ⟨C, rfl⟩ : ∃ C : Nat, c = C := ⟨c.toNat, by omega⟩
  obtain ⟨D, rfl⟩ : ∃ D : Nat, d = D := ⟨d.toNat, by omega⟩
  have hn : A * D = C * B := by exact_mod_cast h
  obtain ⟨r1, r2⟩ := red (by omega) (by omega) hn
  rw [Int.natAbs_natCast, Int.natAbs_natCast, Int.natAbs_natCast, Int.natAbs_natCast, ← lN_zI (n := A) (by omega), ← lN_zI (n := B) (by omega), ← lN_zI (n := C) (by omega), ← lN_zI (n := D) (by omega)]
  have g1 : 0 < Nat.gcd A B := Nat.gcd_pos_of_pos_right _ (by omega)
  have g2 : 0 < Nat.gcd C D := Nat.gcd_pos_of_pos_right _ (by omega)
  have l1 : Nat.gcd A B ≤ B := Nat.gcd_le_right _ (by omega)
  have l2 : Nat.gcd C D ≤ D := Nat.gcd_le_right _ (by omega)
  by_cases hp : p = 0
  · rw [if_pos hp, if_pos hp, pk_lDiv (by omega) g1 (by omega), pk_lDiv (by omega) g2 (by omega), r1]
  · rw [if_neg hp, if_neg hp, pk_lDiv (by omega) g1 (by omega), pk_lDiv (by omega) g2 (by omega), r2]
theorem bt_dg (t : Nat) (w : Nat → Wy) (x z : Nat) : ∀ n, bt t w x z n ≤ dg t w x n := by
  intro n
  induction n with
  | zero => exact Nat.le_refl 0
  | succ n ih =>
    show bt t w x z n + _ ≤ dg t w x n + _
    by_cases h : t.testBit n = true ∧ ((wF (w n) = x ∧ wS (w n) = z) ∨ (wF (w n) = z ∧ wS (w n) = x))
    · rw [if_pos h, if_pos ⟨h.1, by rcases h.2 with q | q; exact Or.inl q.1; exact Or.inr q.2⟩]
      omega
    · rw [if_neg h]
      omega
/-- facts of the system of ends Z -/
theorem sys_Z {P A t Z e : Nat} {w : Nat → Wy} (hV : GV P A w) (hB : Bd A w) (hZ : Z < 2 ^ P) (he : e < P) (heZ : Z.testBit e = true) : GL (ct (op t w A Z) 6) (MO t w A (op t w A Z)) ∧ ct (op t w A Z) 6 ≤ 5 ∧ 0 < dt (ct (op t w A Z) 6) (MO t w A (op t w A Z)) ∧ dt (ct (op t w A Z) 6) (MO t w A (op t w A Z)) < 2 ^ 48 := by
  have hG := GL_MO (t := t) hV hZ
  have hO := op_lt (t := t) hV hZ
  have hn : ct (op t w A Z) 6 ≤ 5 := fin_ct5 _ hO e (by have := hV.2.1; omega) (by unfold op; rw [andn_bit, heZ]; simp)
  have hD := D_48 (G := 1) hG hn (diag_tot hV hO) (by omega) (by have := hB.1; omega)
  exact ⟨hG, hn, hD.1, hD.2⟩
theorem bt_sum {P A t Z z : Nat} {w : Nat → Wy} (hV : GV P A w) (hZ : Z < 2 ^ P) : sm (ct (op t w A Z) 6) (fun i => (bt t w (el (op t w A Z) i) z A : Int)) ≤ 2 * (sN A (fT w) : Int) + 2 := by
  have h1 := du_tot (t := t) hV (fS w) (op_lt (t := t) hV hZ)
  have h2 := sST hV A (Nat.le_refl A)
  have h3 : sm (ct (op t w A Z) 6) (fun i => (bt t w (el (op t w A Z) i) z A : Int)) ≤ sm (ct (op t w A Z) 6) (fun i => du t w (fS w) A (el (op t w A Z) i)) := sm_le fun i _ => by
    rw [← lp_du, lp_diag]
    have := bt_dg t w (el (op t w A Z) i) z A
    omega
  omega
theorem X_rngZ {P A t Z e j z : Nat} {w : Nat → Wy} (hV : GV P A w) (hB : Bd A w) (hZ : Z < 2 ^ P) (he : e < P) (heZ : Z.testBit e = true) (hj : j < ct (op t w A Z) 6) : 0 ≤ Xk (MO t w A (op t w A Z)) (ct (op t w A Z) 6) j (fun i => (bt t w (el (op t w A Z) i) z A : Int)) ∧ Xk (MO t w A (op t w A Z)) (ct (op t w A Z) 6) j (fun i => (bt t w (el (op t w A Z) i) z A : Int)) < 2 ^ 63 := by
  obtain ⟨hGL, hn, -, -⟩ := sys_Z (t := t) hV hB hZ he heZ
  have hO := op_lt (t := t) hV hZ
  have hq := diag_tot (t := t) hV hO
  have hG := bt_sum (t := t) (z := z) hV hZ
  generalize op t w A Z = O at *
  obtain ⟨k, hk⟩ : ∃ k, ct O 6 = k + 1 := ⟨ct O 6 - 1, by omega⟩
  have h := num_X (r := j) (k := k) hGL hn hq (g := fun i => (bt t w (el O i) z A : Int)) (fun i _ => by show (0 : Int) ≤ ((bt t w (el O i) z A : Nat) : Int); omega) (G := 2 * sN A (fT w) + 2) (by omega) (Bd_NC hB) (by omega) (by omega)
  rw [hk]
  refine ⟨h.1, ?_⟩
  have hd := (Iv_all hGL k (by omega)).1
  have := mm (show (1 : Int) ≤ dt k (MO t w A O) by omega) (Int.le_refl _) h.1 (by omega)
  omega
theorem aheadd_loop {N : SX3} {P A : Nat} {w : Nat → Wy} (hV : GV P A w) (hN : NE N P A w) {t one : Nat} (ht : t < 2 ^ 31) (ho : one < P) (pb : Int32) : ∀ (d fu m : Nat) (E : SX0), m + d = A → d < fu → (∀ x, x < 6 → eq_due E x = zI (bt t w x one m : Int)) → ∃ E1 : SX0, qX0_aheadOf_7 N (nI t) pb (nI one) fu E (nI m) = fX0_solve E1 N (nI t) pb ∧ ∀ x, x < 6 → eq_due E1 x = zI (bt t w x one A : Int) := by
  have hA := hV.2.2.1
  have hP := hV.2.1
  intro d
  induction d with
  | zero =>
    intro fu m E h1 h2 h3
    match fu, h2 with
    | fu + 1, _ =>
      have hm : m = A := by omega
      subst hm
      refine ⟨E, ?_, h3⟩
      unfold qX0_aheadOf_7
      rw [hN.2.1, if_pos (nI_le (Nat.le_refl m) (by omega)), bind_self]
  | succ d ih =>
    intro fu m E h1 h2 h3
    match fu, h2 with
    | fu + 1, h2 =>
      have hm : m < 11 := by omega
      have hOk := hV.2.2.2 m (by omega)
      have hw := hN.2.2 m (by omega)
      have hF := hOk.1
      have hS := hOk.2.1
      have hb := wtw_b hOk
      have hst : ∀ x, bt t w x one (m + 1) = bt t w x one m + (if t.testBit m = true ∧ ((wF (w m) = x ∧ wS (w m) = one) ∨ (wF (w m) = one ∧ wS (w m) = x)) then wtw (w m) else 0) := fun x => rfl
      unfold qX0_aheadOf_7 qX0_aheadOf_59
      rw [hN.2.1, if_neg (nI_ge (by omega) (by omega)), has8 ht (by omega), bind_s]
      by_cases hq : t.testBit m = true
      · rw [if_pos hq, if_neg (show ¬ (1 : Int32) = 0 by decide), touches8 hm hw (by omega) (by omega) (by omega), bind_s]
        by_cases hto : wF (w m) = one ∨ wS (w m) = one
        · obtain ⟨o, hoo⟩ : ∃ o, o = (if wF (w m) = one then wS (w m) else wF (w m)) := ⟨_, rfl⟩
          have ho6 : o < 6 := by rw [hoo]; split <;> omega
          have hiff : ∀ x, ((wF (w m) = x ∧ wS (w m) = one) ∨ (wF (w m) = one ∧ wS (w m) = x)) ↔ x = o := by
            intro x
            have hne := hOk.2.2.1
            rw [hoo]
            by_cases h5 : wF (w m) = one
            · rw [if_pos h5]
              constructor
              · intro z
                rcases z with z | z
                · exact absurd (h5.trans z.2.symm) hne
                · exact z.2.symm
              · intro z
                exact Or.inr ⟨h5, z.symm⟩
            · rw [if_neg h5]
              have h6 := hto.resolve_left h5
              constructor
              · intro z
                rcases z with z | z
                · exact z.1.symm
                · exact absurd z.1 h5
              · intro z
                exact Or.inl ⟨z.symm, h6⟩
          obtain ⟨E1, q1, q2⟩ := ih fu (m + 1) (eq_due_s E (vp_updL (eq_due E) o (eq_due E o + zI (wtw (w m))))) (by omega) (by omega) (fun x hx => by
            show vp_updL (eq_due E) o (eq_due E o + zI (wtw (w m))) x = _
            rw [hst x]
            by_cases e : x = o
            · rw [if_pos ⟨hq, (hiff x).mpr e⟩, e, updL_s, h3 o ho6, zI_add]
              congr 1
            · rw [if_neg (fun z => e ((hiff x).mp z.2)), updL_n e, h3 x hx, Nat.add_zero])
          refine ⟨E1, ?_, q2⟩
          rw [if_pos hto, if_neg (show ¬ (1 : Int32) = 0 by decide), other8 hm hw (by omega) (by omega), bind_s, ← hoo, ga_ok ho6 (by decide), weight8 hm hw hOk, bind_s, zI_n (by omega), ltt_e, ga_ok ho6 (by decide), ltt_e, ltt_e, nI_1]
          exact q1
        · obtain ⟨E1, q1, q2⟩ := ih fu (m + 1) E (by omega) (by omega) (fun x hx => by
            rw [h3 x hx, hst x, if_neg (fun z => hto (by rcases z.2 with y | y; exact Or.inr y.2; exact Or.inl y.1)), Nat.add_zero])
          refine ⟨E1, ?_, q2⟩
          rw [if_neg hto, if_pos rfl, ltt_e, nI_1, q1]
      · obtain ⟨E1, q1, q2⟩ := ih fu (m + 1) E (by omega) (by omega) (fun x hx => by
          rw [h3 x hx, hst x, if_neg (fun z => hq z.1), Nat.add_zero])
        refine ⟨E1, ?_, q2⟩
        rw [if_neg hq, if_pos rfl, ltt_e, nI_1, q1]
theorem ahead8 {N : SX3} {P A : Nat} {w : Nat → Wy} (hV : GV P A w) (hN : NE N P A w) (hB : Bd A w) {t G one : Nat} (ht : t < 2 ^ 31) (hG : G < 2 ^ P) (ho : one < P) (hoG : G.testBit one = true) (E : SX0) : ∃ E' : SX0, fX0_aheadOf E N (nI t) (nI G) (nI one) = some E' ∧ SL E' t w A G (fun x => (bt t w x one A : Int)) := by
  have hA := hV.2.2.1
  obtain ⟨E0, a1, a2⟩ := noDue8 E
  obtain ⟨E1, b1, b2⟩ := aheadd_loop hV hN ht ho (nI G) A FU 0 E0 (by omega) (by unfold FU; omega) (fun x hx => by rw [a2 x hx]; rfl)
  obtain ⟨E', c1, c2⟩ := solve8d hV hN hB ht hG ho hoG b2 (fun x _ => by show (0 : Int) ≤ ((bt t w x one A : Nat) : Int); omega) (bt_sum hV hG)
  refine ⟨E', ?_, c2⟩
  unfold fX0_aheadOf
  rw [a1, bind_s, show (0 : Int32) = nI 0 from rfl, b1, c1]
theorem lp_out {A t C z y : Nat} {w : Nat → Wy} (hC : Cl t w A C) (hz : C.testBit z = true) (hy : ¬ C.testBit y = true) : lp t w A z y = 0 := by
  refine sm_z fun k hk => ?_
  have hzy : z ≠ y := fun e => hy (e ▸ hz)
  unfold lw
  by_cases ht : t.testBit k = true
  · rw [if_pos ht, if_neg hzy, if_neg (fun q => by
      rcases q with ⟨q1, q2⟩ | ⟨q1, q2⟩
      · exact hy (q2 ▸ (hC k hk ht (Or.inl (by rw [q1]; exact hz))).2)
      · exact hy (q1 ▸ (hC k hk ht (Or.inr (by rw [q2]; exact hz))).1))]
  · rw [if_neg ht]
/-- the block of one point solves as the whole does -/
theorem block {P A t G p e : Nat} {w : Nat → Wy} (hV : GV P A w) (hB : Bd A w) (hG : G < 2 ^ P) (hp : p < P) (he : e < P) (heG : G.testBit e = true) (heC : (Rch t w A (2 ^ p)).testBit e = true) (hpG : ¬ G.testBit p = true) (dd : Nat → Int) : andn (Rch t w A (2 ^ p)) G = op t w A (G &&& Rch t w A (2 ^ p)) ∧ (op t w A G).testBit p = true ∧ (op t w A (G &&& Rch t w A (2 ^ p))).testBit p = true ∧ dt (ct (op t w A (G &&& Rch t w A (2 ^ p))) 6) (MO t w A (op t w A (G &&& Rch t w A (2 ^ p)))) * Xk (MO t w A (op t w A G)) (ct (op t w A G) 6) (ct (op t w A G) p) (fun i => dd (el (op t w A G) i)) = dt (ct (op t w A G) 6) (MO t w A (op t w A G)) * Xk (MO t w A (op t w A (G &&& Rch t w A (2 ^ p)))) (ct (op t w A (G &&& Rch t w A (2 ^ p))) 6) (ct (op t w A (G &&& Rch t w A (2 ^ p))) p) (fun i => dd (el (op t w A (G &&& Rch t w A (2 ^ p))) i)) := by
  have hP := hV.2.1
  have hCl := Rch_cl (t := t) hV (two_lt hp)
  have hClG := Rch_cl (t := t) hV hG
  have hCP := Rch_lt (t := t) hV (two_lt hp)
  have hpC : (Rch t w A (2 ^ p)).testBit p = true := Rch_start (by rw [two_bit]; simp)
  have hGC : G &&& Rch t w A (2 ^ p) < 2 ^ P := and_lt hG
  have heGC : (G &&& Rch t w A (2 ^ p)).testBit e = true := by rw [Nat.testBit_and, heG, heC]; rfl
  -- the reach of the goals in the block is the block
  have hRe : Rch t w A (2 ^ e) = Rch t w A (2 ^ p) := Rch_eq hV he hp heC
  have hR : Rch t w A (G &&& Rch t w A (2 ^ p)) = Rch t w A (2 ^ p) := by
    apply bit_eq
    intro j
    apply Bool.eq_iff_iff.mpr
    constructor
    · exact Rch_min hCl (fun i hi => by
        rw [Nat.testBit_and, Bool.and_eq_true] at hi
        exact hi.2) j
    · intro hj
      rw [← hRe] at hj
      exact Rch_min (Rch_cl (t := t) hV hGC) (fun i hi => by
        rw [two_bit] at hi
        rw [← of_decide_eq_true hi]
        exact Rch_start heGC) j hj
  -- the block lies in what the goals reach
  have hsub : ∀ j, (Rch t w A (2 ^ p)).testBit j = true → (Rch t w A G).testBit j = true := fun j hj => by
    rw [← hRe] at hj
    exact Rch_min hClG (fun i hi => by
      rw [two_bit] at hi
      rw [← of_decide_eq_true hi]
      exact Rch_start heG) j hj
  have hO9 : andn (Rch t w A (2 ^ p)) G = op t w A (G &&& Rch t w A (2 ^ p)) := by
    unfold op
    rw [hR]
    apply bit_eq
    intro j
    rw [andn_bit, andn_bit, Nat.testBit_and]
    cases (Rch t w A (2 ^ p)).testBit j <;> cases G.testBit j <;> rfl
  have bit8 : ∀ j, (op t w A G).testBit j = ((Rch t w A G).testBit j && !G.testBit j) := fun j => andn_bit _ _ _
  have bit9 : ∀ j, (op t w A (G &&& Rch t w A (2 ^ p))).testBit j = ((Rch t w A (2 ^ p)).testBit j && !G.testBit j) := fun j => by rw [← hO9]; exact andn_bit _ _ _
  have hO8l := op_lt (t := t) hV hG
  have hO9l := op_lt (t := t) hV hGC
  obtain ⟨hGL9, -, hD9, -⟩ := sys_Z (t := t) hV hB hGC he heGC
  have p8 : (op t w A G).testBit p = true := by rw [bit8, hsub p hpC, Bool.eq_false_iff.mpr hpG]; rfl
  have p9 : (op t w A (G &&& Rch t w A (2 ^ p))).testBit p = true := by rw [bit9, hpC, Bool.eq_false_iff.mpr hpG]; rfl
  refine ⟨hO9, p8, p9, ?_⟩
  clear hO9 hR hRe hGC heGC hCP
  generalize op t w A (G &&& Rch t w A (2 ^ p)) = O9 at *
  generalize Rch t w A (2 ^ p) = C at *
  generalize op t w A G = O8 at *
  generalize Rch t w A G = R at *
  have sub98 : ∀ j, O9.testBit j = true → O8.testBit j = true ∧ C.testBit j = true := fun j hj => by
    rw [bit9, Bool.and_eq_true] at hj
    exact ⟨by rw [bit8, hsub j hj.1, hj.2]; rfl, hj.1⟩
  have h89 : ∀ j, O8.testBit j = true → C.testBit j = true → O9.testBit j = true := fun j h1 h2 => by
    rw [bit8, Bool.and_eq_true] at h1
    rw [bit9, h2, h1.2]; rfl
  have hx := ratio (k := ct O9 6) (A := MO t w A O9) hGL9.1 (by omega) (y := fun j => Xk (MO t w A O8) (ct O8 6) (ct O8 (el O9 j)) (fun i => dd (el O8 i))) (g := fun i => dd (el O9 i)) (c := dt (ct O8 6) (MO t w A O8)) (fun i hi => by
    obtain ⟨f1, f2, f3⟩ := fin_eli O9 hO9l i hi
    obtain ⟨s1, s2⟩ := sub98 _ f2
    have hc := Xk_c (A := MO t w A O8) (ct_lt hO8l f1 s1) (fun i => dd (el O8 i))
    have hel8 : el O8 (ct O8 (el O9 i)) = el O9 i := (fin_el O8 hO8l _ f1 s1).1
    have e1 : sm (ct O8 6) (fun j => MO t w A O8 (ct O8 (el O9 i)) j * Xk (MO t w A O8) (ct O8 6) j (fun i => dd (el O8 i))) = sm (ct O8 6) (fun j => (fun z => lp t w A (el O9 i) z * Xk (MO t w A O8) (ct O8 6) (ct O8 z) (fun i => dd (el O8 i))) (el O8 j)) := sm_cg fun j hj => by
      show lp t w A (el O8 (ct O8 (el O9 i))) (el O8 j) * _ = lp t w A (el O9 i) (el O8 j) * Xk (MO t w A O8) (ct O8 6) (ct O8 (el O8 j)) _
      rw [hel8, (fin_eli O8 hO8l j hj).2.2]
    rw [e1, re_sum hO8l (fun z => lp t w A (el O9 i) z * Xk (MO t w A O8) (ct O8 6) (ct O8 z) (fun i => dd (el O8 i))) 6 (Nat.le_refl 6)] at hc
    have e2 : sm (ct O9 6) (fun j => MO t w A O9 i j * Xk (MO t w A O8) (ct O8 6) (ct O8 (el O9 j)) (fun i => dd (el O8 i))) = sm (ct O9 6) (fun j => (fun z => lp t w A (el O9 i) z * Xk (MO t w A O8) (ct O8 6) (ct O8 z) (fun i => dd (el O8 i))) (el O9 j)) := rfl
    rw [e2, re_sum hO9l (fun z => lp t w A (el O9 i) z * Xk (MO t w A O8) (ct O8 6) (ct O8 z) (fun i => dd (el O8 i))) 6 (Nat.le_refl 6)]
    have e3 : sm 6 (fun z => if O9.testBit z = true then lp t w A (el O9 i) z * Xk (MO t w A O8) (ct O8 6) (ct O8 z) (fun i => dd (el O8 i)) else 0) = sm 6 (fun z => if O8.testBit z = true then lp t w A (el O9 i) z * Xk (MO t w A O8) (ct O8 6) (ct O8 z) (fun i => dd (el O8 i)) else 0) := sm_cg fun z _ => by
      by_cases h8 : O8.testBit z = true
      · by_cases hzC : C.testBit z = true
        · rw [if_pos (h89 z h8 hzC), if_pos h8]
        · rw [if_neg (fun q => hzC (sub98 z q).2), if_pos h8, lp_out hCl s2 hzC, Int.zero_mul]
      · rw [if_neg (fun q => h8 (sub98 z q).1), if_neg h8]
    rw [e3, hc, hel8]) (ct_lt hO9l (show p < 6 by omega) p9)
  simp only [(fin_el O9 hO9l p (by omega) p9).1] at hx
  exact hx
