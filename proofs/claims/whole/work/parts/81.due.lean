/-! what is due, and that it fits -/
def fT (w : Nat → Wy) (k : Nat) : Nat := wtw (w k) * miw (w k)
def fS (w : Nat → Wy) (k : Nat) : Nat := wtw (w k)
def du (t : Nat) (w : Nat → Wy) (f : Nat → Nat) (A x : Nat) : Int := sm A (fun k => if t.testBit k = true ∧ (wF (w k) = x ∨ wS (w k) = x) then (f k : Int) else 0)
def sN : Nat → (Nat → Nat) → Nat
  | 0, _ => 0
  | n + 1, f => sN n f + f n
def Bd (A : Nat) (w : Nat → Wy) : Prop := sN A (fS w) ≤ 181 ∧ sN A (fT w) + 8 * sN A (fS w) ≤ 2349
theorem fin_bd : ∀ k, k < 6 → ∀ g, g < 10 → ∀ l, l < 10 → ∀ t, t < 10 → wt k g l * mi k g t + 8 * wt k g l ≤ 234 := by decide +kernel
theorem fin_mi1 : ∀ k, k < 6 → ∀ g, g < 10 → ∀ l, l < 10 → 1 ≤ l → 1 ≤ mi k g l := by decide +kernel
theorem way_bd {P : Nat} {v : Wy} (h : Wok P v) : wtw v * miw v + 8 * wtw v ≤ 234 := fin_bd _ (by have := h.2.2.2.1; omega) _ (by have := h.2.2.2.2.1; omega) _ (by have := h.2.2.2.2.2.2.1; omega) _ (by have := h.2.2.2.2.2.2.2.2; omega)
theorem miw_1 {P : Nat} {v : Wy} (h : Wok P v) : 1 ≤ miw v := fin_mi1 _ (by have := h.2.2.2.1; omega) _ (by have := h.2.2.2.2.1; omega) _ (by have := h.2.2.2.2.2.2.2.2; omega) h.2.2.2.2.2.2.2.1
theorem Bd_n {P A : Nat} {w : Nat → Wy} (h : GV P A w) : ∀ n, n ≤ A → sN n (fS w) ≤ 18 * n ∧ sN n (fT w) + 8 * sN n (fS w) ≤ 234 * n := by
  intro n
  induction n with
  | zero => intro _; exact ⟨Nat.le_refl 0, Nat.le_refl 0⟩
  | succ n ih =>
    intro hn
    have h1 := ih (by omega)
    have h2 := (wtw_b (h.2.2.2 n (by omega))).2
    have h3 := way_bd (h.2.2.2 n (by omega))
    show sN n (fS w) + wtw (w n) ≤ _ ∧ (sN n (fT w) + wtw (w n) * miw (w n)) + 8 * (sN n (fS w) + wtw (w n)) ≤ _
    constructor <;> omega
theorem NV.bd {P W : Nat} {w : Nat → Wy} (h : NV P W w) : Bd W w := by
  have := Bd_n h.g W (Nat.le_refl W)
  have hW := h.2.2.1
  exact ⟨by omega, by omega⟩
theorem sST {P A : Nat} {w : Nat → Wy} (h : GV P A w) : ∀ n, n ≤ A → sN n (fS w) ≤ sN n (fT w) := by
  intro n
  induction n with
  | zero => intro _; exact Nat.le_refl 0
  | succ n ih =>
    intro hn
    have h1 := ih (by omega)
    have h2 := Nat.mul_le_mul_left (wtw (w n)) (miw_1 (h.2.2.2 n (by omega)))
    show sN n (fS w) + wtw (w n) ≤ sN n (fT w) + wtw (w n) * miw (w n)
    omega
theorem fin_NC1 : ∀ W, W < 182 → (2 * (W + 1)) * (2 * (W + 1)) * (2 * (W + 1)) * (2 * (W + 1)) * ((2 * (W + 1)) * (2 * (W + 1)) * (2 * (W + 1)) * (2 * (W + 1))) * (2 * (2349 - 8 * W) + 2) < 2 ^ 79 := by decide +kernel
theorem fin_NC2 : ∀ W, W < 182 → (2 * (W + 1)) * (2 * (W + 1)) * (2 * (W + 1)) * ((2 * (W + 1)) * (2 * (W + 1)) * (2 * (W + 1)) * (2 * (W + 1))) * (2 * (2349 - 8 * W) + 2) < 2 ^ 71 := by decide +kernel
theorem fin_NC3 : ∀ W, W < 182 → (2 * (W + 1)) * (2 * (W + 1)) * (2 * (W + 1)) * ((2 * (W + 1)) * (2 * (W + 1)) * (2 * (W + 1))) * (2 * (2349 - 8 * W) + 2) < 2 ^ 63 := by decide +kernel
theorem fin_NC4 : ∀ W, W < 182 → (2 * (W + 1)) * (2 * (W + 1)) * (2 * (W + 1)) * ((2 * (W + 1)) * (2 * (W + 1)) * (2 * (W + 1)) * (2 * (W + 1))) * (2 * (W + 1)) < 2 ^ 71 := by decide +kernel
theorem fin_NC5 : ∀ W, W < 182 → (2 * (W + 1)) * (2 * (W + 1)) * (2 * (W + 1)) * ((2 * (W + 1)) * (2 * (W + 1)) * (2 * (W + 1))) * (2 * (W + 1)) < 2 ^ 63 := by decide +kernel
theorem Bd_NC {A : Nat} {w : Nat → Wy} (h : Bd A w) : NC (2 * (sN A (fS w) + 1)) (2 * sN A (fT w) + 2) := by
  obtain ⟨h1, h2⟩ := h
  have n1 := fin_NC1 (sN A (fS w)) (by omega)
  have n2 := fin_NC2 (sN A (fS w)) (by omega)
  have n3 := fin_NC3 (sN A (fS w)) (by omega)
  have n4 := fin_NC4 (sN A (fS w)) (by omega)
  have n5 := fin_NC5 (sN A (fS w)) (by omega)
  have hT : 2 * sN A (fT w) + 2 ≤ 2 * (2349 - 8 * sN A (fS w)) + 2 := by omega
  have hq1 : 1 ≤ 2 * (sN A (fS w) + 1) := by omega
  have hG1 : 1 ≤ 2 * sN A (fT w) + 2 := by omega
  generalize 2 * (sN A (fS w) + 1) = q at *
  generalize 2 * (2349 - 8 * sN A (fS w)) + 2 = H at *
  generalize 2 * sN A (fT w) + 2 = G at *
  have m1 := Nat.mul_le_mul_left (q * q * q * q * (q * q * q * q)) hT
  have m2 := Nat.mul_le_mul_left (q * q * q * (q * q * q * q)) hT
  have m3 := Nat.mul_le_mul_left (q * q * q * (q * q * q)) hT
  have k1 : q * q * q * q * (q * q * q * q) * G < 2 ^ 79 := by omega
  have k2 : q * q * q * (q * q * q * q) * G < 2 ^ 71 := by omega
  have k3 : q * q * q * (q * q * q) * G < 2 ^ 63 := by omega
  exact ⟨hq1, hG1, by exact_mod_cast k1, by exact_mod_cast k2, by exact_mod_cast k3, by exact_mod_cast n4, by exact_mod_cast n5⟩
theorem du_1 {A t x : Nat} {w : Nat → Wy} (f : Nat → Nat) : 0 ≤ du t w f A x := by
  unfold du
  exact sm_ge0 fun k _ => by split <;> omega
theorem sN_sm (f : Nat → Nat) : ∀ n, (sN n f : Int) = sm n (fun k => (f k : Int)) := by
  intro n
  induction n with
  | zero => rfl
  | succ n ih =>
    show ((sN n f + f n : Nat) : Int) = _
    rw [sm_s, ← ih]
    omega
theorem two_pts {a b : Nat} (ha : a < 6) (hb : b < 6) (hab : a ≠ b) (v : Int) : sm 6 (fun x => if a = x ∨ b = x then v else 0) = 2 * v := by
  have e : ∀ x, x < 6 → (if a = x ∨ b = x then v else 0) = (if x = a then v else 0) + (if x = b then v else 0) := by
    intro x _
    grind
  rw [sm_cg e, sm_add, sm_pt ha, sm_pt hb]
  omega
theorem du_tot {P A t : Nat} {w : Nat → Wy} (h : GV P A w) (f : Nat → Nat) {O : Nat} (hO : O < 64) : sm (ct O 6) (fun i => du t w f A (el O i)) ≤ 2 * (sN A f : Int) := by
  rw [re_sum hO (fun x => du t w f A x) 6 (Nat.le_refl 6)]
  have h1 : sm 6 (fun x => if O.testBit x = true then du t w f A x else 0) ≤ sm 6 (fun x => du t w f A x) := sm_le fun x _ => by
    have := du_1 (A := A) (t := t) (x := x) (w := w) f
    split <;> omega
  have h2 : sm 6 (fun x => du t w f A x) ≤ 2 * (sN A f : Int) := by
    unfold du
    rw [sm_swap, sN_sm, ← sm_ml]
    refine sm_le fun k hk => ?_
    have hOk := h.2.2.2 k hk
    have hP := h.2.1
    by_cases hb : t.testBit k = true
    · rw [sm_cg (n := 6) (g := fun x => if wF (w k) = x ∨ wS (w k) = x then (f k : Int) else 0) (fun x _ => by
        by_cases h3 : wF (w k) = x ∨ wS (w k) = x
        · rw [if_pos ⟨hb, h3⟩, if_pos h3]
        · rw [if_neg (fun z => h3 z.2), if_neg h3]), two_pts (by have := hOk.1; omega) (by have := hOk.2.1; omega) hOk.2.2.1]
      exact Int.le_refl _
    · rw [sm_z (n := 6) (fun x _ => if_neg (fun z => hb z.1))]
      omega
  omega
theorem lp_du (t : Nat) (w : Nat → Wy) (A x : Nat) : lp t w A x x = du t w (fS w) A x := by
  unfold lp du lw fS
  refine sm_cg fun k _ => ?_
  rw [if_pos rfl]
  by_cases hb : t.testBit k = true
  · rw [if_pos hb]
    by_cases h3 : wF (w k) = x ∨ wS (w k) = x
    · rw [if_pos h3, if_pos ⟨hb, h3⟩]
    · rw [if_neg h3, if_neg (fun z => h3 z.2)]
  · rw [if_neg hb, if_neg (fun z => hb z.1)]
theorem diag_tot {P A t : Nat} {w : Nat → Wy} (h : GV P A w) {O : Nat} (hO : O < 64) : sm (ct O 6) (fun i => MO t w A O i i) ≤ ((2 * (sN A (fS w) + 1) : Nat) : Int) := by
  have := du_tot (t := t) h (fS w) hO
  have e : sm (ct O 6) (fun i => MO t w A O i i) = sm (ct O 6) (fun i => du t w (fS w) A (el O i)) := sm_cg fun i _ => lp_du t w A (el O i)
  omega
theorem solve8d {N : SX3} {P A : Nat} {w : Nat → Wy} (hV : GV P A w) (hN : NE N P A w) (hB : Bd A w) {t Z e : Nat} (ht : t < 2 ^ 31) (hZ : Z < 2 ^ P) (he : e < P) (heZ : Z.testBit e = true) {E : SX0} {dd : Nat → Int} (hdu : ∀ x, x < 6 → eq_due E x = zI (dd x)) (hd0 : ∀ x, x < 6 → 0 ≤ dd x) (hG : sm (ct (op t w A Z) 6) (fun i => dd (el (op t w A Z) i)) ≤ 2 * (sN A (fT w) : Int) + 2) : ∃ E' : SX0, fX0_solve E N (nI t) (nI Z) = some E' ∧ SL E' t w A Z dd :=
  solve8 hV hN ht hZ he heZ hdu hd0 (diag_tot hV (op_lt hV hZ)) (by omega) (Bd_NC hB)
theorem due_up {due : Nat → Int64} {t : Nat} {w : Nat → Wy} {f : Nat → Nat} {m F S : Nat} (hb : t.testBit m = true) (eF : wF (w m) = F) (eS : wS (w m) = S) (hFS : F ≠ S) (h : ∀ x, x < 6 → due x = zI (du t w f m x)) (hF : F < 6) (hS : S < 6) {v : Int64} (hv : v = zI (f m)) : ∀ x, x < 6 → vp_updL (vp_updL due F (due F + v)) S (vp_updL due F (due F + v) S + v) x = zI (du t w f (m + 1) x) := by
  intro x hx
  have e : du t w f (m + 1) x = du t w f m x + (if t.testBit m = true ∧ (wF (w m) = x ∨ wS (w m) = x) then (f m : Int) else 0) := rfl
  rw [e]
  by_cases h1 : x = S
  · subst h1
    rw [updL_s, updL_n (fun z => hFS z.symm), if_pos ⟨hb, Or.inr eS⟩, h x hx, hv, zI_add]
  · rw [updL_n h1]
    by_cases h2 : x = F
    · subst h2
      rw [updL_s, if_pos ⟨hb, Or.inl eF⟩, h x hx, hv, zI_add]
    · rw [updL_n h2, if_neg (fun z => by rcases z.2 with q | q; exact h2 (q.symm.trans eF); exact h1 (q.symm.trans eS)), Int.add_zero, h x hx]
theorem du_no {t : Nat} {w : Nat → Wy} {f : Nat → Nat} {m x : Nat} (hb : ¬ t.testBit m = true) : du t w f (m + 1) x = du t w f m x := by
  show du t w f m x + (if t.testBit m = true ∧ (wF (w m) = x ∨ wS (w m) = x) then (f m : Int) else 0) = _
  rw [if_neg (fun z => hb z.1), Int.add_zero]
theorem times_loop {N : SX3} {P A : Nat} {w : Nat → Wy} (hV : GV P A w) (hN : NE N P A w) {t : Nat} (ht : t < 2 ^ 31) (pb : Int32) : ∀ (d fu m : Nat) (E : SX0), m + d = A → d < fu → (∀ x, x < 6 → eq_due E x = zI (du t w (fT w) m x)) → ∃ E1 : SX0, qX0_timesTo_7 N (nI t) pb fu E (nI m) = fX0_solve E1 N (nI t) ((1 : Int32) <<< (pb &&& 31)) ∧ ∀ x, x < 6 → eq_due E1 x = zI (du t w (fT w) A x) := by
  have hA := hV.2.2.1
  have hP := hV.2.1
  intro d
  induction d with
  | zero =>
    intro fu m E h1 h2 h3
    match fu, h2 with
    | fu + 1, _ =>
      have hm : m = A := by omega
      subst hm
      refine ⟨E, ?_, h3⟩
      unfold qX0_timesTo_7
      rw [hN.2.1, if_pos (nI_le (Nat.le_refl m) (by omega)), bind_self]
  | succ d ih =>
    intro fu m E h1 h2 h3
    match fu, h2 with
    | fu + 1, h2 =>
      have hm : m < 11 := by omega
      have hOk := hV.2.2.2 m (by omega)
      have hw := hN.2.2 m (by omega)
      have hF : wF (w m) < 6 := by have := hOk.1; omega
      have hS : wS (w m) < 6 := by have := hOk.2.1; omega
      by_cases hb : t.testBit m = true
      · obtain ⟨E1, q1, q2⟩ := ih fu (m + 1) (eq_due_s E (vp_updL (vp_updL (eq_due E) (wF (w m)) (eq_due E (wF (w m)) + zI (fT w m))) (wS (w m)) (vp_updL (eq_due E) (wF (w m)) (eq_due E (wF (w m)) + zI (fT w m)) (wS (w m)) + zI (fT w m)))) (by omega) (by omega) (due_up hb rfl rfl hOk.2.2.1 h3 hF hS rfl)
        refine ⟨E1, ?_, q2⟩
        have hmul : (nI (wtw (w m)) * nI (miw (w m))).toInt64 = zI (fT w m) := by
          rw [pk_mul]
          have := way_bd hOk
          exact zI_n (by omega)
        unfold qX0_timesTo_7 qX0_timesTo_75
        rw [hN.2.1, if_neg (nI_ge (by omega) (by omega)), has8 ht (by omega), if_pos hb, bind_s, if_neg (show ¬ (1 : Int32) = 0 by decide), weight8 hm hw hOk, bind_s, minutes8 hm hw hOk, bind_s, hmul, ltt_e, ga_ok hm (by decide), hw.1, ga_ok hF (by decide), ltt_e, ga_ok hF (by decide), ltt_e, ga_ok hm (by decide), hw.2.1, ga_ok hS (by decide), ltt_e, ga_ok hS (by decide), ltt_e, ltt_e, nI_1]
        exact q1
      · obtain ⟨E1, q1, q2⟩ := ih fu (m + 1) E (by omega) (by omega) (fun x hx => by rw [h3 x hx, du_no hb])
        refine ⟨E1, ?_, q2⟩
        unfold qX0_timesTo_7 qX0_timesTo_75
        rw [hN.2.1, if_neg (nI_ge (by omega) (by omega)), has8 ht (by omega), if_neg hb, bind_s, if_pos rfl, ltt_e, nI_1, q1]
theorem steps_loop {N : SX3} {P A : Nat} {w : Nat → Wy} (hV : GV P A w) (hN : NE N P A w) {t : Nat} (ht : t < 2 ^ 31) (pb : Int32) : ∀ (d fu m : Nat) (E : SX0), m + d = A → d < fu → (∀ x, x < 6 → eq_due E x = zI (du t w (fS w) m x)) → ∃ E1 : SX0, qX0_stepsTo_7 N (nI t) pb fu E (nI m) = fX0_solve E1 N (nI t) ((1 : Int32) <<< (pb &&& 31)) ∧ ∀ x, x < 6 → eq_due E1 x = zI (du t w (fS w) A x) := by
  have hA := hV.2.2.1
  have hP := hV.2.1
  intro d
  induction d with
  | zero =>
    intro fu m E h1 h2 h3
    match fu, h2 with
    | fu + 1, _ =>
      have hm : m = A := by omega
      subst hm
      refine ⟨E, ?_, h3⟩
      unfold qX0_stepsTo_7
      rw [hN.2.1, if_pos (nI_le (Nat.le_refl m) (by omega)), bind_self]
  | succ d ih =>
    intro fu m E h1 h2 h3
    match fu, h2 with
    | fu + 1, h2 =>
      have hm : m < 11 := by omega
      have hOk := hV.2.2.2 m (by omega)
      have hw := hN.2.2 m (by omega)
      have hF : wF (w m) < 6 := by have := hOk.1; omega
      have hS : wS (w m) < 6 := by have := hOk.2.1; omega
      by_cases hb : t.testBit m = true
      · obtain ⟨E1, q1, q2⟩ := ih fu (m + 1) (eq_due_s E (vp_updL (vp_updL (eq_due E) (wF (w m)) (eq_due E (wF (w m)) + zI (fS w m))) (wS (w m)) (vp_updL (eq_due E) (wF (w m)) (eq_due E (wF (w m)) + zI (fS w m)) (wS (w m)) + zI (fS w m)))) (by omega) (by omega) (due_up hb rfl rfl hOk.2.2.1 h3 hF hS rfl)
        refine ⟨E1, ?_, q2⟩
        have hmul : (nI (wtw (w m))).toInt64 = zI (fS w m) := by
          have := wtw_b hOk
          exact zI_n (by omega)
        unfold qX0_stepsTo_7 qX0_stepsTo_69
        rw [hN.2.1, if_neg (nI_ge (by omega) (by omega)), has8 ht (by omega), if_pos hb, bind_s, if_neg (show ¬ (1 : Int32) = 0 by decide), ga_ok hm (by decide), hw.1, ga_ok hF (by decide), weight8 hm hw hOk, bind_s, hmul, ltt_e, ga_ok hF (by decide), ltt_e, ga_ok hm (by decide), hw.2.1, ga_ok hS (by decide), bind_s, hmul, ltt_e, ga_ok hS (by decide), ltt_e, ltt_e, nI_1]
        exact q1
      · obtain ⟨E1, q1, q2⟩ := ih fu (m + 1) E (by omega) (by omega) (fun x hx => by rw [h3 x hx, du_no hb])
        refine ⟨E1, ?_, q2⟩
        unfold qX0_stepsTo_7 qX0_stepsTo_69
        rw [hN.2.1, if_neg (nI_ge (by omega) (by omega)), has8 ht (by omega), if_neg hb, bind_s, if_pos rfl, ltt_e, nI_1, q1]
theorem times8 {N : SX3} {P A : Nat} {w : Nat → Wy} (hV : GV P A w) (hN : NE N P A w) (hB : Bd A w) {t b : Nat} (ht : t < 2 ^ 31) (hb : b < P) (E : SX0) : ∃ E' : SX0, fX0_timesTo E N (nI t) (nI b) = some E' ∧ SL E' t w A (2 ^ b) (du t w (fT w) A) := by
  have hA := hV.2.2.1
  have hP := hV.2.1
  obtain ⟨E0, a1, a2⟩ := noDue8 E
  obtain ⟨E1, b1, b2⟩ := times_loop hV hN ht (nI b) A FU 0 E0 (by omega) (by unfold FU; omega) (fun x hx => by rw [a2 x hx]; rfl)
  obtain ⟨E', c1, c2⟩ := solve8d hV hN hB ht (two_lt hb) hb (by rw [two_bit]; simp) b2 (fun x _ => du_1 _) (by have := du_tot (t := t) hV (fT w) (op_lt (t := t) hV (two_lt hb)); omega)
  refine ⟨E', ?_, c2⟩
  unfold fX0_timesTo
  rw [a1, bind_s, show (0 : Int32) = nI 0 from rfl, b1, fin_sh1 b (by omega), c1]
theorem steps8 {N : SX3} {P A : Nat} {w : Nat → Wy} (hV : GV P A w) (hN : NE N P A w) (hB : Bd A w) {t b : Nat} (ht : t < 2 ^ 31) (hb : b < P) (E : SX0) : ∃ E' : SX0, fX0_stepsTo E N (nI t) (nI b) = some E' ∧ SL E' t w A (2 ^ b) (du t w (fS w) A) := by
  have hA := hV.2.2.1
  have hP := hV.2.1
  obtain ⟨E0, a1, a2⟩ := noDue8 E
  obtain ⟨E1, b1, b2⟩ := steps_loop hV hN ht (nI b) A FU 0 E0 (by omega) (by unfold FU; omega) (fun x hx => by rw [a2 x hx]; rfl)
  obtain ⟨E', c1, c2⟩ := solve8d hV hN hB ht (two_lt hb) hb (by rw [two_bit]; simp) b2 (fun x _ => du_1 _) (by have := du_tot (t := t) hV (fS w) (op_lt (t := t) hV (two_lt hb)); have := sST hV A (Nat.le_refl A); omega)
  refine ⟨E', ?_, c2⟩
  unfold fX0_stepsTo
  rw [a1, bind_s, show (0 : Int32) = nI 0 from rfl, b1, fin_sh1 b (by omega), c1]
theorem current8 {N : SX3} {P A : Nat} {w : Nat → Wy} (hV : GV P A w) (hN : NE N P A w) (hB : Bd A w) {t a b : Nat} (ht : t < 2 ^ 31) (ha : a < P) (hb : b < P) (E : SX0) : ∃ E' : SX0, fX0_currentTo E N (nI t) (nI a) (nI b) = some E' ∧ SL E' t w A (2 ^ b) (un a) := by
  have hA := hV.2.2.1
  have hP := hV.2.1
  obtain ⟨E0, a1, a2⟩ := noDue8 E
  have hun : ∀ x, 0 ≤ un a x := fun x => by unfold un; split <;> omega
  obtain ⟨E', c1, c2⟩ := solve8d hV hN hB ht (two_lt hb) hb (by rw [two_bit]; simp) (E := eq_due_s E0 (vp_updL (eq_due E0) a 1)) (dd := un a) (fun x hx => by
    show vp_updL (eq_due E0) a 1 x = _
    unfold un
    by_cases e : x = a
    · rw [e, updL_s, if_pos rfl]; rfl
    · rw [updL_n e, if_neg e, a2 x hx]; rfl) (fun x _ => hun x) (by
    have hO := op_lt (t := t) hV (two_lt hb)
    rw [re_sum hO (un a) 6 (Nat.le_refl 6)]
    have h1 : sm 6 (fun x => if (op t w A (2 ^ b)).testBit x = true then un a x else 0) ≤ sm 6 (fun x => un a x) := sm_le fun x _ => by
      have := hun x
      split <;> omega
    have h2 : sm 6 (fun x => un a x) = 1 := sm_pt (show a < 6 by omega) 1
    omega)
  refine ⟨E', ?_, c2⟩
  unfold fX0_currentTo
  rw [a1, bind_s, ga_ok (by omega) (by decide), ltt_e, fin_sh1 b (by omega), c1, bind_s]
