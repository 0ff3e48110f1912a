/-! long numbers as whole numbers; rows are laid -/
abbrev zI (a : Int) : Int64 := Int64.ofInt a
theorem zI_add (a b : Int) : zI a + zI b = zI (a + b) := (Int64.ofInt_add a b).symm
theorem zI_sub (a b : Int) : zI a - zI b = zI (a - b) := (Int64.ofInt_sub a b).symm
theorem zI_mul (a b : Int) : zI a * zI b = zI (a * b) := (Int64.ofInt_mul a b).symm
theorem zI_neg (a : Int) : - zI a = zI (-a) := (Int64.ofInt_neg a).symm
theorem zI_t {a : Int} (h1 : -(2 ^ 63) ≤ a) (h2 : a < 2 ^ 63) : (zI a).toInt = a := by
  show (Int64.ofInt a).toInt = a
  rw [Int64.toInt_ofInt]
  rw [show Int64.size = 18446744073709551616 from rfl, Int.bmod_def]
  split <;> omega
theorem zI_of (x : Int64) : zI x.toInt = x := Int64.ofInt_toInt x
theorem zI_eq {a b : Int} (h1 : -(2 ^ 63) ≤ a) (h2 : a < 2 ^ 63) (h3 : -(2 ^ 63) ≤ b) (h4 : b < 2 ^ 63) : zI a = zI b ↔ a = b := by
  constructor
  · intro h
    have := congrArg Int64.toInt h
    rw [zI_t h1 h2, zI_t h3 h4] at this
    exact this
  · intro h; rw [h]
theorem zI_div {d e : Int} (hd : 0 < d) (hd2 : d < 2 ^ 63) (h1 : -(2 ^ 63) < d * e) (h2 : d * e < 2 ^ 63) (h3 : -(2 ^ 63) ≤ e) (h4 : e < 2 ^ 63) : zI (d * e) / zI d = zI e := by
  apply Int64.toInt_inj.mp
  rw [Int64.toInt_div, zI_t (by omega) h2, zI_t (by omega) hd2, zI_t h3 h4, Int.mul_tdiv_cancel_left _ (by omega), Int.bmod_def]
  split <;> omega
theorem zI_n {n : Nat} (h : n < 2 ^ 31) : (nI n).toInt64 = zI n := by
  apply Int64.toInt_inj.mp
  rw [i32_64, nI_toInt h, zI_t (by omega) (by omega)]
theorem over8 {d e : Int} (hd : 0 < d) (hd2 : d < 2 ^ 63) (h1 : -(2 ^ 63) < d * e) (h2 : d * e < 2 ^ 63) (h3 : -(2 ^ 63) ≤ e) (h4 : e < 2 ^ 63) : fX8_over (zI (d * e)) (zI d) = some (zI e) := by
  have hne : ¬ zI d = 0 := by
    rw [show (0 : Int64) = zI 0 from rfl, zI_eq (by omega) hd2 (by omega) (by omega)]
    omega
  unfold fX8_over gzl
  rw [if_neg hne, if_neg hne, zI_div hd hd2 h1 h2 h3 h4]
/-- one place of rows changed -/
def u2 (f : Nat → Nat → Int64) (r c : Nat) (v : Int64) : Nat → Nat → Int64 := va_up f r (vp_updL (f r) c v)
theorem u2_e (f : Nat → Nat → Int64) (r c : Nat) (v : Int64) (i j : Nat) : u2 f r c v i j = if i = r ∧ j = c then v else f i j := by
  unfold u2
  by_cases hr : i = r
  · subst hr
    rw [vaup_s]
    by_cases hc : j = c
    · subst hc
      rw [updL_s, if_pos ⟨rfl, rfl⟩]
    · rw [updL_n hc, if_neg (fun z => hc z.2)]
  · rw [vaup_n hr, if_neg (fun z => hr z.1)]
theorem due_loop : ∀ (d fu i : Nat) (E : SX0), i + d = 6 → d < fu → (∀ j, j < i → eq_due E j = 0) → ∃ E' : SX0, qX0_nothingIsDue_2 fu E (nI i) = some E' ∧ ∀ j, j < 6 → eq_due E' j = 0 := by
  intro d
  induction d with
  | zero =>
    intro fu i E h1 h2 h3
    match fu, h2 with
    | fu + 1, _ =>
      have hi : i = 6 := by omega
      subst hi
      refine ⟨E, ?_, h3⟩
      unfold qX0_nothingIsDue_2
      rw [if_pos (show (6 : Int32) ≤ nI 6 by decide)]
  | succ d ih =>
    intro fu i E h1 h2 h3
    match fu, h2 with
    | fu + 1, h2 =>
      obtain ⟨E', q1, q2⟩ := ih fu (i + 1) (eq_due_s E (vp_updL (eq_due E) i 0)) (by omega) (by omega) (fun j hj => by
        show vp_updL (eq_due E) i 0 j = 0
        by_cases e : j = i
        · rw [e, updL_s]
        · rw [updL_n e]; exact h3 j (by omega))
      refine ⟨E', ?_, q2⟩
      unfold qX0_nothingIsDue_2
      rw [if_neg (show ¬ (6 : Int32) ≤ nI i from nI_ge (b := 6) (by omega) (by decide)), ga_ok (by omega) (by decide), ltt_e, ltt_e, nI_1, q1]
theorem noDue8 (E : SX0) : ∃ E' : SX0, fX0_nothingIsDue E = some E' ∧ ∀ j, j < 6 → eq_due E' j = 0 := by
  obtain ⟨E', q1, q2⟩ := due_loop 6 FU 0 E (by omega) (by unfold FU; omega) (fun j hj => by omega)
  refine ⟨E', ?_, q2⟩
  unfold fX0_nothingIsDue
  rw [show (0 : Int32) = nI 0 from rfl, q1]
theorem lay_in {pa : Int32} (k92 : SX0 → Int32 → Option SX0) {s x : Nat} (hs : s < 6) (hx : x < 6) : ∀ (d fu c : Nat) (E : SX0), c + d = 6 → d < fu → eq_size E = nI s → (∀ c', c' < c → eq_rows E s c' = 0) → ∃ E' : SX0, qX0_layRows_30 pa k92 fu E (nI x) (nI c) = k92 E' (nI x) ∧ eq_due E' = eq_due E ∧ eq_size E' = nI (s + 1) ∧ eq_rowOf E' = upd (eq_rowOf E) x (nI s) ∧ (∀ c, c < 6 → eq_rows E' s c = 0) ∧ eq_rows E' s 6 = eq_due E x ∧ ∀ i c, i ≠ s → eq_rows E' i c = eq_rows E i c := by
  intro d
  induction d with
  | zero =>
    intro fu c E h1 h2 h3 h4
    match fu, h2 with
    | fu + 1, _ =>
      have hc : c = 6 := by omega
      subst hc
      refine ⟨eq_size_s (eq_rowOf_s (eq_rows_s E (u2 (eq_rows E) s 6 (eq_due E x))) (upd (eq_rowOf E) x (nI s))) (nI (s + 1)), ?_, rfl, rfl, rfl, fun c hc => ?_, ?_, fun i c hi => ?_⟩
      · unfold qX0_layRows_30
        rw [if_pos (show (6 : Int32) ≤ nI 6 by decide), h3, ga_ok hs (by decide), ga_ok hx (by decide), ltt_e, show (6 : Int32) = nI 6 from rfl, ga_ok (by decide) (by decide), ltt_e, ltt_e, ga_ok hx (by decide), ltt_e, ltt_e, ltt_e]
        show k92 (eq_size_s (eq_rowOf_s (eq_rows_s E (u2 (eq_rows E) s 6 (eq_due E x))) (upd (eq_rowOf E) x (eq_size E))) (eq_size E + 1)) (nI x) = _
        rw [h3, nI_1]
      · show u2 (eq_rows E) s 6 (eq_due E x) s c = 0
        rw [u2_e, if_neg (by omega)]
        exact h4 c hc
      · show u2 (eq_rows E) s 6 (eq_due E x) s 6 = _
        rw [u2_e, if_pos ⟨rfl, rfl⟩]
      · show u2 (eq_rows E) s 6 (eq_due E x) i c = _
        rw [u2_e, if_neg (fun z => hi z.1)]
  | succ d ih =>
    intro fu c E h1 h2 h3 h4
    match fu, h2 with
    | fu + 1, h2 =>
      obtain ⟨E', q1, q2, q3, q4, q5, q6, q7⟩ := ih fu (c + 1) (eq_rows_s E (u2 (eq_rows E) s c 0)) (by omega) (by omega) h3 (fun c' hc' => by
        show u2 (eq_rows E) s c 0 s c' = 0
        rw [u2_e]
        by_cases e : c' = c
        · rw [if_pos ⟨rfl, e⟩]
        · rw [if_neg (fun z => e z.2)]; exact h4 c' (by omega))
      refine ⟨E', ?_, q2, q3, q4, q5, q6, fun i c' hi => ?_⟩
      · unfold qX0_layRows_30
        rw [if_neg (show ¬ (6 : Int32) ≤ nI c from nI_ge (b := 6) (by omega) (by decide)), h3, ga_ok hs (by decide), ga_ok (by omega) (by decide), ltt_e, ltt_e, nI_1]
        exact q1
      · rw [q7 i c' hi]
        show u2 (eq_rows E) s c 0 i c' = _
        rw [u2_e, if_neg (fun z => hi z.1)]
def LR (D : Nat → Int64) (O x : Nat) (E : SX0) : Prop := eq_due E = D ∧ eq_size E = nI (ct O x) ∧ (∀ z, z < x → eq_rowOf E z = if O.testBit z = true then nI (ct O z) else -1) ∧ ∀ i, i < ct O x → (∀ c, c < 6 → eq_rows E i c = 0) ∧ eq_rows E i 6 = D (el O i)
theorem ct_s (O m : Nat) : ct O (m + 1) = ct O m + (if O.testBit m = true then 1 else 0) := rfl
theorem lay_loop {D : Nat → Int64} {O : Nat} (hO : O < 64) : ∀ (d fu x : Nat) (E : SX0), x + d = 6 → d < fu → LR D O x E → ∃ E' : SX0, qX0_layRows_7 (nI O) fu E (nI x) = some E' ∧ LR D O 6 E' := by
  intro d
  induction d with
  | zero =>
    intro fu x E h1 h2 h3
    match fu, h2 with
    | fu + 1, _ =>
      have hx : x = 6 := by omega
      subst hx
      refine ⟨E, ?_, h3⟩
      unfold qX0_layRows_7
      rw [if_pos (show (6 : Int32) ≤ nI 6 by decide)]
  | succ d ih =>
    intro fu x E h1 h2 h3
    match fu, h2 with
    | fu + 1, h2 =>
      have hx : x < 6 := by omega
      have hx0 : ¬ (6 : Int32) ≤ nI x := nI_ge (b := 6) (by omega) (by decide)
      have hs : ct O x < 6 := by have := fin_ctb O hO x (by omega); omega
      by_cases hb : O.testBit x = true
      · obtain ⟨E1, q1, q2, q3, q4, q5, q6, q7⟩ := lay_in (pa := nI O) (qX0_layRows_92 (nI O) (qX0_layRows_7 (nI O) fu)) hs hx 6 FU 0 (eq_rowOf_s E (upd (eq_rowOf E) x (-1))) (by omega) (by unfold FU; omega) h3.2.1 (fun c hc => by omega)
        have hL : LR D O (x + 1) E1 := by
          refine ⟨q2.trans h3.1, by rw [q3, ct_s, if_pos hb], fun z hz => ?_, fun i hi => ?_⟩
          · rw [q4]
            by_cases e : z = x
            · rw [e, upd_s (α := Nat), if_pos hb]
            · rw [upd_n e]
              show upd (eq_rowOf E) x (-1) z = _
              rw [upd_n e]
              exact h3.2.2.1 z (by omega)
          · rw [ct_s, if_pos hb] at hi
            by_cases e : i = ct O x
            · rw [e]
              refine ⟨q5, ?_⟩
              rw [q6, (fin_el O hO x hx hb).1]
              show eq_due E x = _
              rw [h3.1]
            · obtain ⟨a, b⟩ := h3.2.2.2 i (by omega)
              exact ⟨fun c hc => by rw [q7 i c e]; exact a c hc, by rw [q7 i 6 e]; exact b⟩
        obtain ⟨E', r1, r2⟩ := ih fu (x + 1) E1 (by omega) (by omega) hL
        refine ⟨E', ?_, r2⟩
        unfold qX0_layRows_7
        rw [if_neg hx0, ga_ok hx (by decide), ltt_e, has8 (by omega) (by omega), if_pos hb, bind_s, if_neg (show ¬ (1 : Int32) = 0 by decide), show (0 : Int32) = nI 0 from rfl, q1]
        unfold qX0_layRows_92
        rw [ltt_e, nI_1, r1]
      · have hL : LR D O (x + 1) (eq_rowOf_s E (upd (eq_rowOf E) x (-1))) := by
          refine ⟨h3.1, by rw [ct_s, if_neg hb]; exact h3.2.1, fun z hz => ?_, fun i hi => ?_⟩
          · show upd (eq_rowOf E) x (-1) z = _
            by_cases e : z = x
            · rw [e, upd_s (α := Nat), if_neg hb]
            · rw [upd_n e]
              exact h3.2.2.1 z (by omega)
          · rw [ct_s, if_neg hb] at hi
            exact h3.2.2.2 i hi
        obtain ⟨E', r1, r2⟩ := ih fu (x + 1) _ (by omega) (by omega) hL
        refine ⟨E', ?_, r2⟩
        unfold qX0_layRows_7 qX0_layRows_92
        rw [if_neg hx0, ga_ok hx (by decide), ltt_e, has8 (by omega) (by omega), if_neg hb, bind_s, if_pos rfl, ltt_e, nI_1, r1]
theorem lay8r {O : Nat} (hO : O < 64) (E : SX0) : ∃ E' : SX0, fX0_layRows E (nI O) = some E' ∧ LR (eq_due E) O 6 E' := by
  obtain ⟨E', q1, q2⟩ := lay_loop (D := eq_due E) hO 6 FU 0 (eq_size_s E 0) (by omega) (by unfold FU; omega) ⟨rfl, rfl, fun z hz => by omega, fun i hi => by
    have : ct O 0 = 0 := rfl
    omega⟩
  refine ⟨E', ?_, q2⟩
  unfold fX0_layRows
  rw [ltt_e, show nI 0 = (0 : Int32) from rfl] at *
  rw [q1]
theorem add8 {E : SX0} {O n F S W : Nat} {t : Nat} {w : Nat → Wy} {m : Nat} (hO : O < 64) (hn : n = ct O 6) (hF : F < 6) (hS : S < 6) (hFS : F ≠ S) (hW : W < 2 ^ 31) (ht : t.testBit m = true) (eF : wF (w m) = F) (eS : wS (w m) = S) (eW : wtw (w m) = W) : ∃ E' : SX0, fX0_addWay E (if O.testBit F = true then nI (ct O F) else -1) (if O.testBit S = true then nI (ct O S) else -1) (nI W) = some E' ∧ eq_due E' = eq_due E ∧ eq_size E' = eq_size E ∧ eq_rowOf E' = eq_rowOf E ∧ (∀ i, eq_rows E' i 6 = eq_rows E i 6) ∧ ∀ i j, i < n → j < n → eq_rows E' i j = eq_rows E i j + zI (lw t w m (el O i) (el O j)) := by
  have hn6 : n ≤ 6 := by rw [hn]; exact fin_ctb O hO 6 (by omega)
  have hneg : (-1 : Int32) < 0 := by decide
  have key : ∀ i j, i < n → j < n → lw t w m (el O i) (el O j) = if el O i = el O j then (if el O i = F ∨ el O i = S then (W : Int) else 0) else (if (el O i = F ∧ el O j = S) ∨ (el O i = S ∧ el O j = F) then -(W : Int) else 0) := by
    intro i j _ _
    unfold lw
    rw [if_pos ht, eF, eS, eW]
    grind
  have hinj : ∀ i j, i < n → j < n → (el O i = el O j ↔ i = j) := fun i j hi hj => ⟨fun z => el_inj hO (by omega) (by omega) z, fun z => by rw [z]⟩
  have hE : ∀ X, X < 6 → O.testBit X = true → ct O X < n ∧ ∀ i, i < n → (el O i = X ↔ i = ct O X) := fun X hX hb => by
    obtain ⟨a, b⟩ := fin_el O hO X hX hb
    refine ⟨by omega, fun i hi => ⟨fun z => ?_, fun z => by rw [z, a]⟩⟩
    exact el_inj hO (by omega) b (z.trans a.symm)
  have hE0 : ∀ X, ¬ O.testBit X = true → ∀ i, i < n → ¬ el O i = X := fun X hb i hi z => by
    have := (fin_eli O hO i (by omega)).2.1
    rw [z] at this
    exact hb this
  have z0 : zI 0 = 0 := rfl
  have zm : zI (-(W : Int)) = - zI W := (zI_neg _).symm
  have hw64 := zI_n hW
  by_cases bF : O.testBit F = true
  · obtain ⟨f1, f2⟩ := hE F hF bF
    by_cases bS : O.testBit S = true
    · obtain ⟨s1, s2⟩ := hE S hS bS
      have hrs : ct O F ≠ ct O S := fun z => hFS (((f2 (ct O F) f1).mpr rfl).symm.trans (by rw [z]; exact (s2 (ct O S) s1).mpr rfl))
      rw [if_pos bF, if_pos bS]
      generalize ct O F = r at *
      generalize ct O S = s at *
      unfold fX0_addWay qX0_addWay_17 qX0_addWay_34
      rw [if_neg (nI_pos (by omega)), ga_ok (by omega) (by decide), ga_ok (by omega) (by decide), ltt_e, ga_ok (by omega) (by decide), ltt_e, if_neg (nI_pos (by omega)), ga_ok (by omega) (by decide), ga_ok (by omega) (by decide), ltt_e, ga_ok (by omega) (by decide), ltt_e, if_neg (nI_pos (by omega)), if_neg (nI_pos (by omega)), ga_ok (by omega) (by decide), ga_ok (by omega) (by decide), ltt_e, ga_ok (by omega) (by decide), ltt_e, ga_ok (by omega) (by decide), ga_ok (by omega) (by decide), ltt_e, ga_ok (by omega) (by decide), ltt_e, hw64]
      refine ⟨_, rfl, rfl, rfl, rfl, fun i => ?_, fun i j hi hj => ?_⟩
      · show u2 (u2 (u2 (u2 (eq_rows E) r r _) s s _) r s _) s r _ i 6 = _
        rw [u2_e, if_neg (by omega), u2_e, if_neg (by omega), u2_e, if_neg (by omega), u2_e, if_neg (by omega)]
      · rw [key i j hi hj]
        show u2 (u2 (u2 (u2 (eq_rows E) r r (eq_rows E r r + zI W)) s s (u2 (eq_rows E) r r (eq_rows E r r + zI W) s s + zI W)) r s (u2 (u2 (eq_rows E) r r (eq_rows E r r + zI W)) s s (u2 (eq_rows E) r r (eq_rows E r r + zI W) s s + zI W) r s - zI W)) s r (u2 (u2 (u2 (eq_rows E) r r (eq_rows E r r + zI W)) s s (u2 (eq_rows E) r r (eq_rows E r r + zI W) s s + zI W)) r s (u2 (u2 (eq_rows E) r r (eq_rows E r r + zI W)) s s (u2 (eq_rows E) r r (eq_rows E r r + zI W) s s + zI W) r s - zI W) s r - zI W) i j = _
        simp only [u2_e, hinj i j hi hj, f2 i hi, f2 j hj, s2 i hi, s2 j hj]
        by_cases c1 : i = r
        · by_cases c2 : j = r
          · subst c1; subst c2
            simp [hrs] <;> rfl
          · by_cases c3 : j = s
            · subst c1; subst c3
              simp [hrs, hrs.symm, zm, Int64.sub_eq_add_neg] <;> rfl
            · subst c1
              simp [c2, c3, hrs, Ne.symm c2] <;> rfl
        · by_cases c4 : i = s
          · by_cases c2 : j = r
            · subst c4; subst c2
              simp [hrs, hrs.symm, zm, Int64.sub_eq_add_neg] <;> rfl
            · by_cases c3 : j = s
              · subst c4; subst c3
                simp [hrs, hrs.symm] <;> rfl
              · subst c4
                simp [c2, c3, c1, Ne.symm c3] <;> rfl
          · simp [c1, c4] <;> rfl
    · have s2 := hE0 S bS
      rw [if_pos bF, if_neg bS]
      generalize ct O F = r at *
      unfold fX0_addWay qX0_addWay_17 qX0_addWay_34
      rw [if_neg (nI_pos (by omega)), ga_ok (by omega) (by decide), ga_ok (by omega) (by decide), ltt_e, ga_ok (by omega) (by decide), ltt_e, if_pos hneg, if_neg (nI_pos (by omega)), if_pos hneg, hw64]
      refine ⟨_, rfl, rfl, rfl, rfl, fun i => ?_, fun i j hi hj => ?_⟩
      · show u2 (eq_rows E) r r _ i 6 = _
        rw [u2_e, if_neg (by omega)]
      · rw [key i j hi hj]
        show u2 (eq_rows E) r r (eq_rows E r r + zI W) i j = _
        simp only [u2_e, hinj i j hi hj, f2 i hi, f2 j hj, s2 i hi, s2 j hj]
        by_cases c1 : i = r
        · by_cases c2 : j = r
          · subst c1; subst c2
            simp <;> rfl
          · subst c1
            simp [c2, Ne.symm c2] <;> rfl
        · simp [c1] <;> rfl
  · have f2 := hE0 F bF
    by_cases bS : O.testBit S = true
    · obtain ⟨s1, s2⟩ := hE S hS bS
      rw [if_neg bF, if_pos bS]
      generalize ct O S = r at *
      unfold fX0_addWay qX0_addWay_17 qX0_addWay_34
      rw [if_pos hneg, if_neg (nI_pos (by omega)), ga_ok (by omega) (by decide), ga_ok (by omega) (by decide), ltt_e, ga_ok (by omega) (by decide), ltt_e, if_pos hneg, hw64]
      refine ⟨_, rfl, rfl, rfl, rfl, fun i => ?_, fun i j hi hj => ?_⟩
      · show u2 (eq_rows E) r r _ i 6 = _
        rw [u2_e, if_neg (by omega)]
      · rw [key i j hi hj]
        show u2 (eq_rows E) r r (eq_rows E r r + zI W) i j = _
        simp only [u2_e, hinj i j hi hj, f2 i hi, f2 j hj, s2 i hi, s2 j hj]
        by_cases c1 : i = r
        · by_cases c2 : j = r
          · subst c1; subst c2
            simp <;> rfl
          · subst c1
            simp [c2, Ne.symm c2] <;> rfl
        · simp [c1] <;> rfl
    · have s2 := hE0 S bS
      rw [if_neg bF, if_neg bS]
      unfold fX0_addWay qX0_addWay_17 qX0_addWay_34
      rw [if_pos hneg, if_pos hneg, if_pos hneg]
      refine ⟨_, rfl, rfl, rfl, rfl, fun i => rfl, fun i j hi hj => ?_⟩
      rw [key i j hi hj]
      simp only [f2 i hi, f2 j hj, s2 i hi, s2 j hj]
      simp <;> rfl
