/-! grammar -/
theorem isSign9 {t : SX7} {y : SX9} {n : Nat} {L : Nat → Int32} (h : TB t y n L) {q : Nat} {f : Nat → Int32} (hq : q ≤ n) (c : Int32) : fX9_isSign (tl9 y (nI q) f) c = if q < n ∧ L q = c then some (1, tl9 y (nI (q + 1)) f) else some (0, tl9 y (nI q) f) := by
  have hn := h.1
  unfold fX9_isSign
  rw [tl9_at, tl9_led, h.2.2.2.1]
  by_cases e : q = n
  · rw [if_pos (by rw [e]), if_neg (by omega)]
  · have hl : q < n := by omega
    rw [if_neg (fun z => e ((nI_eq (by omega) (by omega)).mp z)), ga_ok (by omega) (by decide), tl9_let, h.2.2.2.2.1 q hl]
    by_cases hc : L q = c
    · rw [if_pos hc, if_pos ⟨hl, hc⟩, ltt_e, ltt_e, tl9_a, nI_1]
    · rw [if_neg hc, if_neg (fun z => hc z.2)]
theorem isFig9 {t : SX7} {y : SX9} {n : Nat} {L : Nat → Int32} (h : TB t y n L) {q : Nat} {f : Nat → Int32} (hq : q ≤ n) : fX9_isFigure (tl9 y (nI q) f) = if q < n ∧ 48 ≤ (L q).toInt ∧ (L q).toInt ≤ 57 then some (1, tl9 y (nI (q + 1)) f) else some (0, tl9 y (nI q) f) := by
  have hn := h.1
  unfold fX9_isFigure
  rw [tl9_at, tl9_led, h.2.2.2.1]
  by_cases e : q = n
  · rw [if_pos (by rw [e]), if_neg (by omega)]
  · have hl : q < n := by omega
    rw [if_neg (fun z => e ((nI_eq (by omega) (by omega)).mp z)), ga_ok (by omega) (by decide), tl9_let, h.2.2.2.2.1 q hl, isIn_eq, i32_64, show (48 : Int64).toInt = 48 by decide, show (57 : Int64).toInt = 57 by decide, bind_s]
    by_cases hc : 48 ≤ (L q).toInt ∧ (L q).toInt ≤ 57
    · rw [if_pos hc, if_neg (show ¬ (1 : Int32) = 0 by decide), if_pos ⟨hl, hc⟩, ltt_e, ltt_e, tl9_a, nI_1]
    · rw [if_neg hc, if_pos rfl, if_neg (fun z => hc z.2)]
theorem num_both {t : SX7} {y : SX9} {n : Nat} {L : Nat → Int32} (h : TB t y n L) {k : Nat} (hk : k < 6) (pa : Int32) : ∀ (d fu q j : Nat) (f : Nat → Int32), j + d = nu k → d < fu → q ≤ n → (∃ g f', g ≤ n ∧ qX7_faultOfNumbers_5 t pa (nI (nu k)) fu (nI q) (nI j) = some (nI g) ∧ qX9_statement_13 fu (tl9 y (nI q) f) (nI k) (nI j) = some (-1, tl9 y (nI g) f')) ∨ ∃ f', q + 2 * d + 1 ≤ n ∧ qX7_faultOfNumbers_5 t pa (nI (nu k)) fu (nI q) (nI j) = some (-1) ∧ qX9_statement_13 fu (tl9 y (nI q) f) (nI k) (nI j) = some (nI k, tl9 y (nI (q + 2 * d + 1)) f') ∧ (∀ i, i < j → f' i = f i) ∧ ∀ i, i < d → f' (j + i) = L (q + 2 * i + 1) - 48 := by
  have hn := h.1
  have hs := fin_szb k hk
  have n1 : ¬ (1 : Int32) = 0 := by decide
  intro d
  induction d with
  | zero =>
    intro fu q j f h1 h2 h3
    match fu, h2 with
    | fu + 1, _ =>
      have e8 : qX7_faultOfNumbers_5 t pa (nI (nu k)) (fu + 1) (nI q) (nI j) = if q < n ∧ L q = 59 then some (-1) else some (nI q) := by
        rw [qX7_faultOfNumbers_5, if_pos (nI_le (by omega) (by omega)), letterAt8 h (by omega), bind_s]
        by_cases hq : q < n
        · rw [if_pos hq]
          by_cases hc : L q = 59
          · rw [if_pos hc, if_pos ⟨hq, hc⟩]
          · rw [if_neg hc, if_neg (fun z => hc z.2)]
        · rw [if_neg hq, if_neg (show ¬ (-1 : Int32) = 59 by decide), if_neg (fun z => hq z.1)]
      have e9 : qX9_statement_13 (fu + 1) (tl9 y (nI q) f) (nI k) (nI j) = if q < n ∧ L q = 59 then some (nI k, tl9 y (nI (q + 1)) f) else some (-1, tl9 y (nI q) f) := by
        rw [qX9_statement_13, ga_ok hk (by decide), tl9_nu, h.2.2.2.2.2.2.2, fin_numbers k hk, if_pos (nI_le (by omega) (by omega)), isSign9 h h3]
        by_cases hq : q < n ∧ L q = 59
        · rw [if_pos hq, if_pos hq, bind_s, if_neg n1]
        · rw [if_neg hq, if_neg hq, bind_s, if_pos rfl]
      by_cases hq : q < n ∧ L q = 59
      · rw [if_pos hq] at e8 e9
        exact Or.inr ⟨f, by omega, e8, e9, fun _ _ => rfl, fun i hi => by omega⟩
      · rw [if_neg hq] at e8 e9
        exact Or.inl ⟨q, f, h3, e8, e9⟩
  | succ d ih =>
    intro fu q j f h1 h2 h3
    match fu, h2 with
    | fu + 1, h2 =>
      have e8 : qX7_faultOfNumbers_5 t pa (nI (nu k)) (fu + 1) (nI q) (nI j) = if q < n ∧ L q = 32 then (if q + 1 < n ∧ 48 ≤ (L (q + 1)).toInt ∧ (L (q + 1)).toInt ≤ 57 then qX7_faultOfNumbers_5 t pa (nI (nu k)) fu (nI (q + 2)) (nI (j + 1)) else some (nI (q + 1))) else some (nI q) := by
        rw [qX7_faultOfNumbers_5, if_neg (nI_ge (by omega) (by omega)), letterAt8 h (by omega), bind_s]
        by_cases hq : q < n
        · rw [if_pos hq]
          by_cases hc : L q = 32
          · rw [if_pos hc, if_pos ⟨hq, hc⟩, nI_1, letterAt8 h (by omega), bind_s]
            by_cases hq1 : q + 1 < n
            · rw [if_pos hq1]
              have i48 : (48 : Int32).toInt = 48 := by decide
              have i57 : (57 : Int32).toInt = 57 := by decide
              by_cases h48 : L (q + 1) < 48
              · rw [if_pos h48, if_neg (by rw [i32_lt] at h48; omega)]
              · rw [if_neg h48]
                by_cases h57 : L (q + 1) ≤ 57
                · rw [if_pos h57, if_pos (by rw [i32_lt] at h48; rw [i32_le] at h57; omega), show (2 : Int32) = nI 2 from rfl, nI_add, ltt_e, ltt_e, nI_1]
                · rw [if_neg h57, if_neg (by rw [i32_le] at h57; omega)]
            · rw [if_neg hq1, if_pos (show (-1 : Int32) < 48 by decide), if_neg (fun z => hq1 z.1)]
          · rw [if_neg hc, if_neg (fun z => hc z.2)]
        · rw [if_neg hq, if_neg (show ¬ (-1 : Int32) = 32 by decide), if_neg (fun z => hq z.1)]
      have e9 : qX9_statement_13 (fu + 1) (tl9 y (nI q) f) (nI k) (nI j) = if q < n ∧ L q = 32 then (if q + 1 < n ∧ 48 ≤ (L (q + 1)).toInt ∧ (L (q + 1)).toInt ≤ 57 then qX9_statement_13 fu (tl9 y (nI (q + 2)) (upd f j (L (q + 1) - 48))) (nI k) (nI (j + 1)) else some (-1, tl9 y (nI (q + 1)) f)) else some (-1, tl9 y (nI q) f) := by
        rw [qX9_statement_13, ga_ok hk (by decide), tl9_nu, h.2.2.2.2.2.2.2, fin_numbers k hk, if_neg (nI_ge (by omega) (by omega)), isSign9 h h3]
        by_cases hq : q < n ∧ L q = 32
        · rw [if_pos hq, if_pos hq, bind_s, if_neg n1, isFig9 h (by omega)]
          by_cases hf : q + 1 < n ∧ 48 ≤ (L (q + 1)).toInt ∧ (L (q + 1)).toInt ≤ 57
          · rw [if_pos hf, if_pos hf, bind_s, if_neg n1, tl9_at, nI_pred, ga_ok (by omega) (by decide), tl9_let, h.2.2.2.2.1 (q + 1) hf.1, ltt_e, ga_ok (by omega) (by decide), ltt_e, tl9_told, tl9_b, ltt_e, nI_1]
          · rw [if_neg hf, if_neg hf, bind_s, if_pos rfl]
        · rw [if_neg hq, if_neg hq, bind_s, if_pos rfl]
      by_cases hq : q < n ∧ L q = 32
      · rw [if_pos hq] at e8 e9
        by_cases hf : q + 1 < n ∧ 48 ≤ (L (q + 1)).toInt ∧ (L (q + 1)).toInt ≤ 57
        · rw [if_pos hf] at e8 e9
          rw [e8, e9]
          rcases ih fu (q + 2) (j + 1) (upd f j (L (q + 1) - 48)) (by omega) (by omega) (by omega) with ⟨g, f', g1, g2, g3⟩ | ⟨f', g1, g2, g3, g4, g5⟩
          · exact Or.inl ⟨g, f', g1, g2, g3⟩
          · refine Or.inr ⟨f', by omega, g2, ?_, fun i hi => ?_, fun i hi => ?_⟩
            · rw [g3, show q + 2 + 2 * d + 1 = q + 2 * (d + 1) + 1 by omega]
            · rw [g4 i (by omega), upd_n (by omega)]
            · by_cases h0 : i = 0
              · subst h0
                rw [Nat.add_zero, g4 j (by omega), upd_s (α := Nat)]
              · have := g5 (i - 1) (by omega)
                rw [show j + 1 + (i - 1) = j + i by omega, show q + 2 + 2 * (i - 1) + 1 = q + 2 * i + 1 by omega] at this
                exact this
        · rw [if_neg hf] at e8 e9
          exact Or.inl ⟨q + 1, f, by omega, e8, e9⟩
      · rw [if_neg hq] at e8 e9
        exact Or.inl ⟨q, f, h3, e8, e9⟩
theorem endOf8 (t : SX7) {p k : Nat} (hk : k < 6) : fX7_endOf t (nI p) (nI k) = some (nI (p + sz k + 2 * nu k + 1)) := by
  unfold fX7_endOf
  rw [fin_textOf k hk, bind_s, fin_len k hk, bind_s, gk_ok hk, fin_nums k hk, bind_s, show (2 : Int32) = nI 2 from rfl, pk_mul, nI_add, nI_add, nI_1]
/-- a statement of word k stands from p to e -/
def SO (t : SX7) (p k e : Nat) : Prop := k < 6 ∧ e = p + sz k + 2 * nu k + 1 ∧ fX7_wordAt t (nI p) = some (nI k) ∧ fX7_faultOfNumbers t (nI (p + sz k)) (nI (nu k)) = some (-1)
theorem so_form {t : SX7} {p k e : Nat} (h : SO t p k e) (k4 : Int32 → Int32 → Option Int32) (l2 : Int32) : qX7_faultOfForm_22 t k4 (nI p) l2 = k4 (nI e) (l2 + 1) := by
  obtain ⟨hk, he, h1, h2⟩ := h
  have hs := fin_szb k hk
  unfold qX7_faultOfForm_22
  rw [h1, bind_s, if_pos (nI_pos' (by omega)), fin_textOf k hk, bind_s, fin_len k hk, bind_s, gk_ok hk, fin_nums k hk, bind_s, nI_add, h2, bind_s, if_pos (show (-1 : Int32) < 0 by decide), endOf8 t hk, bind_s, ltt_e, ← he]
theorem stm_both {t : SX7} {y : SX9} {n : Nat} {L : Nat → Int32} (h : TB t y n L) {p : Nat} {f : Nat → Int32} (hp : p ≤ n) : (∃ g f', g ≤ n ∧ (∀ k4 l2, qX7_faultOfForm_22 t k4 (nI p) l2 = some (nI g)) ∧ fX9_statement (tl9 y (nI p) f) = some (-1, tl9 y (nI g) f')) ∨ ∃ k e f', SO t p k e ∧ e ≤ n ∧ fX9_statement (tl9 y (nI p) f) = some (nI k, tl9 y (nI e) f') ∧ ∀ i, i < nu k → f' i = L (p + sz k + 2 * i + 1) - 48 := by
  have hn := h.1
  rcases word_both h (f := f) hp 6 FU 0 0 (by omega) (by unfold FU; omega) (by omega) (by omega) with ⟨k, hk, k1, q1, q2⟩ | ⟨l, l1, q1, q2, q3⟩
  · have hs := fin_szb k hk
    have e1 : fX7_wordAt t (nI p) = some (nI k) := by
      unfold fX7_wordAt
      rw [show (0 : Int32) = nI 0 from rfl, q1]
    have e2 : fX9_word (tl9 y (nI p) f) = some (nI k, tl9 y (nI (p + sz k)) f) := by
      unfold fX9_word
      rw [show (0 : Int32) = nI 0 from rfl, q2]
    rcases num_both h hk (nI (p + sz k)) (nu k) FU (p + sz k) 0 f (by omega) (by unfold FU; omega) k1 with ⟨g, f', g1, g2, g3⟩ | ⟨f', g1, g2, g3, -, g5⟩
    · refine Or.inl ⟨g, f', g1, fun k4 l2 => ?_, ?_⟩
      · unfold qX7_faultOfForm_22 fX7_faultOfNumbers
        rw [e1, bind_s, if_pos (nI_pos' (by omega)), fin_textOf k hk, bind_s, fin_len k hk, bind_s, gk_ok hk, fin_nums k hk, bind_s, nI_add, show (0 : Int32) = nI 0 from rfl, g2, bind_s, if_neg (nI_nlt (by omega) (by omega))]
      · unfold fX9_statement
        rw [e2, bind_s, if_pos (nI_pos' (by omega)), show (0 : Int32) = nI 0 from rfl, g3]
    · refine Or.inr ⟨k, p + sz k + 2 * nu k + 1, f', ⟨hk, rfl, e1, ?_⟩, by omega, ?_, fun i hi => ?_⟩
      · unfold fX7_faultOfNumbers
        rw [show (0 : Int32) = nI 0 from rfl, g2]
      · unfold fX9_statement
        rw [e2, bind_s, if_pos (nI_pos' (by omega)), show (0 : Int32) = nI 0 from rfl, g3]
      · have := g5 i hi
        rw [Nat.zero_add] at this
        exact this
  · refine Or.inl ⟨p + l, f, l1, fun k4 l2 => ?_, ?_⟩
    · unfold qX7_faultOfForm_22 fX7_wordAt fX7_longestBeginning
      rw [show (0 : Int32) = nI 0 from rfl, q1, bind_s, if_neg (show ¬ nI 0 ≤ (-1 : Int32) by decide), q2, bind_s, nI_add]
    · unfold fX9_statement fX9_word
      rw [show (0 : Int32) = nI 0 from rfl, q3, bind_s, if_neg (show ¬ nI 0 ≤ (-1 : Int32) by decide)]
theorem so_stm {t : SX7} {y : SX9} {n : Nat} {L : Nat → Int32} (h : TB t y n L) {p k e : Nat} {f : Nat → Int32} (hp : p ≤ n) (hS : SO t p k e) : ∃ f', fX9_statement (tl9 y (nI p) f) = some (nI k, tl9 y (nI e) f') ∧ ∀ i, i < nu k → f' i = L (p + sz k + 2 * i + 1) - 48 := by
  rcases stm_both h (f := f) hp with ⟨g, f', -, g2, -⟩ | ⟨k', e', f', h1, -, h3, h4⟩
  · have a := g2 (fun _ _ => none) 0
    rw [so_form hS] at a
    exact absurd a (by simp)
  · have e1 : nI k = nI k' := Option.some.inj (hS.2.2.1.symm.trans h1.2.2.1)
    have hk : k = k' := (nI_eq (by have := hS.1; omega) (by have := h1.1; omega)).mp e1
    subst hk
    have he : e = e' := hS.2.1.trans h1.2.1.symm
    subst he
    exact ⟨f', h3, h4⟩
/-- d statements stand from p to the end -/
def PO (t : SX7) (n : Nat) : Nat → Nat → Prop
  | 0, p => p = n
  | d + 1, p => ∃ k e, SO t p k e ∧ e ≤ n ∧ PO t n d e
theorem gram_both {t : SX7} {y : SX9} {n : Nat} {L : Nat → Int32} (h : TB t y n L) : ∀ (d fu p c : Nat) (f : Nat → Int32), n - p ≤ d → d < fu → p ≤ n → c ≤ p → (∃ g f', g ≤ n ∧ qX7_faultOfForm_4 t fu (nI p) (nI c) = some (nI g) ∧ qX9_grammar_7 fu (tl9 y (nI p) f) (nI c) = some (-1000 - nI g, tl9 y (nI g) f')) ∨ ∃ m f', PO t n m p ∧ c + m ≤ n ∧ (c = 0 → 1 ≤ m) ∧ qX7_faultOfForm_4 t fu (nI p) (nI c) = some (-1) ∧ qX9_grammar_7 fu (tl9 y (nI p) f) (nI c) = some (nI (c + m), tl9 y (nI n) f') := by
  have hn := h.1
  intro d
  induction d with
  | zero =>
    intro fu p c f h1 h2 h3 h4
    match fu, h2 with
    | fu + 1, _ =>
      have hpn : p = n := by omega
      by_cases hc : c = 0
      · subst hc
        rcases stm_both h (f := f) h3 with ⟨g, f', g1, g2, g3⟩ | ⟨k, e, f', s1, s2, -, -⟩
        · refine Or.inl ⟨g, f', g1, ?_, ?_⟩
          · unfold qX7_faultOfForm_4
            rw [if_neg (show ¬ (120 : Int32) ≤ nI 0 by decide), if_pos (show nI 0 = (0 : Int32) from rfl), g2]
          · unfold qX9_grammar_7 qX9_grammar_22
            rw [if_pos (show nI 0 = (0 : Int32) from rfl), g3, bind_s, if_neg (show ¬ (0 : Int32) ≤ -1 by decide)]
            rfl
        · have := s1.2.1
          omega
      · refine Or.inr ⟨0, f, hpn, by omega, fun z => absurd z hc, ?_, ?_⟩
        · unfold qX7_faultOfForm_4
          by_cases h120 : (120 : Int32) ≤ nI c
          · rw [if_pos h120]
          · rw [if_neg h120, if_neg (nI_ne0 (by omega) (by omega)), h.2.1, if_pos (nI_le (by omega) (by omega))]
        · unfold qX9_grammar_7
          rw [if_neg (nI_ne0 (by omega) (by omega)), tl9_led, h.2.2.2.1, tl9_at, if_pos (nI_le (by omega) (by omega)), hpn]
          rfl
  | succ d ih =>
    intro fu p c f h1 h2 h3 h4
    match fu, h2 with
    | fu + 1, h2 =>
      by_cases hend : ¬ c = 0 ∧ p = n
      · obtain ⟨hc, hpn⟩ := hend
        refine Or.inr ⟨0, f, hpn, by omega, fun z => absurd z hc, ?_, ?_⟩
        · unfold qX7_faultOfForm_4
          by_cases h120 : (120 : Int32) ≤ nI c
          · rw [if_pos h120]
          · rw [if_neg h120, if_neg (nI_ne0 (by omega) (by omega)), h.2.1, if_pos (nI_le (by omega) (by omega))]
        · unfold qX9_grammar_7
          rw [if_neg (nI_ne0 (by omega) (by omega)), tl9_led, h.2.2.2.1, tl9_at, if_pos (nI_le (by omega) (by omega)), hpn]
          rfl
      · have hor : c = 0 ∨ (¬ c = 0 ∧ p < n) := by omega
        have h120 : ¬ (120 : Int32) ≤ nI c := nI_ge (b := 120) (by omega) (by decide)
        have e8 : ∀ fu, qX7_faultOfForm_4 t (fu + 1) (nI p) (nI c) = qX7_faultOfForm_22 t (qX7_faultOfForm_4 t fu) (nI p) (nI c) := by
          intro fu
          rw [qX7_faultOfForm_4, if_neg h120]
          rcases hor with h0 | ⟨h0, h5⟩
          · rw [if_pos (by rw [h0]; rfl)]
          · rw [if_neg (nI_ne0 (by omega) (by omega)), h.2.1, if_neg (nI_ge h5 (by omega))]
        have e9 : ∀ fu, qX9_grammar_7 (fu + 1) (tl9 y (nI p) f) (nI c) = qX9_grammar_22 (qX9_grammar_7 fu) (tl9 y (nI p) f) (nI c) := by
          intro fu
          rw [qX9_grammar_7]
          rcases hor with h0 | ⟨h0, h5⟩
          · rw [if_pos (by rw [h0]; rfl)]
          · rw [if_neg (nI_ne0 (by omega) (by omega)), tl9_led, h.2.2.2.1, tl9_at, if_neg (nI_ge h5 (by omega))]
        rw [e8, e9]
        rcases stm_both h (f := f) h3 with ⟨g, f', g1, g2, g3⟩ | ⟨k, e, f', s1, s2, s3, -⟩
        · refine Or.inl ⟨g, f', g1, g2 _ _, ?_⟩
          unfold qX9_grammar_22
          rw [g3, bind_s, if_neg (show ¬ (0 : Int32) ≤ -1 by decide)]
          rfl
        · have hs := fin_szb k s1.1
          have he := s1.2.1
          have hk0 : (0 : Int32) ≤ nI k := nI_pos' (by have := s1.1; omega)
          have e22 : qX9_grammar_22 (qX9_grammar_7 fu) (tl9 y (nI p) f) (nI c) = qX9_grammar_7 fu (tl9 y (nI e) f') (nI (c + 1)) := by
            unfold qX9_grammar_22
            rw [s3, bind_s, if_pos hk0, ltt_e, nI_1]
          rw [so_form s1, e22, nI_1]
          rcases ih fu e (c + 1) f' (by omega) (by omega) s2 (by omega) with ⟨g, f2, g1, g2, g3⟩ | ⟨m, f2, m1, m2, -, m3, m4⟩
          · exact Or.inl ⟨g, f2, g1, g2, g3⟩
          · refine Or.inr ⟨m + 1, f2, ⟨k, e, s1, s2, m1⟩, by omega, fun _ => by omega, m3, ?_⟩
            rw [m4, show c + 1 + m = c + (m + 1) by omega]
