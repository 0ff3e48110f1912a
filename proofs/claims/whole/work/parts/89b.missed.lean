/-! missed, added -/
def LSf (a b c d : Int64) : Prop := (a / b = c / d ∧ (a - a / b * b) * d < (c - c / d * d) * b) ∨ (¬ a / b = c / d ∧ a / b < c / d)
theorem i64_nle {a b : Int64} : ¬ a ≤ b ↔ b < a := by rw [i64_le, i64_lt]; omega
theorem i64_nlt {a b : Int64} : ¬ a < b ↔ b ≤ a := by rw [i64_le, i64_lt]; omega
theorem i64_ext {a b : Int64} (h1 : a ≤ b) (h2 : b ≤ a) : a = b := by
  apply Int64.toInt_inj.mp
  rw [i64_le] at h1 h2
  omega
theorem less9 {a b c d : Int64} (hb : b ≠ 0) (hd : d ≠ 0) : (fX9_isLess a b c d = some 1 ∧ LSf a b c d) ∨ (fX9_isLess a b c d = some 0 ∧ ¬ LSf a b c d) := by
  unfold fX9_isLess gzl LSf
  rw [if_neg hb, ltt_e, if_neg hd, ltt_e]
  by_cases h : a / b = c / d
  · rw [if_pos h, if_neg hb, if_neg hd]
    by_cases h2 : (c - c / d * d) * b ≤ (a - a / b * b) * d
    · rw [if_pos h2]
      refine Or.inr ⟨rfl, fun z => ?_⟩
      rcases z with z | z
      · exact absurd h2 (i64_nle.mpr z.2)
      · exact z.1 h
    · rw [if_neg h2]
      exact Or.inl ⟨rfl, Or.inl ⟨h, i64_nle.mp h2⟩⟩
  · rw [if_neg h]
    by_cases h2 : c / d ≤ a / b
    · rw [if_pos h2]
      refine Or.inr ⟨rfl, fun z => ?_⟩
      rcases z with z | z
      · exact h z.1
      · exact absurd h2 (i64_nle.mpr z.2)
    · rw [if_neg h2]
      exact Or.inl ⟨rfl, Or.inr ⟨h, i64_nle.mp h2⟩⟩
theorem cmp64 (a b : Int64) : ∃ r, fJ13_compare_74951 a b = some r ∧ (r ≤ 0 ↔ ¬ b < a) ∧ (0 ≤ r ↔ ¬ a < b) := by
  unfold fJ13_compare_74951
  by_cases h1 : b ≤ a
  · rw [if_pos h1]
    by_cases h2 : a = b
    · rw [if_pos h2]
      refine ⟨0, rfl, ⟨fun _ => i64_nlt.mpr (by rw [h2]; rw [i64_le]; omega), fun _ => by decide⟩, ⟨fun _ => i64_nlt.mpr h1, fun _ => by decide⟩⟩
    · rw [if_neg h2]
      refine ⟨1, rfl, ⟨fun z => absurd z (by decide), fun z => absurd (i64_ext (i64_nlt.mp z) h1) h2⟩, ⟨fun _ => i64_nlt.mpr h1, fun _ => by decide⟩⟩
  · rw [if_neg h1]
    refine ⟨-1, rfl, ⟨fun _ z => h1 (by rw [i64_lt] at z; rw [i64_le]; omega), fun _ => by decide⟩, ⟨fun z => absurd z (by decide), fun z => absurd (i64_nlt.mp z) h1⟩⟩
theorem comp8 {a b c d : Int64} (hb : b ≠ 0) (hd : d ≠ 0) : ∃ r, fX8_compare a b c d = some r ∧ (r ≤ 0 ↔ ¬ LSf c d a b) ∧ (0 ≤ r ↔ ¬ LSf a b c d) := by
  unfold fX8_compare fX8_over gzl LSf
  rw [if_neg hb, if_neg hb, bind_s, if_neg hd, if_neg hd, bind_s]
  by_cases h : a / b = c / d
  · rw [if_pos h, ltt_e, ltt_e]
    obtain ⟨r, q1, q2, q3⟩ := cmp64 ((a - a / b * b) * d) ((c - c / d * d) * b)
    rw [q1, bind_s]
    refine ⟨r, rfl, ?_, ?_⟩
    · rw [q2]
      constructor
      · intro z y
        rcases y with y | y
        · exact z y.2
        · exact y.1 h.symm
      · intro z y
        exact z (Or.inl ⟨h.symm, y⟩)
    · rw [q3]
      constructor
      · intro z y
        rcases y with y | y
        · exact z y.2
        · exact y.1 h
      · intro z y
        exact z (Or.inl ⟨h, y⟩)
  · rw [if_neg h]
    obtain ⟨r, q1, q2, q3⟩ := cmp64 (a / b) (c / d)
    rw [q1, bind_s]
    refine ⟨r, rfl, ?_, ?_⟩
    · rw [q2]
      constructor
      · intro z y
        rcases y with y | y
        · exact h y.1.symm
        · exact z y.2
      · intro z y
        exact z (Or.inr ⟨fun e => h e.symm, y⟩)
    · rw [q3]
      constructor
      · intro z y
        rcases y with y | y
        · exact h y.1
        · exact z y.2
      · intro z y
        exact z (Or.inr ⟨h, y⟩)
theorem bD_ne {P A t b : Nat} {w : Nat → Wy} (hV : GV P A w) (hB : Bd A w) (hb : b < P) : zI (bD t w A b) ≠ 0 := by
  have d := bD_r (t := t) hV hB hb
  rw [show (0 : Int64) = zI 0 from rfl, Ne, zI_eq (by omega) (by omega) (by omega) (by omega)]
  omega
theorem miss_loop {x : SX8} {P W : Nat} {w : Nat → Wy} (hV : NV P W w) (hN : NE (w_net x) P W w) {a b : Nat} (ha : a < P) (hb : b < P) (hab : a ≠ b) : ∀ (d fu i : Nat) (best : Int32) (u dn : Int64) (E : SX0) (y : SX9), i + d = W → d + 1 < fu → dn ≠ 0 → Rel x y → ME y P W w → ∃ r E' y', qX8_missed_27 (nI a) (nI b) fu (w_equations_s x E) best u dn (nI i) = some (r, w_equations_s x E') ∧ qX9_missed_42 (nI a) (nI b) fu y best 0 u dn (nI i) = some (r, y') ∧ Rel x y' := by
  have hW := hV.2.2.1
  have hP := hV.2.1
  have n1 : ¬ (1 : Int32) = 0 := by decide
  intro d
  induction d with
  | zero =>
    intro fu i best u dn E y h1 h2 hdn hR hM
    match fu, h2 with
    | fu + 1, _ =>
      have hi : i = W := by omega
      subst hi
      refine ⟨best, E, y, ?_, ?_, hR⟩
      · unfold qX8_missed_27
        rw [show n_ways (w_net (w_equations_s x E)) = nI i from hN.2.1, if_pos (nI_le (Nat.le_refl i) (by omega))]
      · unfold qX9_missed_42
        rw [hM.2.1, if_pos (nI_le (Nat.le_refl i) (by omega))]
  | succ d ih =>
    intro fu i best u dn E y h1 h2 hdn hR hM
    match fu, h2 with
    | fu + 1, h2 =>
      have hne : ¬ nI W ≤ nI i := nI_ge (by omega) (by omega)
      have ht : andn (2 ^ W - 1) (2 ^ i) < 2 ^ 31 := andn_lt (ones_lt (by omega))
      have e8 : ∀ fu, qX8_missed_27 (nI a) (nI b) (fu + 1) (w_equations_s x E) best u dn (nI i) = if (Rch (andn (2 ^ W - 1) (2 ^ i)) w W (2 ^ b)).testBit a = true then (fX0_currentTo E (w_net x) (nI (andn (2 ^ W - 1) (2 ^ i))) (nI a) (nI b)).bind fun o5 => (if best < (0 : Int32) then qX8_missed_122 (nI a) (nI b) (qX8_missed_145 (nI a) (nI b) (qX8_missed_27 (nI a) (nI b) fu)) (w_equations_s x o5) (nI i) else (fX8_compare (eq_above o5 a) (eq_below o5) u dn).bind fun o6 => (if o6 ≤ (0 : Int32) then qX8_missed_145 (nI a) (nI b) (qX8_missed_27 (nI a) (nI b) fu) (w_equations_s x o5) best u dn (nI i) else qX8_missed_122 (nI a) (nI b) (qX8_missed_145 (nI a) (nI b) (qX8_missed_27 (nI a) (nI b) fu)) (w_equations_s x o5) (nI i))) else some (nI i, w_equations_s x E) := by
        intro fu
        rw [qX8_missed_27, show w_net (w_equations_s x E) = w_net x from rfl, hN.2.1, if_neg hne, allWays8 (by omega) hN, bind_s, fin_sh1 i (by omega), nI_andn, ltt_e, fin_sh1 a (by omega), reached8 hV.g hN ht (two_lt ha), bind_s, has8 (lt31 hP (Rch_lt hV.g (two_lt ha))) (by omega), bind_s, Rch_symb hV.g ha hb]
        by_cases hr : (Rch (andn (2 ^ W - 1) (2 ^ i)) w W (2 ^ b)).testBit a = true
        · rw [if_pos hr, if_pos hr, if_neg n1]
          congr 1
          funext o5
          rw [ltt_e, ga_ok (by omega) (by decide)]
        · rw [if_neg hr, if_neg hr, if_pos rfl]
      have hMA := at9_MA hM (andn (2 ^ W - 1) (2 ^ i))
      obtain ⟨y1, k1, k2, k3, -⟩ := resi9 hV.g hMA ht ha hb
      have hR1 := k1.rel (at9_rel hR (nI W) (nI (andn (2 ^ W - 1) (2 ^ i))))
      have hM1 : ME y1 P W w := k1.me (show ME (at9 y (nI W) (nI (andn (2 ^ W - 1) (2 ^ i)))) P W w from hM)
      have e9 : ∀ fu, qX9_missed_42 (nI a) (nI b) (fu + 1) y best 0 u dn (nI i) = if (Rch (andn (2 ^ W - 1) (2 ^ i)) w W (2 ^ b)).testBit a = true then (if best < (0 : Int32) then qX9_missed_140 (nI a) (nI b) (qX9_missed_42 (nI a) (nI b) fu) y1 (nI i) 0 (m_up y1) (m_down y1) (nI i) else (fX9_isLess u dn (m_up y1) (m_down y1)).bind fun o6 => (if o6 = (0 : Int32) then qX9_missed_140 (nI a) (nI b) (qX9_missed_42 (nI a) (nI b) fu) y1 best 0 u dn (nI i) else qX9_missed_140 (nI a) (nI b) (qX9_missed_42 (nI a) (nI b) fu) y1 (nI i) 0 (m_up y1) (m_down y1) (nI i))) else qX9_missed_140 (nI a) (nI b) (qX9_missed_42 (nI a) (nI b) fu) y1 (nI i) 1 (m_up y1) (m_down y1) (nI i) := by
        intro fu
        rw [qX9_missed_42, hM.2.1, if_neg hne, if_pos rfl, allThere9 (by omega) hM, bind_s, show m_there (at9 y (nI W) (nI (2 ^ W - 1))) = nI (2 ^ W - 1) from rfl, fin_sh1 i (by omega), nI_andn, ltt_e, ltt_e, at9_t, k2, bind_s]
        by_cases hr : (Rch (andn (2 ^ W - 1) (2 ^ i)) w W (2 ^ b)).testBit a = true
        · unfold qX9_missed_113 qX9_missed_123
          rw [if_pos hr, if_pos hr, if_neg n1, if_neg n1, ltt_e, ltt_e]
        · unfold qX9_missed_113 qX9_missed_123
          rw [if_neg hr, if_neg hr, if_pos rfl, if_pos rfl, ltt_e, ltt_e]
      rw [e8, e9]
      by_cases hr : (Rch (andn (2 ^ W - 1) (2 ^ i)) w W (2 ^ b)).testBit a = true
      · rw [if_pos hr, if_pos hr]
        obtain ⟨E1, q1, q2⟩ := current8 (t := andn (2 ^ W - 1) (2 ^ i)) hV.g hN hV.bd ht ha hb E
        obtain ⟨v, v1, v2, v3, v4⟩ := share_eq hV.g hV.bd ha hb ha hr hab q2
        obtain ⟨u1, u2⟩ := k3 hr hab
        rw [v4] at u1
        have hbel : eq_below E1 = m_down y1 := by rw [q2.1, u2]
        have hab1 : eq_above E1 a = m_up y1 := by rw [v3, u1]
        have hdn1 : m_down y1 ≠ 0 := by
          rw [u2]
          exact bD_ne hV.g hV.bd hb
        rw [q1, bind_s]
        have t122 : qX8_missed_122 (nI a) (nI b) (qX8_missed_145 (nI a) (nI b) (qX8_missed_27 (nI a) (nI b) fu)) (w_equations_s x E1) (nI i) = qX8_missed_27 (nI a) (nI b) fu (w_equations_s x E1) (nI i) (m_up y1) (m_down y1) (nI (i + 1)) := by
          unfold qX8_missed_122 qX8_missed_145
          rw [ga_ok (by omega) (by decide), ltt_e, ltt_e, ltt_e, nI_1, show eq_above (w_equations (w_equations_s x E1)) a = eq_above E1 a from rfl, show eq_below (w_equations (w_equations_s x E1)) = eq_below E1 from rfl, hab1, hbel]
        have t145 : qX8_missed_145 (nI a) (nI b) (qX8_missed_27 (nI a) (nI b) fu) (w_equations_s x E1) best u dn (nI i) = qX8_missed_27 (nI a) (nI b) fu (w_equations_s x E1) best u dn (nI (i + 1)) := by
          unfold qX8_missed_145
          rw [ltt_e, nI_1]
        have t140 : ∀ be f u' d', qX9_missed_140 (nI a) (nI b) (qX9_missed_42 (nI a) (nI b) fu) y1 be f u' d' (nI i) = qX9_missed_42 (nI a) (nI b) fu y1 be f u' d' (nI (i + 1)) := by
          intro be f u' d'
          unfold qX9_missed_140
          rw [ltt_e, nI_1]
        rw [t122, t145, t140, t140, hab1, hbel]
        by_cases hbest : best < 0
        · rw [if_pos hbest, if_pos hbest]
          exact ih fu (i + 1) (nI i) (m_up y1) (m_down y1) E1 y1 (by omega) (by omega) hdn1 hR1 hM1
        · rw [if_neg hbest, if_neg hbest]
          obtain ⟨r, r1, r2, r3⟩ := comp8 (a := m_up y1) (b := m_down y1) (c := u) (d := dn) hdn1 hdn
          rw [r1, bind_s]
          rcases less9 (a := u) (b := dn) (c := m_up y1) (d := m_down y1) hdn hdn1 with ⟨l1, l2⟩ | ⟨l1, l2⟩
          · rw [l1, bind_s, if_neg n1, if_neg (fun z => (r2.mp z) l2)]
            exact ih fu (i + 1) (nI i) (m_up y1) (m_down y1) E1 y1 (by omega) (by omega) hdn1 hR1 hM1
          · rw [l1, bind_s, if_pos rfl, if_pos (r2.mpr l2)]
            exact ih fu (i + 1) best u dn E1 y1 (by omega) (by omega) hdn hR1 hM1
      · rw [if_neg hr, if_neg hr]
        refine ⟨nI i, E, y1, rfl, ?_, hR1⟩
        unfold qX9_missed_140
        rw [ltt_e, nI_1]
        match fu, h2 with
        | 0, h2 => omega
        | fu + 1, _ =>
          unfold qX9_missed_42
          rw [hM1.2.1]
          by_cases hw : nI W ≤ nI (i + 1)
          · rw [if_pos hw]
          · rw [if_neg hw, if_neg n1]
theorem op_missed {x : SX8} {y : SX9} (h : Rel x y) (a b : Int32) : OpI (fX8_missed x a b) (fX9_missed y a b) := by
  have n1 : ¬ (1 : Int32) = 0 := by decide
  obtain ⟨P, W, w, hV, hN, hM⟩ := h.1
  have hW := hV.2.2.1
  have hP := hV.2.1
  unfold fX8_missed fX9_missed qX9_missed_21
  rw [areTwo8 hP hN, bind_s]
  by_cases hq : (0 ≤ a.toInt ∧ a.toInt < P) ∧ (0 ≤ b.toInt ∧ b.toInt < P) ∧ a ≠ b
  · obtain ⟨ha, hb, hab⟩ := hq
    rw [if_pos (show (0 ≤ a.toInt ∧ a.toInt < P) ∧ (0 ≤ b.toInt ∧ b.toInt < P) ∧ a ≠ b from ⟨ha, hb, hab⟩), if_neg n1, isPoint9 hM.1 (by omega), if_pos ha, bind_s, if_neg n1, isPoint9 hM.1 (by omega), if_pos hb, bind_s, if_neg n1, if_neg hab]
    obtain ⟨p, hp, rfl⟩ := isPt ha
    obtain ⟨q, hq, rfl⟩ := isPt hb
    obtain ⟨r, E', y', q1, q2, q3⟩ := miss_loop hV hN hp hq (fun e => hab (by rw [e])) W FU 0 (-9) 0 1 (w_equations x) y (by omega) (by unfold FU; omega) (by decide) h hM
    rw [show nI 0 = (0 : Int32) from rfl] at q1 q2
    exact ⟨r, w_equations_s x E', y', q1, q2, rel_eq q3 E'⟩
  · rw [if_neg hq, if_pos rfl]
    refine opI_no h (c := -1) (by decide) (bind_id _) ?_
    rw [isPoint9 hM.1 (by omega), bind_s]
    by_cases ha : 0 ≤ a.toInt ∧ a.toInt < P
    · rw [if_pos ha, if_neg n1, isPoint9 hM.1 (by omega), bind_s]
      by_cases hb : 0 ≤ b.toInt ∧ b.toInt < P
      · rw [if_pos hb, if_neg n1, if_pos (Classical.byContradiction fun z => hq ⟨ha, hb, z⟩)]
        exact bind_id _
      · rw [if_neg hb, if_pos rfl]
        exact bind_id _
    · rw [if_neg ha, if_pos rfl]
      exact bind_id _
