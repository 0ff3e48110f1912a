/-! keeps, brings: the image -/
def sx (r : Nat → Int32) (i : Nat) (a b c d e f : Int32) : Nat → Int32 := upd (upd (upd (upd (upd (upd r (2 + 6 * i) a) (3 + 6 * i) b) (4 + 6 * i) c) (5 + 6 * i) d) (6 + 6 * i) e) (7 + 6 * i) f
theorem sx_lo {r : Nat → Int32} {i j : Nat} {a b c d e f : Int32} (h : j < 2 + 6 * i) : sx r i a b c d e f j = r j := by
  unfold sx
  rw [upd_n (by omega), upd_n (by omega), upd_n (by omega), upd_n (by omega), upd_n (by omega), upd_n (by omega)]
theorem sx_at {r : Nat → Int32} {i : Nat} {a b c d e f : Int32} : sx r i a b c d e f (2 + 6 * i) = a ∧ sx r i a b c d e f (3 + 6 * i) = b ∧ sx r i a b c d e f (4 + 6 * i) = c ∧ sx r i a b c d e f (5 + 6 * i) = d ∧ sx r i a b c d e f (6 + 6 * i) = e ∧ sx r i a b c d e f (7 + 6 * i) = f := by
  unfold sx
  refine ⟨?_, ?_, ?_, ?_, ?_, ?_⟩
  · rw [upd_n (by omega), upd_n (by omega), upd_n (by omega), upd_n (by omega), upd_n (by omega), upd_s (α := Nat)]
  · rw [upd_n (by omega), upd_n (by omega), upd_n (by omega), upd_n (by omega), upd_s (α := Nat)]
  · rw [upd_n (by omega), upd_n (by omega), upd_n (by omega), upd_s (α := Nat)]
  · rw [upd_n (by omega), upd_n (by omega), upd_s (α := Nat)]
  · rw [upd_n (by omega), upd_s (α := Nat)]
  · rw [upd_s (α := Nat)]
theorem kst_14 (z : SX9) (r : Nat → Int32) (i k : Nat) (C : Int32) (K : SX9 → Option SX9) (g : SX9 → Nat → Int32) (hi : i < 11) (hC : C = nI k) (hk : k < 62) (hg : g (m_kept_s z r) = g z) : (ga 11 (nI i) fun j => ltt (g (m_kept_s z r) j) fun v => ga 62 C fun j4 => ltt (m_kept_s (m_kept_s z r) (upd (m_kept (m_kept_s z r)) j4 v)) K) = K (m_kept_s z (upd r k (g z i))) := by
  rw [ga_ok hi (by decide), ltt_e, hC, ga_ok hk (by decide), ltt_e, hg]
theorem keeps_loop_14 (z : SX9) : ∀ (d fu i : Nat) (r : Nat → Int32), i + d = 10 → d < fu → ∃ r' : Nat → Int32, qX9_keeps_14_16 fu (m_kept_s z r) (nI i) = some (m_kept_s z r') ∧ (∀ j, j < 2 + 6 * i → r' j = r j) ∧ ∀ k, i ≤ k → k < 10 → r' (2 + 6 * k) = m_first z k ∧ r' (3 + 6 * k) = m_second z k ∧ r' (4 + 6 * k) = m_kind z k ∧ r' (5 + 6 * k) = m_figure z k ∧ r' (6 + 6 * k) = m_load z k ∧ r' (7 + 6 * k) = m_length z k := by
  intro d
  induction d with
  | zero =>
    intro fu i r h1 h2
    match fu, h2 with
    | fu + 1, _ =>
      have hi : i = 10 := by omega
      subst hi
      unfold qX9_keeps_14_16
      rw [if_pos (show (10 : Int32) ≤ nI 10 by decide)]
      exact ⟨r, rfl, fun _ _ => rfl, fun k h3 h4 => by omega⟩
  | succ d ih =>
    intro fu i r h1 h2
    match fu, h2 with
    | fu + 1, h2 =>
      have hi : i < 11 := by omega
      obtain ⟨r1, hr1⟩ : ∃ f, f = sx r i (m_first z i) (m_second z i) (m_kind z i) (m_figure z i) (m_load z i) (m_length z i) := ⟨_, rfl⟩
      obtain ⟨r', q1, q2, q3⟩ := ih fu (i + 1) r1 (by omega) (by omega)
      refine ⟨r', ?_, fun j hj => ?_, fun k h3 h4 => ?_⟩
      · unfold qX9_keeps_14_16
        rw [if_neg (show ¬ (10 : Int32) ≤ nI i from nI_ge (b := 10) (by omega) (by decide))]
        have e2 : (2 : Int32) + (6 : Int32) * nI i = nI (2 + 6 * i) := by rw [show (2 : Int32) = nI 2 from rfl, show (6 : Int32) = nI 6 from rfl, pk_mul, nI_add]
        have e3 : (3 : Int32) + (6 : Int32) * nI i = nI (3 + 6 * i) := by rw [show (3 : Int32) = nI 3 from rfl, show (6 : Int32) = nI 6 from rfl, pk_mul, nI_add]
        have e4 : (4 : Int32) + (6 : Int32) * nI i = nI (4 + 6 * i) := by rw [show (4 : Int32) = nI 4 from rfl, show (6 : Int32) = nI 6 from rfl, pk_mul, nI_add]
        have e5 : (5 : Int32) + (6 : Int32) * nI i = nI (5 + 6 * i) := by rw [show (5 : Int32) = nI 5 from rfl, show (6 : Int32) = nI 6 from rfl, pk_mul, nI_add]
        have e6 : (6 : Int32) + (6 : Int32) * nI i = nI (6 + 6 * i) := by rw [show (6 : Int32) = nI 6 from rfl, pk_mul, nI_add]
        have e7 : (7 : Int32) + (6 : Int32) * nI i = nI (7 + 6 * i) := by rw [show (7 : Int32) = nI 7 from rfl, show (6 : Int32) = nI 6 from rfl, pk_mul, nI_add]
        refine Eq.trans (kst_14 z _ i (2 + 6 * i) _ _ m_first hi e2 (by omega) rfl) ?_
        refine Eq.trans (kst_14 z _ i (3 + 6 * i) _ _ m_second hi e3 (by omega) rfl) ?_
        refine Eq.trans (kst_14 z _ i (4 + 6 * i) _ _ m_kind hi e4 (by omega) rfl) ?_
        refine Eq.trans (kst_14 z _ i (5 + 6 * i) _ _ m_figure hi e5 (by omega) rfl) ?_
        refine Eq.trans (kst_14 z _ i (6 + 6 * i) _ _ m_load hi e6 (by omega) rfl) ?_
        refine Eq.trans (kst_14 z _ i (7 + 6 * i) _ _ m_length hi e7 (by omega) rfl) ?_
        rw [ltt_e, nI_1]
        rw [hr1] at q1
        unfold sx at q1
        rw [q1]
      · rw [q2 j (by omega), hr1, sx_lo (by omega)]
      · by_cases e : k = i
        · subst e
          rw [q2 _ (by omega), q2 _ (by omega), q2 _ (by omega), q2 _ (by omega), q2 _ (by omega), q2 _ (by omega), hr1]
          exact sx_at
        · exact q3 k (by omega) h4
theorem keeps_14 {y : SX9} {P W : Nat} {w : Nat → Wy} (hW : W ≤ 10) (hM : ME y P W w) : ∃ r : Nat → Int32, fX9_keeps_14 y = some (m_kept_s y r) ∧ KE r P W w := by
  obtain ⟨r0, hr0⟩ : ∃ f, f = upd (upd (m_kept y) 0 (m_points y)) 1 (m_many y) := ⟨_, rfl⟩
  obtain ⟨r', q1, q2, q3⟩ := keeps_loop_14 y 10 FU 0 r0 rfl (by unfold FU; omega)
  refine ⟨r', ?_, ?_, ?_, fun k hk => ?_⟩
  · have hh : m_kept_s (m_kept_s y (upd (m_kept y) 0 (m_points y))) (upd (m_kept (m_kept_s y (upd (m_kept y) 0 (m_points y)))) 1 (m_many (m_kept_s y (upd (m_kept y) 0 (m_points y))))) = m_kept_s y r0 := by rw [hr0]
    unfold fX9_keeps_14
    rw [show (0 : Int32) = nI 0 from rfl, show (1 : Int32) = nI 1 from rfl, ltt_e, ga_ok (show 0 < 62 by decide) (by decide), ltt_e, ltt_e, ga_ok (show 1 < 62 by decide) (by decide), ltt_e, hh, q1]
  · rw [q2 0 (by omega), hr0, upd_n (by decide), upd_s (α := Nat), hM.1]
  · rw [q2 1 (by omega), hr0, upd_s (α := Nat), hM.2.1]
  · obtain ⟨a1, a2, a3, a4, a5, a6⟩ := q3 k (by omega) (by omega)
    obtain ⟨b1, b2, b3, b4, b5, b6⟩ := hM.2.2 k hk
    exact ⟨a1.trans b1, a2.trans b2, a3.trans b3, a4.trans b4, a5.trans b5, a6.trans b6⟩
theorem kst_13 (z : SX9) (r : Nat → Int32) (i k : Nat) (C : Int32) (K : SX9 → Option SX9) (g : SX9 → Nat → Int32) (hi : i < 11) (hC : C = nI k) (hk : k < 62) (hg : g (m_was_s z r) = g z) : (ga 11 (nI i) fun j => ltt (g (m_was_s z r) j) fun v => ga 62 C fun j4 => ltt (m_was_s (m_was_s z r) (upd (m_was (m_was_s z r)) j4 v)) K) = K (m_was_s z (upd r k (g z i))) := by
  rw [ga_ok hi (by decide), ltt_e, hC, ga_ok hk (by decide), ltt_e, hg]
theorem keeps_loop_13 (z : SX9) : ∀ (d fu i : Nat) (r : Nat → Int32), i + d = 10 → d < fu → ∃ r' : Nat → Int32, qX9_keeps_13_16 fu (m_was_s z r) (nI i) = some (m_was_s z r') ∧ (∀ j, j < 2 + 6 * i → r' j = r j) ∧ ∀ k, i ≤ k → k < 10 → r' (2 + 6 * k) = m_first z k ∧ r' (3 + 6 * k) = m_second z k ∧ r' (4 + 6 * k) = m_kind z k ∧ r' (5 + 6 * k) = m_figure z k ∧ r' (6 + 6 * k) = m_load z k ∧ r' (7 + 6 * k) = m_length z k := by
  intro d
  induction d with
  | zero =>
    intro fu i r h1 h2
    match fu, h2 with
    | fu + 1, _ =>
      have hi : i = 10 := by omega
      subst hi
      unfold qX9_keeps_13_16
      rw [if_pos (show (10 : Int32) ≤ nI 10 by decide)]
      exact ⟨r, rfl, fun _ _ => rfl, fun k h3 h4 => by omega⟩
  | succ d ih =>
    intro fu i r h1 h2
    match fu, h2 with
    | fu + 1, h2 =>
      have hi : i < 11 := by omega
      obtain ⟨r1, hr1⟩ : ∃ f, f = sx r i (m_first z i) (m_second z i) (m_kind z i) (m_figure z i) (m_load z i) (m_length z i) := ⟨_, rfl⟩
      obtain ⟨r', q1, q2, q3⟩ := ih fu (i + 1) r1 (by omega) (by omega)
      refine ⟨r', ?_, fun j hj => ?_, fun k h3 h4 => ?_⟩
      · unfold qX9_keeps_13_16
        rw [if_neg (show ¬ (10 : Int32) ≤ nI i from nI_ge (b := 10) (by omega) (by decide))]
        have e2 : (2 : Int32) + (6 : Int32) * nI i = nI (2 + 6 * i) := by rw [show (2 : Int32) = nI 2 from rfl, show (6 : Int32) = nI 6 from rfl, pk_mul, nI_add]
        have e3 : (3 : Int32) + (6 : Int32) * nI i = nI (3 + 6 * i) := by rw [show (3 : Int32) = nI 3 from rfl, show (6 : Int32) = nI 6 from rfl, pk_mul, nI_add]
        have e4 : (4 : Int32) + (6 : Int32) * nI i = nI (4 + 6 * i) := by rw [show (4 : Int32) = nI 4 from rfl, show (6 : Int32) = nI 6 from rfl, pk_mul, nI_add]
        have e5 : (5 : Int32) + (6 : Int32) * nI i = nI (5 + 6 * i) := by rw [show (5 : Int32) = nI 5 from rfl, show (6 : Int32) = nI 6 from rfl, pk_mul, nI_add]
        have e6 : (6 : Int32) + (6 : Int32) * nI i = nI (6 + 6 * i) := by rw [show (6 : Int32) = nI 6 from rfl, pk_mul, nI_add]
        have e7 : (7 : Int32) + (6 : Int32) * nI i = nI (7 + 6 * i) := by rw [show (7 : Int32) = nI 7 from rfl, show (6 : Int32) = nI 6 from rfl, pk_mul, nI_add]
        refine Eq.trans (kst_13 z _ i (2 + 6 * i) _ _ m_first hi e2 (by omega) rfl) ?_
        refine Eq.trans (kst_13 z _ i (3 + 6 * i) _ _ m_second hi e3 (by omega) rfl) ?_
        refine Eq.trans (kst_13 z _ i (4 + 6 * i) _ _ m_kind hi e4 (by omega) rfl) ?_
        refine Eq.trans (kst_13 z _ i (5 + 6 * i) _ _ m_figure hi e5 (by omega) rfl) ?_
        refine Eq.trans (kst_13 z _ i (6 + 6 * i) _ _ m_load hi e6 (by omega) rfl) ?_
        refine Eq.trans (kst_13 z _ i (7 + 6 * i) _ _ m_length hi e7 (by omega) rfl) ?_
        rw [ltt_e, nI_1]
        rw [hr1] at q1
        unfold sx at q1
        rw [q1]
      · rw [q2 j (by omega), hr1, sx_lo (by omega)]
      · by_cases e : k = i
        · subst e
          rw [q2 _ (by omega), q2 _ (by omega), q2 _ (by omega), q2 _ (by omega), q2 _ (by omega), q2 _ (by omega), hr1]
          exact sx_at
        · exact q3 k (by omega) h4
theorem keeps_13 {y : SX9} {P W : Nat} {w : Nat → Wy} (hW : W ≤ 10) (hM : ME y P W w) : ∃ r : Nat → Int32, fX9_keeps_13 y = some (m_was_s y r) ∧ KE r P W w := by
  obtain ⟨r0, hr0⟩ : ∃ f, f = upd (upd (m_was y) 0 (m_points y)) 1 (m_many y) := ⟨_, rfl⟩
  obtain ⟨r', q1, q2, q3⟩ := keeps_loop_13 y 10 FU 0 r0 rfl (by unfold FU; omega)
  refine ⟨r', ?_, ?_, ?_, fun k hk => ?_⟩
  · have hh : m_was_s (m_was_s y (upd (m_was y) 0 (m_points y))) (upd (m_was (m_was_s y (upd (m_was y) 0 (m_points y)))) 1 (m_many (m_was_s y (upd (m_was y) 0 (m_points y))))) = m_was_s y r0 := by rw [hr0]
    unfold fX9_keeps_13
    rw [show (0 : Int32) = nI 0 from rfl, show (1 : Int32) = nI 1 from rfl, ltt_e, ga_ok (show 0 < 62 by decide) (by decide), ltt_e, ltt_e, ga_ok (show 1 < 62 by decide) (by decide), ltt_e, hh, q1]
  · rw [q2 0 (by omega), hr0, upd_n (by decide), upd_s (α := Nat), hM.1]
  · rw [q2 1 (by omega), hr0, upd_s (α := Nat), hM.2.1]
  · obtain ⟨a1, a2, a3, a4, a5, a6⟩ := q3 k (by omega) (by omega)
    obtain ⟨b1, b2, b3, b4, b5, b6⟩ := hM.2.2 k hk
    exact ⟨a1.trans b1, a2.trans b2, a3.trans b3, a4.trans b4, a5.trans b5, a6.trans b6⟩
