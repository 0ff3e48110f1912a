/-! copy, brings, image, on -/
theorem copy_loop {M : SX3} {P W : Nat} {w : Nat → Wy} (hW : W ≤ 10) (hM : NE M P W w) : ∀ (d fu i : Nat) (N : SX3), i + d = W → d < fu → n_points N = nI P → n_ways N = nI W → (∀ j, j < i → NWat N j (w j)) → ∃ N' : SX3, qX3_copy_18 M fu N (nI i) = some N' ∧ NE N' P W w := by
  intro d
  induction d with
  | zero =>
    intro fu i N h1 h2 hp hw ha
    match fu, h2 with
    | fu + 1, _ =>
      have hi : i = W := by omega
      subst hi
      unfold qX3_copy_18
      rw [hw, if_pos (nI_le (Nat.le_refl i) (by omega))]
      exact ⟨N, rfl, hp, hw, ha⟩
  | succ d ih =>
    intro fu i N h1 h2 hp hw ha
    match fu, h2 with
    | fu + 1, h2 =>
      unfold qX3_copy_18
      rw [hw, if_neg (nI_ge (by omega) (by omega))]
      obtain ⟨N1, r1, r2, r3, r4, r5⟩ := copyWay8o (N := N) (M := M) (p := i) (q := i) (by omega) (by omega)
      obtain ⟨N', q1, q2⟩ := ih fu (i + 1) N1 (by omega) (by omega) (r2.trans hp) (r3.trans hw) (fun j hj => by
        by_cases e : j = i
        · subst e
          exact r4 _ (hM.2.2 j (by omega))
        · exact r5 j _ e (ha j (by omega)))
      refine ⟨N', ?_, q2⟩
      rw [r1, bind_s, ltt_e, nI_1, q1]
theorem copy8 {N M : SX3} {P W : Nat} {w : Nat → Wy} (hW : W ≤ 10) (hM : NE M P W w) : ∃ N' : SX3, fX3_copy N M = some N' ∧ NE N' P W w := by
  obtain ⟨N', q1, q2⟩ := copy_loop hW hM W FU 0 (n_ways_s (n_points_s N (nI P)) (nI W)) (by omega) (by unfold FU; omega) rfl rfl (fun j hj => by omega)
  refine ⟨N', ?_, q2⟩
  unfold fX3_copy
  rw [ltt_e, ltt_e, ltt_e, ltt_e, hM.1, hM.2.1, show (0 : Int32) = nI 0 from rfl, q1]
theorem brings_loop_14 (z : SX9) : ∀ (d fu i : Nat) (p m : Int32) (f s k g l t : Nat → Int32), i + d = 10 → d < fu → ∃ f' s' k' g' l' t' : Nat → Int32, qX9_brings_14_16 fu (net9 z p m f s k g l t) (nI i) = some (net9 z p m f' s' k' g' l' t') ∧ (∀ j, j < i → f' j = f j ∧ s' j = s j ∧ k' j = k j ∧ g' j = g j ∧ l' j = l j ∧ t' j = t j) ∧ ∀ j, i ≤ j → j < 10 → f' j = m_kept z (2 + 6 * j) ∧ s' j = m_kept z (3 + 6 * j) ∧ k' j = m_kept z (4 + 6 * j) ∧ g' j = m_kept z (5 + 6 * j) ∧ l' j = m_kept z (6 + 6 * j) ∧ t' j = m_kept z (7 + 6 * j) := by
  intro d
  induction d with
  | zero =>
    intro fu i p m f s k g l t h1 h2
    match fu, h2 with
    | fu + 1, _ =>
      have hi : i = 10 := by omega
      subst hi
      unfold qX9_brings_14_16
      rw [if_pos (show (10 : Int32) ≤ nI 10 by decide)]
      exact ⟨f, s, k, g, l, t, rfl, fun _ _ => ⟨rfl, rfl, rfl, rfl, rfl, rfl⟩, fun k h3 h4 => by omega⟩
  | succ d ih =>
    intro fu i p m f s k g l t h1 h2
    match fu, h2 with
    | fu + 1, h2 =>
      have hi : i < 11 := by omega
      obtain ⟨F, hF⟩ : ∃ f', f' = upd f i (m_kept z (2 + 6 * i)) := ⟨_, rfl⟩
      obtain ⟨S, hS⟩ : ∃ f', f' = upd s i (m_kept z (3 + 6 * i)) := ⟨_, rfl⟩
      obtain ⟨K, hK⟩ : ∃ f', f' = upd k i (m_kept z (4 + 6 * i)) := ⟨_, rfl⟩
      obtain ⟨G, hG⟩ : ∃ f', f' = upd g i (m_kept z (5 + 6 * i)) := ⟨_, rfl⟩
      obtain ⟨L, hL⟩ : ∃ f', f' = upd l i (m_kept z (6 + 6 * i)) := ⟨_, rfl⟩
      obtain ⟨T, hT⟩ : ∃ f', f' = upd t i (m_kept z (7 + 6 * i)) := ⟨_, rfl⟩
      obtain ⟨f', s', k', g', l', t', q1, q2, q3⟩ := ih fu (i + 1) p m F S K G L T (by omega) (by omega)
      refine ⟨f', s', k', g', l', t', ?_, fun j hj => ?_, fun j h3 h4 => ?_⟩
      · unfold qX9_brings_14_16
        rw [if_neg (show ¬ (10 : Int32) ≤ nI i from nI_ge (b := 10) (by omega) (by decide))]
        have e2 : (2 : Int32) + (6 : Int32) * nI i = nI (2 + 6 * i) := by rw [show (2 : Int32) = nI 2 from rfl, show (6 : Int32) = nI 6 from rfl, pk_mul, nI_add]
        have e3 : (3 : Int32) + (6 : Int32) * nI i = nI (3 + 6 * i) := by rw [show (3 : Int32) = nI 3 from rfl, show (6 : Int32) = nI 6 from rfl, pk_mul, nI_add]
        have e4 : (4 : Int32) + (6 : Int32) * nI i = nI (4 + 6 * i) := by rw [show (4 : Int32) = nI 4 from rfl, show (6 : Int32) = nI 6 from rfl, pk_mul, nI_add]
        have e5 : (5 : Int32) + (6 : Int32) * nI i = nI (5 + 6 * i) := by rw [show (5 : Int32) = nI 5 from rfl, show (6 : Int32) = nI 6 from rfl, pk_mul, nI_add]
        have e6 : (6 : Int32) + (6 : Int32) * nI i = nI (6 + 6 * i) := by rw [show (6 : Int32) = nI 6 from rfl, pk_mul, nI_add]
        have e7 : (7 : Int32) + (6 : Int32) * nI i = nI (7 + 6 * i) := by rw [show (7 : Int32) = nI 7 from rfl, show (6 : Int32) = nI 6 from rfl, pk_mul, nI_add]
        rw [ga_eq e2 (by omega) (by decide), ltt_e, ga_ok hi (by decide), ltt_e]
        rw [show m_first_s (net9 z p m f s k g l t) (upd (m_first (net9 z p m f s k g l t)) i (m_kept (net9 z p m f s k g l t) (2 + 6 * i))) = net9 z p m F s k g l t by rw [hF]]
        rw [ga_eq e3 (by omega) (by decide), ltt_e, ga_ok hi (by decide), ltt_e]
        rw [show m_second_s (net9 z p m F s k g l t) (upd (m_second (net9 z p m F s k g l t)) i (m_kept (net9 z p m F s k g l t) (3 + 6 * i))) = net9 z p m F S k g l t by rw [hS]]
        rw [ga_eq e4 (by omega) (by decide), ltt_e, ga_ok hi (by decide), ltt_e]
        rw [show m_kind_s (net9 z p m F S k g l t) (upd (m_kind (net9 z p m F S k g l t)) i (m_kept (net9 z p m F S k g l t) (4 + 6 * i))) = net9 z p m F S K g l t by rw [hK]]
        rw [ga_eq e5 (by omega) (by decide), ltt_e, ga_ok hi (by decide), ltt_e]
        rw [show m_figure_s (net9 z p m F S K g l t) (upd (m_figure (net9 z p m F S K g l t)) i (m_kept (net9 z p m F S K g l t) (5 + 6 * i))) = net9 z p m F S K G l t by rw [hG]]
        rw [ga_eq e6 (by omega) (by decide), ltt_e, ga_ok hi (by decide), ltt_e]
        rw [show m_load_s (net9 z p m F S K G l t) (upd (m_load (net9 z p m F S K G l t)) i (m_kept (net9 z p m F S K G l t) (6 + 6 * i))) = net9 z p m F S K G L t by rw [hL]]
        rw [ga_eq e7 (by omega) (by decide), ltt_e, ga_ok hi (by decide), ltt_e]
        rw [show m_length_s (net9 z p m F S K G L t) (upd (m_length (net9 z p m F S K G L t)) i (m_kept (net9 z p m F S K G L t) (7 + 6 * i))) = net9 z p m F S K G L T by rw [hT]]
        rw [ltt_e, nI_1, q1]
      · obtain ⟨a1, a2, a3, a4, a5, a6⟩ := q2 j (by omega)
        have hj' : j ≠ i := by omega
        rw [a1, a2, a3, a4, a5, a6, hF, hS, hK, hG, hL, hT, upd_n hj', upd_n hj', upd_n hj', upd_n hj', upd_n hj', upd_n hj']
        exact ⟨rfl, rfl, rfl, rfl, rfl, rfl⟩
      · by_cases e : j = i
        · subst e
          obtain ⟨a1, a2, a3, a4, a5, a6⟩ := q2 j (by omega)
          rw [a1, a2, a3, a4, a5, a6, hF, hS, hK, hG, hL, hT, upd_s (α := Nat), upd_s (α := Nat), upd_s (α := Nat), upd_s (α := Nat), upd_s (α := Nat), upd_s (α := Nat)]
          exact ⟨rfl, rfl, rfl, rfl, rfl, rfl⟩
        · exact q3 j (by omega) h4
theorem brings_14 {z : SX9} {P W : Nat} {w : Nat → Wy} (hW : W ≤ 10) (hK : KE (m_kept z) P W w) : ∃ f s k g l t : Nat → Int32, fX9_brings_14 z = some (net9 z (nI P) (nI W) f s k g l t) ∧ ME6 (nI P) (nI W) f s k g l t P W w := by
  obtain ⟨f', s', k', g', l', t', q1, -, q3⟩ := brings_loop_14 z 10 FU 0 (nI P) (nI W) (m_first z) (m_second z) (m_kind z) (m_figure z) (m_load z) (m_length z) rfl (by unfold FU; omega)
  refine ⟨f', s', k', g', l', t', ?_, rfl, rfl, fun j hj => ?_⟩
  · have hh : m_many_s (m_points_s z (nI P)) (nI W) = net9 z (nI P) (nI W) (m_first z) (m_second z) (m_kind z) (m_figure z) (m_load z) (m_length z) := rfl
    have h1 : m_kept (m_points_s z (nI P)) = m_kept z := rfl
    unfold fX9_brings_14
    rw [show (0 : Int32) = nI 0 from rfl, show (1 : Int32) = nI 1 from rfl, ga_ok (show 0 < 62 by decide) (by decide), ltt_e, hK.1, ltt_e, ga_ok (show 1 < 62 by decide) (by decide), ltt_e, ltt_e, h1, hK.2.1, hh, q1]
  · obtain ⟨a1, a2, a3, a4, a5, a6⟩ := q3 j (by omega) (by omega)
    obtain ⟨b1, b2, b3, b4, b5, b6⟩ := hK.2.2 j hj
    exact ⟨a1.trans b1, a2.trans b2, a3.trans b3, a4.trans b4, a5.trans b5, a6.trans b6⟩
theorem brings_loop_13 (z : SX9) : ∀ (d fu i : Nat) (p m : Int32) (f s k g l t : Nat → Int32), i + d = 10 → d < fu → ∃ f' s' k' g' l' t' : Nat → Int32, qX9_brings_13_16 fu (net9 z p m f s k g l t) (nI i) = some (net9 z p m f' s' k' g' l' t') ∧ (∀ j, j < i → f' j = f j ∧ s' j = s j ∧ k' j = k j ∧ g' j = g j ∧ l' j = l j ∧ t' j = t j) ∧ ∀ j, i ≤ j → j < 10 → f' j = m_was z (2 + 6 * j) ∧ s' j = m_was z (3 + 6 * j) ∧ k' j = m_was z (4 + 6 * j) ∧ g' j = m_was z (5 + 6 * j) ∧ l' j = m_was z (6 + 6 * j) ∧ t' j = m_was z (7 + 6 * j) := by
  intro d
  induction d with
  | zero =>
    intro fu i p m f s k g l t h1 h2
    match fu, h2 with
    | fu + 1, _ =>
      have hi : i = 10 := by omega
      subst hi
      unfold qX9_brings_13_16
      rw [if_pos (show (10 : Int32) ≤ nI 10 by decide)]
      exact ⟨f, s, k, g, l, t, rfl, fun _ _ => ⟨rfl, rfl, rfl, rfl, rfl, rfl⟩, fun k h3 h4 => by omega⟩
  | succ d ih =>
    intro fu i p m f s k g l t h1 h2
    match fu, h2 with
    | fu + 1, h2 =>
      have hi : i < 11 := by omega
      obtain ⟨F, hF⟩ : ∃ f', f' = upd f i (m_was z (2 + 6 * i)) := ⟨_, rfl⟩
      obtain ⟨S, hS⟩ : ∃ f', f' = upd s i (m_was z (3 + 6 * i)) := ⟨_, rfl⟩
      obtain ⟨K, hK⟩ : ∃ f', f' = upd k i (m_was z (4 + 6 * i)) := ⟨_, rfl⟩
      obtain ⟨G, hG⟩ : ∃ f', f' = upd g i (m_was z (5 + 6 * i)) := ⟨_, rfl⟩
      obtain ⟨L, hL⟩ : ∃ f', f' = upd l i (m_was z (6 + 6 * i)) := ⟨_, rfl⟩
      obtain ⟨T, hT⟩ : ∃ f', f' = upd t i (m_was z (7 + 6 * i)) := ⟨_, rfl⟩
      obtain ⟨f', s', k', g', l', t', q1, q2, q3⟩ := ih fu (i + 1) p m F S K G L T (by omega) (by omega)
      refine ⟨f', s', k', g', l', t', ?_, fun j hj => ?_, fun j h3 h4 => ?_⟩
      · unfold qX9_brings_13_16
        rw [if_neg (show ¬ (10 : Int32) ≤ nI i from nI_ge (b := 10) (by omega) (by decide))]
        have e2 : (2 : Int32) + (6 : Int32) * nI i = nI (2 + 6 * i) := by rw [show (2 : Int32) = nI 2 from rfl, show (6 : Int32) = nI 6 from rfl, pk_mul, nI_add]
        have e3 : (3 : Int32) + (6 : Int32) * nI i = nI (3 + 6 * i) := by rw [show (3 : Int32) = nI 3 from rfl, show (6 : Int32) = nI 6 from rfl, pk_mul, nI_add]
        have e4 : (4 : Int32) + (6 : Int32) * nI i = nI (4 + 6 * i) := by rw [show (4 : Int32) = nI 4 from rfl, show (6 : Int32) = nI 6 from rfl, pk_mul, nI_add]
        have e5 : (5 : Int32) + (6 : Int32) * nI i = nI (5 + 6 * i) := by rw [show (5 : Int32) = nI 5 from rfl, show (6 : Int32) = nI 6 from rfl, pk_mul, nI_add]
        have e6 : (6 : Int32) + (6 : Int32) * nI i = nI (6 + 6 * i) := by rw [show (6 : Int32) = nI 6 from rfl, pk_mul, nI_add]
        have e7 : (7 : Int32) + (6 : Int32) * nI i = nI (7 + 6 * i) := by rw [show (7 : Int32) = nI 7 from rfl, show (6 : Int32) = nI 6 from rfl, pk_mul, nI_add]
        rw [ga_eq e2 (by omega) (by decide), ltt_e, ga_ok hi (by decide), ltt_e]
        rw [show m_first_s (net9 z p m f s k g l t) (upd (m_first (net9 z p m f s k g l t)) i (m_was (net9 z p m f s k g l t) (2 + 6 * i))) = net9 z p m F s k g l t by rw [hF]]
        rw [ga_eq e3 (by omega) (by decide), ltt_e, ga_ok hi (by decide), ltt_e]
        rw [show m_second_s (net9 z p m F s k g l t) (upd (m_second (net9 z p m F s k g l t)) i (m_was (net9 z p m F s k g l t) (3 + 6 * i))) = net9 z p m F S k g l t by rw [hS]]
        rw [ga_eq e4 (by omega) (by decide), ltt_e, ga_ok hi (by decide), ltt_e]
        rw [show m_kind_s (net9 z p m F S k g l t) (upd (m_kind (net9 z p m F S k g l t)) i (m_was (net9 z p m F S k g l t) (4 + 6 * i))) = net9 z p m F S K g l t by rw [hK]]
        rw [ga_eq e5 (by omega) (by decide), ltt_e, ga_ok hi (by decide), ltt_e]
        rw [show m_figure_s (net9 z p m F S K g l t) (upd (m_figure (net9 z p m F S K g l t)) i (m_was (net9 z p m F S K g l t) (5 + 6 * i))) = net9 z p m F S K G l t by rw [hG]]
        rw [ga_eq e6 (by omega) (by decide), ltt_e, ga_ok hi (by decide), ltt_e]
        rw [show m_load_s (net9 z p m F S K G l t) (upd (m_load (net9 z p m F S K G l t)) i (m_was (net9 z p m F S K G l t) (6 + 6 * i))) = net9 z p m F S K G L t by rw [hL]]
        rw [ga_eq e7 (by omega) (by decide), ltt_e, ga_ok hi (by decide), ltt_e]
        rw [show m_length_s (net9 z p m F S K G L t) (upd (m_length (net9 z p m F S K G L t)) i (m_was (net9 z p m F S K G L t) (7 + 6 * i))) = net9 z p m F S K G L T by rw [hT]]
        rw [ltt_e, nI_1, q1]
      · obtain ⟨a1, a2, a3, a4, a5, a6⟩ := q2 j (by omega)
        have hj' : j ≠ i := by omega
        rw [a1, a2, a3, a4, a5, a6, hF, hS, hK, hG, hL, hT, upd_n hj', upd_n hj', upd_n hj', upd_n hj', upd_n hj', upd_n hj']
        exact ⟨rfl, rfl, rfl, rfl, rfl, rfl⟩
      · by_cases e : j = i
        · subst e
          obtain ⟨a1, a2, a3, a4, a5, a6⟩ := q2 j (by omega)
          rw [a1, a2, a3, a4, a5, a6, hF, hS, hK, hG, hL, hT, upd_s (α := Nat), upd_s (α := Nat), upd_s (α := Nat), upd_s (α := Nat), upd_s (α := Nat), upd_s (α := Nat)]
          exact ⟨rfl, rfl, rfl, rfl, rfl, rfl⟩
        · exact q3 j (by omega) h4
theorem brings_13 {z : SX9} {P W : Nat} {w : Nat → Wy} (hW : W ≤ 10) (hK : KE (m_was z) P W w) : ∃ f s k g l t : Nat → Int32, fX9_brings_13 z = some (net9 z (nI P) (nI W) f s k g l t) ∧ ME6 (nI P) (nI W) f s k g l t P W w := by
  obtain ⟨f', s', k', g', l', t', q1, -, q3⟩ := brings_loop_13 z 10 FU 0 (nI P) (nI W) (m_first z) (m_second z) (m_kind z) (m_figure z) (m_load z) (m_length z) rfl (by unfold FU; omega)
  refine ⟨f', s', k', g', l', t', ?_, rfl, rfl, fun j hj => ?_⟩
  · have hh : m_many_s (m_points_s z (nI P)) (nI W) = net9 z (nI P) (nI W) (m_first z) (m_second z) (m_kind z) (m_figure z) (m_load z) (m_length z) := rfl
    have h1 : m_was (m_points_s z (nI P)) = m_was z := rfl
    unfold fX9_brings_13
    rw [show (0 : Int32) = nI 0 from rfl, show (1 : Int32) = nI 1 from rfl, ga_ok (show 0 < 62 by decide) (by decide), ltt_e, hK.1, ltt_e, ga_ok (show 1 < 62 by decide) (by decide), ltt_e, ltt_e, h1, hK.2.1, hh, q1]
  · obtain ⟨a1, a2, a3, a4, a5, a6⟩ := q3 j (by omega) (by omega)
    obtain ⟨b1, b2, b3, b4, b5, b6⟩ := hK.2.2 j hj
    exact ⟨a1.trans b1, a2.trans b2, a3.trans b3, a4.trans b4, a5.trans b5, a6.trans b6⟩
theorem op_image {x : SX8} {y : SX9} (h : Rel x y) : OpI (fX8_image x) (fX9_image y) := by
  obtain ⟨P, W, w, hV, hN, hM⟩ := h.1
  obtain ⟨N', q1, q2⟩ := copy8 (N := w_imaged x) hV.2.2.1 hN
  obtain ⟨r, k1, k2⟩ := keeps_14 hV.2.2.1 hM
  refine ⟨nI W, w_hasImage_s (w_imaged_s x N') 1, m_isKept_s (m_kept_s y r) 1, ?_, ?_, ⟨P, W, w, hV, hN, hM⟩, Or.inr ⟨rfl, rfl, P, W, w, hV, q2, k2⟩, h.2.2⟩
  · unfold fX8_image
    rw [q1, bind_s, ltt_e, ltt_e]
    exact congrArg some (Prod.ext hN.2.1 rfl)
  · unfold fX9_image
    rw [k1, bind_s, ltt_e]
    exact congrArg some (Prod.ext hM.2.1 rfl)
theorem op_on {x : SX8} {y : SX9} (h : Rel x y) : OpI (fX8_on x) (fX9_on y) := by
  rcases h.2.1 with ⟨e1, e2⟩ | ⟨e1, e2, P, W, w, hV, hN, hK⟩
  · exact opI_no h (c := -3) (by simp) (by unfold fX8_on; rw [e1, if_pos rfl, bind_id (fX8_counted x (-3))]) (by unfold fX9_on; rw [e2, if_pos rfl, bind_id (fX9_no y (-3))])
  · obtain ⟨N', q1, q2⟩ := copy8 (N := w_net x) hV.2.2.1 hN
    obtain ⟨f, s, k, g, l, t, k1, k2⟩ := brings_14 hV.2.2.1 hK
    refine ⟨nI W, w_net_s x N', net9 y (nI P) (nI W) f s k g l t, ?_, ?_, ⟨P, W, w, hV, q2, k2⟩, h.2⟩
    · unfold fX8_on
      rw [e1, if_neg (show ¬ (1 : Int32) = 0 by decide), q1, bind_s, ltt_e]
      exact congrArg some (Prod.ext q2.2.1 rfl)
    · unfold fX9_on
      rw [e2, if_neg (show ¬ (1 : Int32) = 0 by decide), k1, bind_s]
