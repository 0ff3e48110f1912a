/-! tells -/
theorem all_both {x : SX8} {t : SX7} {y : SX9} {n : Nat} {L : Nat → Int32} (h : TB t y n L) : ∀ (m fu p c : Nat) (N : SX3) (P W : Nat) (w : Nat → Wy) (pp mm : Int32) (F S K G LO LE d : Nat → Int32), PO t n m p → m < fu → p ≤ n → c ≤ p → NV P W w → NE N P W w → ME6 pp mm F S K G LO LE P W w →
    (∃ (g : Nat) (N' : SX3) (pp' mm' : Int32) (F' S' K' G' LO' LE' : Nat → Int32) (a' : Int32) (d' : Nat → Int32), g ≤ n ∧ qX7_changeAll_4 t fu N (nI p) (nI c) = some (-2000 - nI g, N') ∧ qX9_allDone_5 fu (T9 y pp mm F S K G LO LE (nI p) d) = some (-2000 - nI g, T9 y pp' mm' F' S' K' G' LO' LE' a' d')) ∨
    (∃ (N' : SX3) (P' W' : Nat) (w' : Nat → Wy) (pp' mm' : Int32) (F' S' K' G' LO' LE' : Nat → Int32) (a' : Int32) (d' : Nat → Int32), qX7_changeAll_4 t fu N (nI p) (nI c) = some (nI (c + m), N') ∧ qX9_allDone_5 fu (T9 y pp mm F S K G LO LE (nI p) d) = some (0, T9 y pp' mm' F' S' K' G' LO' LE' a' d') ∧ NV P' W' w' ∧ NE N' P' W' w' ∧ ME6 pp' mm' F' S' K' G' LO' LE' P' W' w') := by
  have hn := h.1
  intro m
  induction m with
  | zero =>
    intro fu p c N P W w pp mm F S K G LO LE d hPO h2 h3 h4 hV hN hM
    match fu, h2 with
    | fu + 1, _ =>
      have hp : p = n := hPO
      refine Or.inr ⟨N, P, W, w, pp, mm, F, S, K, G, LO, LE, nI p, d, ?_, ?_, hV, hN, hM⟩
      · unfold qX7_changeAll_4
        rw [h.2.1, if_pos (nI_le (by omega) (by omega))]
        rfl
      · unfold qX9_allDone_5
        rw [show m_lettered (T9 y pp mm F S K G LO LE (nI p) d) = nI n from h.2.2.2.1, show m_at (T9 y pp mm F S K G LO LE (nI p) d) = nI p from rfl, if_pos (nI_le (by omega) (by omega))]
  | succ m ih =>
    intro fu p c N P W w pp mm F S K G LO LE d hPO h2 h3 h4 hV hN hM
    match fu, h2 with
    | fu + 1, h2 =>
      obtain ⟨k, e, hS, he, hPO'⟩ := hPO
      have hk := hS.1
      have hs := fin_szb k hk
      have hee := hS.2.1
      obtain ⟨d1, g1, g2⟩ := so_stm (TB_T9 h pp mm F S K G LO LE) (f := d) h3 hS
      have g1' : fX9_statement (T9 y pp mm F S K G LO LE (nI p) d) = some (nI k, T9 y pp mm F S K G LO LE (nI e) d1) := g1
      have hd : ∀ i, i < nu k → d1 i = dv L n (p + sz k) i := fun i hi => by
        rw [g2 i hi]
        unfold dv
        rw [if_pos (by omega)]
      have hch := change_both (x := x) h (b := p + sz k) (a := nI e) (by omega) hk hV hN hM hd
      have e8 : ∀ fu, qX7_changeAll_4 t (fu + 1) N (nI p) (nI c) = (fX7_change t N (nI k) (nI (p + sz k))).bind fun o4 => (if (0 : Int32) ≤ o4.1 then qX7_changeAll_4 t fu o4.2 (nI e) (nI (c + 1)) else some (((-2000 : Int32) - nI p), o4.2)) := by
        intro fu
        rw [qX7_changeAll_4, h.2.1, if_neg (nI_ge (by omega) (by omega)), if_neg (show ¬ (120 : Int32) ≤ nI c from nI_ge (b := 120) (by omega) (by decide)), hS.2.2.1, bind_s, fin_textOf k hk, bind_s, fin_len k hk, bind_s, gk_ok hk, nI_add]
        congr 1
        funext o4
        rw [endOf8 t hk, bind_s, ltt_e, nI_1, ← hee]
      have e9 : ∀ fu, qX9_allDone_5 (fu + 1) (T9 y pp mm F S K G LO LE (nI p) d) = (fX9_notSo (T9 y pp mm F S K G LO LE (nI e) d1) (nI k)).bind fun o2 => (if o2 = (0 : Int32) then (fX9_does (T9 y pp mm F S K G LO LE (nI e) d1) (nI k)).bind fun o3 => qX9_allDone_5 fu o3 else some (((-2000 : Int32) - nI p), T9 y pp mm F S K G LO LE (nI e) d1)) := by
        intro fu
        rw [qX9_allDone_5, show m_lettered (T9 y pp mm F S K G LO LE (nI p) d) = nI n from h.2.2.2.1, show m_at (T9 y pp mm F S K G LO LE (nI p) d) = nI p from rfl, if_neg (nI_ge (by omega) (by omega)), ltt_e, g1', bind_s]
      rcases hch with ⟨c0, c1, n0, n1, r8, r9⟩ | ⟨r, N', pp', mm', F', S', K', G', LO', LE', P', W', w', n0, r8, r9, rd, r3, r4, r5⟩
      · refine Or.inl ⟨p, N, pp, mm, F, S, K, G, LO, LE, nI e, d1, h3, ?_, ?_⟩
        · rw [e8, r8, bind_s, if_neg n0]
        · rw [e9, r9, bind_s, if_neg n1]
      · have f8 : qX7_changeAll_4 t (fu + 1) N (nI p) (nI c) = qX7_changeAll_4 t fu N' (nI e) (nI (c + 1)) := by
          rw [e8, r8, bind_s, if_pos n0]
        have f9 : qX9_allDone_5 (fu + 1) (T9 y pp mm F S K G LO LE (nI p) d) = qX9_allDone_5 fu (T9 y pp' mm' F' S' K' G' LO' LE' (nI e) d1) := by
          rw [e9, r9, bind_s, if_pos rfl, rd, bind_s]
        rw [f8, f9, show c + (m + 1) = c + 1 + m by omega]
        exact ih fu e (c + 1) N' P' W' w' pp' mm' F' S' K' G' LO' LE' d1 hPO' (by omega) he (by omega) r3 r4 r5
theorem was_T9 (y : SX9) (r : Nat → Int32) (a b : Int32) (d : Nat → Int32) : m_at_s (m_was_s (tl9 y a d) r) b = T9 (m_was_s y r) (m_points y) (m_many y) (m_first y) (m_second y) (m_kind y) (m_figure y) (m_load y) (m_length y) b d := by
  obtain ⟨a1, a2, a3, a4, a5, a6, a7, a8, a9, a10, a11, a12, a13, a14, a15, a16, a17, a18, a19, a20, a21, a22, a23, a24, a25, a26, a27, a28, a29, a30, a31, a32, a33, a34, a35, a36, a37, a38, a39, a40, a41, a42, a43, a44, a45, a46, a47, a48⟩ := y
  exact (show _ = ((a1, a2, a3, a4, a5, a6, a7, a8, a9, a10, a11, b, a13, a14, a15, d, r, a18, a19, a20, a21, a22, a23, a24, a25, a26, a27, a28, a29, a30, a31, a32, a33, a34, a35, a36, a37, a38, a39, a40, a41, a42, a43, a44, a45, a46, a47, a48) : SX9) from rfl).trans rfl
theorem fin_m1000 : ∀ g, g < 121 → ((-1000 : Int32) - nI g) ≤ 0 := by decide +kernel
theorem fin_m2000 : ∀ g, g < 121 → ((-2000 : Int32) - nI g) ≤ 0 ∧ ¬ (0 : Int32) ≤ (-2000 : Int32) - nI g := by decide +kernel
theorem rel_tell {x : SX8} {y : SX9} (h : Rel x y) (N1 : SX3) (a : Int32) (f : Nat → Int32) : Rel (w_trial_s (w_telling_s x (te_size_s (w_telling x) 0)) N1) (m_lettered_s (tl9 y a f) 0) := ⟨h.1, h.2.1, ⟨0, by omega, rfl, rfl, fun k hk => by omega⟩, h.2.2.2.1, h.2.2.2.2.1, h.2.2.2.2.2.1, h.2.2.2.2.2.2.1, h.2.2.2.2.2.2.2⟩
theorem rel_tell2 {x : SX8} {y : SX9} (h : Rel x y) (N1 N2 : SX3) (r : Nat → Int32) {pp mm : Int32} {F S K G LO LE : Nat → Int32} (a : Int32) (d : Nat → Int32) (hn : Rnet N2 pp mm F S K G LO LE) : Rel (w_net_s (w_trial_s (w_telling_s x (te_size_s (w_telling x) 0)) N1) N2) (m_lettered_s (T9 (m_was_s y r) pp mm F S K G LO LE a d) 0) := ⟨hn, h.2.1, ⟨0, by omega, rfl, rfl, fun k hk => by omega⟩, h.2.2.2.1, h.2.2.2.2.1, h.2.2.2.2.2.1, h.2.2.2.2.2.2.1, h.2.2.2.2.2.2.2⟩
theorem rel_tell3 {x : SX8} {y : SX9} (h : Rel x y) (N1 : SX3) (r : Nat → Int32) {pp mm : Int32} {F S K G LO LE : Nat → Int32} (a : Int32) (d : Nat → Int32) (hn : Rnet (w_net x) pp mm F S K G LO LE) : Rel (w_trial_s (w_telling_s x (te_size_s (w_telling x) 0)) N1) (m_lettered_s (T9 (m_was_s y r) pp mm F S K G LO LE a d) 0) := ⟨hn, h.2.1, ⟨0, by omega, rfl, rfl, fun k hk => by omega⟩, h.2.2.2.1, h.2.2.2.2.1, h.2.2.2.2.2.1, h.2.2.2.2.2.2.1, h.2.2.2.2.2.2.2⟩
theorem op_tells {x : SX8} {y : SX9} (h : Rel x y) : OpI (fX8_tells x) (fX9_tells y) := by
  obtain ⟨P, W, w, hV, hN, hM⟩ := h.1
  obtain ⟨n, hn, t1, t2, t3⟩ := h.2.2.1
  have hc := h.2.2.2.2.2.2.2
  have hT : TB (w_telling x) y n (m_letters y) := ⟨hn, t1, t3, t2, fun _ _ => rfl, hc.1, hc.2.1, hc.2.2.1⟩
  obtain ⟨N1, c1, c2⟩ := copy8 (N := w_trial x) hV.2.2.1 hN
  have e8 : fX8_tells x = (fX7_tellOnto (w_telling x) N1).bind fun o2 => ltt ((w_trial_s (w_telling_s (w_trial_s x N1) o2.2.1) o2.2.2)) fun xs2 => (if o2.1 ≤ (0 : Int32) then some (o2.1, xs2) else (fX3_copy (w_net xs2) (w_trial xs2)).bind fun o3 => ltt ((w_net_s xs2 o3)) fun xs3 => some (o2.1, xs3)) := by
    unfold fX8_tells
    rw [c1, bind_s, ltt_e]
  rcases gram_both hT n FU 0 0 (m_told y) (by omega) (by unfold FU; omega) (by omega) (by omega) with ⟨g, f', g1, g2, g3⟩ | ⟨m, f', m1, m2, m3, m4, m5⟩
  · have hF : fX7_faultOfForm (w_telling x) = some (nI g) := by
      unfold fX7_faultOfForm
      rw [show (0 : Int32) = nI 0 from rfl, g2]
    have hG : fX9_grammar y = some (-1000 - nI g, tl9 y (nI g) f') := by
      unfold fX9_grammar
      rw [ltt_e, tl9_0, show (0 : Int32) = nI 0 from rfl, g3]
    refine ⟨-1000 - nI g, _, _, ?_, ?_, rel_tell h N1 (nI g) f'⟩
    · rw [e8]
      unfold fX7_tellOnto qX7_tellOnto_22
      rw [hF, bind_s, if_neg (nI_pos (by omega)), ltt_e, bind_s, ltt_e, if_pos (fin_m1000 g (by omega))]
    · unfold fX9_tells qX9_tells_36
      rw [hG, bind_s, if_pos (fin_m1000 g (by omega)), ltt_e]
  · have hF : fX7_faultOfForm (w_telling x) = some (-1) := by
      unfold fX7_faultOfForm
      rw [show (0 : Int32) = nI 0 from rfl, m4]
    have hG : fX9_grammar y = some (nI m, tl9 y (nI n) f') := by
      unfold fX9_grammar
      rw [ltt_e, tl9_0, show (0 : Int32) = nI 0 from rfl, m5, Nat.zero_add]
    have hm1 : 1 ≤ m := m3 rfl
    have hm0 : ¬ nI m ≤ 0 := nI_nle (by omega) (by omega)
    have hMt : ME (tl9 y (nI n) f') P W w := hM
    obtain ⟨r, r1, r2⟩ := keeps_13 hV.2.2.1 hMt
    have hTw : TB (w_telling x) (m_was_s y r) n (m_letters y) := ⟨hn, t1, t3, t2, fun _ _ => rfl, hc.1, hc.2.1, hc.2.2.1⟩
    rcases all_both (x := x) hTw m FU 0 0 N1 P W w (m_points y) (m_many y) (m_first y) (m_second y) (m_kind y) (m_figure y) (m_load y) (m_length y) f' m1 (by unfold FU; omega) (by omega) (by omega) hV c2 hM with ⟨g, N', pp', mm', F', S', K', G', LO', LE', a', d', g1, g2, g3⟩ | ⟨N', P', W', w', pp', mm', F', S', K', G', LO', LE', a', d', q8, q9, q1, q2, q3⟩
    · have hD : fX9_allDone (m_was_s (tl9 y (nI n) f') r) = some (-2000 - nI g, T9 (m_was_s y r) pp' mm' F' S' K' G' LO' LE' a' d') := by
        unfold fX9_allDone
        rw [ltt_e, was_T9, show (0 : Int32) = nI 0 from rfl, g3]
      have hKE : KE (m_was (T9 (m_was_s y r) pp' mm' F' S' K' G' LO' LE' a' d')) P W w := r2
      obtain ⟨f, s, k, gg, l, t, b1, b2⟩ := brings_13 hV.2.2.1 hKE
      rw [T9_net] at b1
      refine ⟨-2000 - nI g, _, _, ?_, ?_, rel_tell3 h N' r a' d' ⟨P, W, w, hV, hN, b2⟩⟩
      · have hO : fX7_tellOnto (w_telling x) N1 = some (-2000 - nI g, te_size_s (w_telling x) 0, N') := by
          unfold fX7_tellOnto qX7_tellOnto_22 fX7_changeAll
          rw [hF, bind_s, if_pos (show (-1 : Int32) < 0 by decide), show (0 : Int32) = nI 0 from rfl, g2, bind_s, ltt_e]
        rw [e8, hO, bind_s, ltt_e, if_pos (fin_m2000 g (by omega)).1]
      · unfold fX9_tells qX9_tells_36
        rw [hG, bind_s, if_neg hm0, r1, bind_s, hD, bind_s, if_neg (fin_m2000 g (by omega)).2, b1, bind_s, ltt_e]
    · have hD : fX9_allDone (m_was_s (tl9 y (nI n) f') r) = some (0, T9 (m_was_s y r) pp' mm' F' S' K' G' LO' LE' a' d') := by
        unfold fX9_allDone
        rw [ltt_e, was_T9, show (0 : Int32) = nI 0 from rfl, q9]
        rfl
      obtain ⟨N2, k1, k2⟩ := copy8 (N := w_net x) q1.2.2.1 q2
      refine ⟨nI m, _, _, ?_, ?_, rel_tell2 h N' N2 r a' d' ⟨P', W', w', q1, k2, q3⟩⟩
      · have hO : fX7_tellOnto (w_telling x) N1 = some (nI m, te_size_s (w_telling x) 0, N') := by
          unfold fX7_tellOnto qX7_tellOnto_22 fX7_changeAll
          rw [Nat.zero_add] at q8
          rw [hF, bind_s, if_pos (show (-1 : Int32) < 0 by decide), show (0 : Int32) = nI 0 from rfl, q8, bind_s, ltt_e]
        rw [e8, hO, bind_s, ltt_e, if_neg hm0]
        show ((fX3_copy (w_net x) N').bind fun o3 => ltt (w_net_s (w_trial_s (w_telling_s (w_trial_s x N1) (te_size_s (w_telling x) 0)) N') o3) fun xs3 => some (nI m, xs3)) = _
        rw [k1, bind_s, ltt_e]
      · unfold fX9_tells qX9_tells_36
        rw [hG, bind_s, if_neg hm0, r1, bind_s, hD, bind_s, if_pos (show (0 : Int32) ≤ 0 by decide), ltt_e]
