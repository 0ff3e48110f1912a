/-! what is told is done -/
def T9 (y : SX9) (p m : Int32) (f s k g l t : Nat → Int32) (a : Int32) (d : Nat → Int32) : SX9 := tl9 (net9 y p m f s k g l t) a d
theorem T9_net (y : SX9) (p m : Int32) (f s k g l t : Nat → Int32) (a : Int32) (d : Nat → Int32) (p' m' : Int32) (f' s' k' g' l' t' : Nat → Int32) : net9 (T9 y p m f s k g l t a d) p' m' f' s' k' g' l' t' = T9 y p' m' f' s' k' g' l' t' a d := by
  obtain ⟨a1, a2, a3, a4, a5, a6, a7, a8, a9, a10, a11, a12, a13, a14, a15, a16, a17, a18, a19, a20, a21, a22, a23, a24, a25, a26, a27, a28, a29, a30, a31, a32, a33, a34, a35, a36, a37, a38, a39, a40, a41, a42, a43, a44, a45, a46, a47, a48⟩ := y
  exact (show _ = ((p', m', f', s', k', g', l', t', a9, a10, a11, a, a13, a14, a15, d, a17, a18, a19, a20, a21, a22, a23, a24, a25, a26, a27, a28, a29, a30, a31, a32, a33, a34, a35, a36, a37, a38, a39, a40, a41, a42, a43, a44, a45, a46, a47, a48) : SX9) from rfl).trans rfl
theorem T9_kind (y : SX9) (p m : Int32) (f s k g l t : Nat → Int32) (a : Int32) (d F : Nat → Int32) : m_kind_s (T9 y p m f s k g l t a d) F = T9 y p m f s F g l t a d := by
  obtain ⟨a1, a2, a3, a4, a5, a6, a7, a8, a9, a10, a11, a12, a13, a14, a15, a16, a17, a18, a19, a20, a21, a22, a23, a24, a25, a26, a27, a28, a29, a30, a31, a32, a33, a34, a35, a36, a37, a38, a39, a40, a41, a42, a43, a44, a45, a46, a47, a48⟩ := y
  exact (show _ = ((p, m, f, s, F, g, l, t, a9, a10, a11, a, a13, a14, a15, d, a17, a18, a19, a20, a21, a22, a23, a24, a25, a26, a27, a28, a29, a30, a31, a32, a33, a34, a35, a36, a37, a38, a39, a40, a41, a42, a43, a44, a45, a46, a47, a48) : SX9) from rfl).trans rfl
theorem T9_figure (y : SX9) (p m : Int32) (f s k g l t : Nat → Int32) (a : Int32) (d F : Nat → Int32) : m_figure_s (T9 y p m f s k g l t a d) F = T9 y p m f s k F l t a d := by
  obtain ⟨a1, a2, a3, a4, a5, a6, a7, a8, a9, a10, a11, a12, a13, a14, a15, a16, a17, a18, a19, a20, a21, a22, a23, a24, a25, a26, a27, a28, a29, a30, a31, a32, a33, a34, a35, a36, a37, a38, a39, a40, a41, a42, a43, a44, a45, a46, a47, a48⟩ := y
  exact (show _ = ((p, m, f, s, k, F, l, t, a9, a10, a11, a, a13, a14, a15, d, a17, a18, a19, a20, a21, a22, a23, a24, a25, a26, a27, a28, a29, a30, a31, a32, a33, a34, a35, a36, a37, a38, a39, a40, a41, a42, a43, a44, a45, a46, a47, a48) : SX9) from rfl).trans rfl
theorem T9_load (y : SX9) (p m : Int32) (f s k g l t : Nat → Int32) (a : Int32) (d F : Nat → Int32) : m_load_s (T9 y p m f s k g l t a d) F = T9 y p m f s k g F t a d := by
  obtain ⟨a1, a2, a3, a4, a5, a6, a7, a8, a9, a10, a11, a12, a13, a14, a15, a16, a17, a18, a19, a20, a21, a22, a23, a24, a25, a26, a27, a28, a29, a30, a31, a32, a33, a34, a35, a36, a37, a38, a39, a40, a41, a42, a43, a44, a45, a46, a47, a48⟩ := y
  exact (show _ = ((p, m, f, s, k, g, F, t, a9, a10, a11, a, a13, a14, a15, d, a17, a18, a19, a20, a21, a22, a23, a24, a25, a26, a27, a28, a29, a30, a31, a32, a33, a34, a35, a36, a37, a38, a39, a40, a41, a42, a43, a44, a45, a46, a47, a48) : SX9) from rfl).trans rfl
theorem T9_length (y : SX9) (p m : Int32) (f s k g l t : Nat → Int32) (a : Int32) (d F : Nat → Int32) : m_length_s (T9 y p m f s k g l t a d) F = T9 y p m f s k g l F a d := by
  obtain ⟨a1, a2, a3, a4, a5, a6, a7, a8, a9, a10, a11, a12, a13, a14, a15, a16, a17, a18, a19, a20, a21, a22, a23, a24, a25, a26, a27, a28, a29, a30, a31, a32, a33, a34, a35, a36, a37, a38, a39, a40, a41, a42, a43, a44, a45, a46, a47, a48⟩ := y
  exact (show _ = ((p, m, f, s, k, g, l, F, a9, a10, a11, a, a13, a14, a15, d, a17, a18, a19, a20, a21, a22, a23, a24, a25, a26, a27, a28, a29, a30, a31, a32, a33, a34, a35, a36, a37, a38, a39, a40, a41, a42, a43, a44, a45, a46, a47, a48) : SX9) from rfl).trans rfl
theorem T9_told (y : SX9) (p m : Int32) (f s k g l t : Nat → Int32) (a : Int32) (d : Nat → Int32) : m_told (T9 y p m f s k g l t a d) = d := rfl
theorem ga40 {α : Type} (K : Nat → Option α) : ga 4 (0 : Int32) K = K 0 := ga_ok (j := 0) (by decide) (by decide)
theorem ga41 {α : Type} (K : Nat → Option α) : ga 4 (1 : Int32) K = K 1 := ga_ok (j := 1) (by decide) (by decide)
theorem ga42 {α : Type} (K : Nat → Option α) : ga 4 (2 : Int32) K = K 2 := ga_ok (j := 2) (by decide) (by decide)
theorem ga43 {α : Type} (K : Nat → Option α) : ga 4 (3 : Int32) K = K 3 := ga_ok (j := 3) (by decide) (by decide)
theorem points_set {N : SX3} {y : SX9} {P W : Nat} {w : Nat → Wy} (hV : NV P W w) (hN : NE N P W w) (hM : ME y P W w) {n : Nat} (h2 : 2 ≤ n) (hn : n ≤ 6) : ∃ (N' : SX3) (m' : Int32) (f' s' kd' g' lo' le' : Nat → Int32) (W' : Nat) (w' : Nat → Wy), fX3_changePoints N (nI n) = some (nI P, N') ∧ fX9_becomes y (nI n) = some (net9 y (nI n) m' f' s' kd' g' lo' le') ∧ NV n W' w' ∧ NE N' n W' w' ∧ ME6 (nI n) m' f' s' kd' g' lo' le' n W' w' := by
  have hW := hV.2.2.1
  have hP6 := hV.2.1
  have hL : ((List.range W).map w).length = W := by simp
  obtain ⟨N', r1, r2⟩ := cp_loop hV hn (nI P) FU 0 N (by omega) (by unfold FU; omega) hN.1 hN.2.1 (fun j hj => by simp at hj) (fun j _ hj => hN.2.2 j hj)
  obtain ⟨m', f', s', kd', g', lo', le', q1, q2⟩ := be_loop (n := n) hL hW hn (fun k hk => by
    rw [wOf_map hk]
    have := hV.2.2.2 k hk
    exact ⟨by have := this.1; omega, by have := this.2.1; omega⟩) (m_points_s y (nI n)) W FU (m_many y) (m_first y) (m_second y) (m_kind y) (m_figure y) (m_load y) (m_length y) (Nat.le_refl _) (by unfold FU; omega) (by
      have e : ((List.range W).map w).take W ++ (((List.range W).map w).drop W).filter (keepB n) = (List.range W).map w := by
        rw [List.take_of_length_le (by simp), List.drop_of_length_le (by simp)]
        simp
      rw [e, hL]
      exact ⟨rfl, hM.2.1, fun k hk => by rw [wOf_map hk]; exact hM.2.2 k hk⟩)
  have hNV : NV n (((List.range W).map w).filter (keepB n)).length (wOf (((List.range W).map w).filter (keepB n))) := by
    have hl := List.length_filter_le (keepB n) ((List.range W).map w)
    refine ⟨by omega, hn, by omega, fun k hk => ?_⟩
    have hm : wOf (((List.range W).map w).filter (keepB n)) k ∈ ((List.range W).map w).filter (keepB n) := by
      unfold wOf
      rw [List.getD_eq_getElem?_getD, List.getElem?_eq_getElem hk]
      exact List.getElem_mem hk
    obtain ⟨hm1, hm2⟩ := List.mem_filter.mp hm
    obtain ⟨j, hj, e⟩ := List.mem_map.mp hm1
    have hok := hV.2.2.2 j (List.mem_range.mp hj)
    rw [← e] at hm2 ⊢
    unfold keepB at hm2
    have hm3 := of_decide_eq_true hm2
    exact ⟨hm3.1, hm3.2, hok.2.2⟩
  refine ⟨N', m', f', s', kd', g', lo', le', _, _, ?_, ?_, hNV, r2, q2⟩
  · unfold fX3_changePoints
    rw [rON, if_pos (show (2 : Int32) ≤ nI n from nI_le (a := 2) h2 (by omega)), if_pos (show nI n ≤ (6 : Int32) from nI_le (b := 6) hn (by decide)), bind_s, if_pos rfl, hN.1]
    exact r1
  · unfold fX9_becomes
    have e : m_many (m_points_s y (nI n)) - 1 = nI W - 1 := by show m_many y - 1 = _; rw [hM.2.1]
    simp only [ltt]
    rw [e]
    rw [show qX9_becomes_12 (nI n) FU (m_points_s y (nI n)) (nI W - 1) = _ from q1]
/-- number i of what is told behind place b -/
def dv (L : Nat → Int32) (n b i : Nat) : Int32 := (if b + 2 * i + 1 < n then L (b + 2 * i + 1) else -1) - 48
theorem digit8 {t : SX7} {y : SX9} {n : Nat} {L : Nat → Int32} (h : TB t y n L) {b i : Nat} (hb : b + 2 * i + 1 < 2 ^ 30) (c : Int32) (hc : c = nI (2 * i + 1)) : fX7_digitAt t (nI b + c) = some (dv L n b i) := by
  unfold fX7_digitAt dv
  rw [hc, nI_add, ← Nat.add_assoc, letterAt8 h hb, bind_s]
theorem TB_T9 {t : SX7} {y : SX9} {n : Nat} {L : Nat → Int32} (h : TB t y n L) (p m : Int32) (f s k g l u : Nat → Int32) : TB t (net9 y p m f s k g l u) n L := ⟨h.1, h.2.1, h.2.2.1, h.2.2.2.1, h.2.2.2.2.1, h.2.2.2.2.2.1, h.2.2.2.2.2.2.1, h.2.2.2.2.2.2.2⟩
theorem change_eq {t : SX7} {y : SX9} {n : Nat} {L : Nat → Int32} (h : TB t y n L) {b : Nat} (hb : b < 2 ^ 29) (N : SX3) (k : Int32) : fX7_change t N k (nI b) = if k = 0 then fX3_join N (dv L n b 0) (dv L n b 1) (dv L n b 2) (dv L n b 3) else if k = 1 then fX3_changeKind N (dv L n b 0) (dv L n b 1) (dv L n b 2) else if k = 2 then fX3_changeLoad N (dv L n b 0) (dv L n b 1) else if k = 3 then fX3_changeLength N (dv L n b 0) (dv L n b 1) else if k = 4 then fX3_drop N (dv L n b 0) else fX3_changePoints N (dv L n b 0) := by
  unfold fX7_change
  rw [digit8 h (i := 0) (by omega) 1 rfl, digit8 h (i := 1) (by omega) 3 rfl, digit8 h (i := 2) (by omega) 5 rfl, digit8 h (i := 3) (by omega) 7 rfl, bind_s, bind_s, bind_s, bind_s]
  rw [bind_id (fX3_join N (dv L n b 0) (dv L n b 1) (dv L n b 2) (dv L n b 3)), bind_id (fX3_changeKind N (dv L n b 0) (dv L n b 1) (dv L n b 2)), bind_id (fX3_changeLoad N (dv L n b 0) (dv L n b 1)), bind_id (fX3_changeLength N (dv L n b 0) (dv L n b 1)), bind_id (fX3_drop N (dv L n b 0)), bind_id (fX3_changePoints N (dv L n b 0))]
theorem bind_self {α : Type} (x : Option α) : (x.bind fun o => some o) = x := by cases x <;> rfl
theorem neg_code {c : Int32} (hc : c = -1 ∨ c = -2 ∨ c = -3 ∨ c = -4 ∨ c = -6) : ¬ (0 : Int32) ≤ c := by rcases hc with rfl | rfl | rfl | rfl | rfl <;> decide
/-- one change on both sides -/
def CH (x : SX8) (y : SX9) (N : SX3) (r8 : Option (Int32 × SX3)) (r9 : Option Int32) (d9 : Option SX9) (a : Int32) (d : Nat → Int32) : Prop :=
  (∃ c c', ¬ (0 : Int32) ≤ c ∧ ¬ c' = 0 ∧ r8 = some (c, N) ∧ r9 = some c') ∨ ∃ (r : Int32) (N' : SX3) (p m : Int32) (f s k g l t : Nat → Int32) (P W : Nat) (w : Nat → Wy), (0 : Int32) ≤ r ∧ r8 = some (r, N') ∧ r9 = some 0 ∧ d9 = some (T9 y p m f s k g l t a d) ∧ NV P W w ∧ NE N' P W w ∧ ME6 p m f s k g l t P W w
theorem change_both {x : SX8} {t : SX7} {y : SX9} {n : Nat} {L : Nat → Int32} (h : TB t y n L) {b j : Nat} (hb : b < 2 ^ 29) (hj : j < 6) {N : SX3} {p m a : Int32} {f s k g l u d : Nat → Int32} {P W : Nat} {w : Nat → Wy} (hV : NV P W w) (hN : NE N P W w) (hM : ME6 p m f s k g l u P W w) (hd : ∀ i, i < nu j → d i = dv L n b i) : CH x y N (fX7_change t N (nI j) (nI b)) (fX9_notSo (T9 y p m f s k g l u a d) (nI j)) (fX9_does (T9 y p m f s k g l u a d) (nI j)) a d := by
  have hW := hV.2.2.1
  have hMT : ME (T9 y p m f s k g l u a d) P W w := hM
  have hp : m_points (T9 y p m f s k g l u a d) = p := rfl
  have hmm : m_many (T9 y p m f s k g l u a d) = m := rfl
  rw [change_eq h hb]
  unfold fX9_notSo fX9_does qX9_notSo_88
  rw [T9_told]
  have hcs : j = 0 ∨ j = 1 ∨ j = 2 ∨ j = 3 ∨ j = 4 ∨ j = 5 := by omega
  rcases hcs with rfl | rfl | rfl | rfl | rfl | rfl
  · rw [if_pos (show nI 0 = (0 : Int32) from rfl), if_pos (show nI 0 = (0 : Int32) from rfl), if_pos (show nI 0 = (0 : Int32) from rfl)]
    rw [ga40, ga41, ga42, ga43, ga40, ga41, ga42, ga43, bind_self, bind_self, hd 0 (by decide), hd 1 (by decide), hd 2 (by decide), hd 3 (by decide)]
    rcases way_code (x := w_net_s x N) hV hN hMT (dv L n b 0) (dv L n b 1) (dv L n b 2) (dv L n b 3) with ⟨c, hc, e8, e9⟩ | ⟨a', b', v', l', k1, k2, k3, k4, k5, k6, k7, k8, e1, e2, e3, e4, e9, e8⟩
    · exact Or.inl ⟨c, c, neg_code hc, ref_ne hc, e8, e9⟩
    · obtain ⟨N', f', s', kd', g', lo', le', w', r1, r2, r3, r4, r5⟩ := way_more hV hN hMT k1 k2 k3 ⟨k4, k5⟩ ⟨k6, k7⟩ k8
      rw [T9_net] at r2
      refine Or.inr ⟨nI W, N', p, nI (W + 1), f', s', kd', g', lo', le', P, W + 1, w', nI_pos' (by omega), ?_, e9, ?_, r3, r4, r5⟩
      · rw [show fX3_join N (dv L n b 0) (dv L n b 1) (dv L n b 2) (dv L n b 3) = _ from e8, e1, e2, e3, e4]
        show (fX3_lay (n_ways_s N (nI (W + 1))) (nI W) (nI a') (nI b') (nI v') (nI l')).bind (fun o4 => some (nI W, o4)) = _
        rw [r1, bind_s]
      · rw [e1, e2, e3, e4, r2, hp]
  · rw [if_neg (show ¬ nI 1 = (0 : Int32) by decide), if_neg (show ¬ nI 1 = (0 : Int32) by decide), if_neg (show ¬ nI 1 = (0 : Int32) by decide), if_pos (show nI 1 = (1 : Int32) from rfl), if_pos (show nI 1 = (1 : Int32) from rfl), if_pos (show nI 1 = (1 : Int32) from rfl)]
    rw [ga40, ga41, ga42, ga40, ga41, ltt_e, bind_self, hd 0 (by decide), hd 1 (by decide), hd 2 (by decide)]
    rcases kind_code hV hN hMT (dv L n b 0) (dv L n b 1) (dv L n b 2) with ⟨c, hc, e8, e9⟩ | ⟨kk, q, v, hk, n1, n2, e1, e2, e3, e8, e9⟩
    · exact Or.inl ⟨c, c, neg_code hc, ref_ne hc, e8, e9⟩
    · obtain ⟨r1, w', r3, r4, r5⟩ := kind_set hV hN hMT hk n1 n2
      have hok := hV.2.2.2 kk hk
      refine Or.inr ⟨nI (10 * wK (w kk) + wG (w kk)), _, p, m, f, s, upd k kk (nI q), upd g kk (nI v), l, u, P, W, w', nI_pos' (by have := hok.2.2.2.1; have := hok.2.2.2.2.1; omega), ?_, e9, ?_, r3, r4, r5⟩
      · rw [e8, e1, e2, e3, r1]
      · rw [e1, e2, ga_ok (by omega) (by decide), ltt_e, show m_kind (T9 y p m f s k g l u a d) = k from rfl, T9_kind, ga40, ga42, ltt_e, T9_told, hd 0 (by decide), hd 2 (by decide), e1, e3, ga_ok (by omega) (by decide), ltt_e, show m_figure (T9 y p m f s (upd k kk (nI q)) g l u a d) = g from rfl, T9_figure]
  · rw [if_neg (show ¬ nI 2 = (0 : Int32) by decide), if_neg (show ¬ nI 2 = (0 : Int32) by decide), if_neg (show ¬ nI 2 = (0 : Int32) by decide), if_neg (show ¬ nI 2 = (1 : Int32) by decide), if_neg (show ¬ nI 2 = (1 : Int32) by decide), if_neg (show ¬ nI 2 = (1 : Int32) by decide), if_pos (show nI 2 = (2 : Int32) from rfl), if_pos (show nI 2 = (2 : Int32) from rfl), if_pos (show nI 2 = (2 : Int32) from rfl)]
    rw [ga40, ga41, ga40, ga41, ltt_e, bind_self, hd 0 (by decide), hd 1 (by decide)]
    rcases load_code hV hN hMT (dv L n b 0) (dv L n b 1) with ⟨c, hc, e8, -, e9⟩ | ⟨kk, v, hk, n1, n2, e1, e2, e8, -, e9⟩
    · exact Or.inl ⟨c, c, neg_code hc, ref_ne hc, e8, e9⟩
    · obtain ⟨r1, w', r3, r4, r5⟩ := load_set hV hN hMT hk n1 n2
      have hok := hV.2.2.2 kk hk
      refine Or.inr ⟨nI (wL (w kk)), _, p, m, f, s, k, g, upd l kk (nI v), u, P, W, w', nI_pos' (by have := hok.2.2.2.2.2.2.1; omega), ?_, e9, ?_, r3, r4, r5⟩
      · rw [e8, e1, e2, r1]
      · rw [e1, e2, ga_ok (by omega) (by decide), ltt_e, show m_load (T9 y p m f s k g l u a d) = l from rfl, T9_load]
  · rw [if_neg (show ¬ nI 3 = (0 : Int32) by decide), if_neg (show ¬ nI 3 = (0 : Int32) by decide), if_neg (show ¬ nI 3 = (0 : Int32) by decide), if_neg (show ¬ nI 3 = (1 : Int32) by decide), if_neg (show ¬ nI 3 = (1 : Int32) by decide), if_neg (show ¬ nI 3 = (1 : Int32) by decide), if_neg (show ¬ nI 3 = (2 : Int32) by decide), if_neg (show ¬ nI 3 = (2 : Int32) by decide), if_neg (show ¬ nI 3 = (2 : Int32) by decide), if_pos (show nI 3 = (3 : Int32) from rfl), if_pos (show nI 3 = (3 : Int32) from rfl), if_pos (show nI 3 = (3 : Int32) from rfl)]
    rw [ga40, ga41, ga40, ga41, ltt_e, bind_self, hd 0 (by decide), hd 1 (by decide)]
    rcases load_code hV hN hMT (dv L n b 0) (dv L n b 1) with ⟨c, hc, -, e8, e9⟩ | ⟨kk, v, hk, n1, n2, e1, e2, -, e8, e9⟩
    · exact Or.inl ⟨c, c, neg_code hc, ref_ne hc, e8, e9⟩
    · obtain ⟨r1, w', r3, r4, r5⟩ := length_set hV hN hMT hk n1 n2
      have hok := hV.2.2.2 kk hk
      refine Or.inr ⟨nI (wT (w kk)), _, p, m, f, s, k, g, l, upd u kk (nI v), P, W, w', nI_pos' (by have := hok.2.2.2.2.2.2.2.2; omega), ?_, e9, ?_, r3, r4, r5⟩
      · rw [e8, e1, e2, r1]
      · rw [e1, e2, ga_ok (by omega) (by decide), ltt_e, show m_length (T9 y p m f s k g l u a d) = u from rfl, T9_length]
  · rw [if_neg (show ¬ nI 4 = (0 : Int32) by decide), if_neg (show ¬ nI 4 = (0 : Int32) by decide), if_neg (show ¬ nI 4 = (0 : Int32) by decide), if_neg (show ¬ nI 4 = (1 : Int32) by decide), if_neg (show ¬ nI 4 = (1 : Int32) by decide), if_neg (show ¬ nI 4 = (1 : Int32) by decide), if_neg (show ¬ nI 4 = (2 : Int32) by decide), if_neg (show ¬ nI 4 = (2 : Int32) by decide), if_neg (show ¬ nI 4 = (2 : Int32) by decide), if_neg (show ¬ nI 4 = (3 : Int32) by decide), if_neg (show ¬ nI 4 = (3 : Int32) by decide), if_neg (show ¬ nI 4 = (3 : Int32) by decide), if_pos (show nI 4 = (4 : Int32) from rfl), if_pos (show nI 4 = (4 : Int32) from rfl), if_pos (show nI 4 = (4 : Int32) from rfl)]
    rw [ga40, ga40, bind_self, hd 0 (by decide), isWay9 hMT.2.1 (by omega), bind_s]
    by_cases ha : 0 ≤ (dv L n b 0).toInt ∧ (dv L n b 0).toInt < W
    · obtain ⟨kk, hk0, e1, hk2⟩ := i32_nn ha.1
      have hk : kk < W := by omega
      obtain ⟨N', r1, r2⟩ := drop8 hV hN hk
      obtain ⟨f', s', kd', g', lo', le', q1, q2⟩ := loses9 hW hMT hk
      rw [T9_net] at q1
      refine Or.inr ⟨nI (W - 1), N', p, nI (W - 1), f', s', kd', g', lo', le', P, W - 1, wdel w kk, nI_pos' (by omega), ?_, ?_, ?_, hV.del hk, r2, q2⟩
      · rw [e1, r1]
      · rw [if_pos ha, if_neg (show ¬ (1 : Int32) = 0 by decide)]
      · rw [e1, q1, hp]
    · refine Or.inl ⟨-1, -1, by decide, by decide, ?_, ?_⟩
      · unfold fX3_drop
        rw [isWay8 hN.2.1 (by omega), if_neg ha]
        rfl
      · rw [if_neg ha, if_pos rfl]
  · rw [if_neg (show ¬ nI 5 = (0 : Int32) by decide), if_neg (show ¬ nI 5 = (0 : Int32) by decide), if_neg (show ¬ nI 5 = (0 : Int32) by decide), if_neg (show ¬ nI 5 = (1 : Int32) by decide), if_neg (show ¬ nI 5 = (1 : Int32) by decide), if_neg (show ¬ nI 5 = (1 : Int32) by decide), if_neg (show ¬ nI 5 = (2 : Int32) by decide), if_neg (show ¬ nI 5 = (2 : Int32) by decide), if_neg (show ¬ nI 5 = (2 : Int32) by decide), if_neg (show ¬ nI 5 = (3 : Int32) by decide), if_neg (show ¬ nI 5 = (3 : Int32) by decide), if_neg (show ¬ nI 5 = (3 : Int32) by decide), if_neg (show ¬ nI 5 = (4 : Int32) by decide), if_neg (show ¬ nI 5 = (4 : Int32) by decide), if_neg (show ¬ nI 5 = (4 : Int32) by decide)]
    rw [ga40, ga40, bind_self, bind_self, hd 0 (by decide)]
    have z2 : (2 : Int32).toInt = 2 := by decide
    have z6 : (6 : Int32).toInt = 6 := by decide
    by_cases h2 : (2 : Int32) ≤ dv L n b 0
    · by_cases h6 : dv L n b 0 ≤ (6 : Int32)
      · have h2' := h2
        have h6' := h6
        rw [i32_le] at h2' h6'
        obtain ⟨v, hn0, e1, hn2⟩ := i32_nn (a := dv L n b 0) (by omega)
        obtain ⟨N', m', f', s', kd', g', lo', le', W', w', r1, r2, r3, r4, r5⟩ := points_set hV hN hMT (n := v) (by omega) (by omega)
        rw [T9_net] at r2
        refine Or.inr ⟨nI P, N', nI v, m', f', s', kd', g', lo', le', v, W', w', nI_pos' (by have := hV.2.1; omega), ?_, ?_, ?_, r3, r4, r5⟩
        · rw [e1, r1]
        · unfold fX9_notPoints
          rw [if_pos h2, if_pos h6]
        · rw [e1, r2]
      · refine Or.inl ⟨-6, -6, by decide, by decide, ?_, ?_⟩
        · unfold fX3_changePoints
          rw [rON, if_pos h2, if_neg h6]
          rfl
        · unfold fX9_notPoints
          rw [if_pos h2, if_neg h6]
    · refine Or.inl ⟨-4, -4, by decide, by decide, ?_, ?_⟩
      · unfold fX3_changePoints
        rw [rON, if_neg h2]
        rfl
      · unfold fX9_notPoints
        rw [if_neg h2]
