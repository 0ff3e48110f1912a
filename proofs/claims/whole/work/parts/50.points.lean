/-! points -/
def wOf (L : List Wy) (k : Nat) : Wy := L.getD k (0, 0, 0, 0, 0, 0)
def keepB (n : Nat) (w : Wy) : Bool := decide (wF w < n ∧ wS w < n)
theorem wOf_app_l {L M : List Wy} {k : Nat} (h : k < L.length) : wOf (L ++ M) k = wOf L k := by
  unfold wOf
  rw [List.getD_eq_getElem?_getD, List.getD_eq_getElem?_getD, List.getElem?_append_left h]
theorem wOf_app_e {L : List Wy} {a : Wy} : wOf (L ++ [a]) L.length = a := by
  unfold wOf
  rw [List.getD_eq_getElem?_getD, List.getElem?_append_right (Nat.le_refl _)]
  simp
theorem wOf_map {w : Nat → Wy} {W k : Nat} (h : k < W) : wOf ((List.range W).map w) k = w k := by
  unfold wOf
  rw [List.getD_eq_getElem?_getD, List.getElem?_map, List.getElem?_range h]
  rfl
theorem wOf_del {L : List Wy} {k j : Nat} : wOf (L.eraseIdx k) j = wdel (wOf L) k j := by
  unfold wOf wdel
  rw [List.getD_eq_getElem?_getD, List.getElem?_eraseIdx]
  by_cases h : j < k
  · rw [if_pos h, if_pos h]
    exact List.getD_eq_getElem?_getD.symm
  · rw [if_neg h, if_neg h]
    exact List.getD_eq_getElem?_getD.symm
theorem cp_loop {P W n : Nat} {w : Nat → Wy} (hV : NV P W w) (hn : n ≤ 6) (l3 : Int32) : ∀ (fu i : Nat) (N : SX3), i ≤ W → W - i < fu → n_points N = nI P → n_ways N = nI W → (∀ j, j < (((List.range i).map w).filter (keepB n)).length → NWat N j (wOf (((List.range i).map w).filter (keepB n)) j)) → (∀ j, i ≤ j → j < W → NWat N j (w j)) →
    ∃ N' : SX3, qX3_changePoints_25 (nI n) fu N l3 (nI (((List.range i).map w).filter (keepB n)).length) (nI i) = some (l3, N') ∧ NE N' n (((List.range W).map w).filter (keepB n)).length (wOf (((List.range W).map w).filter (keepB n))) := by
  have hW := hV.2.2.1
  intro fu
  induction fu with
  | zero => intro i N h1 h2; omega
  | succ fu ih =>
    intro i N h1 h2 hp hw ha hb
    have hlen : (((List.range i).map w).filter (keepB n)).length ≤ i := by
      have := List.length_filter_le (keepB n) ((List.range i).map w)
      simpa using this
    unfold qX3_changePoints_25
    rw [hw]
    by_cases hc : i = W
    · subst hc
      rw [if_pos (nI_le (Nat.le_refl i) (by omega))]
      exact ⟨n_ways_s (n_points_s N (nI n)) (nI (((List.range i).map w).filter (keepB n)).length), rfl, rfl, rfl, ha⟩
    · have hi : i < W := by omega
      have hwi := hb i (Nat.le_refl i) hi
      have hok := hV.2.2.2 i hi
      have hsucc : (List.range (i + 1)).map w = (List.range i).map w ++ [w i] := by rw [List.range_succ, List.map_append]; rfl
      rw [if_neg (nI_ge (by omega) (by omega)), ga_ok (by omega) (by decide), hwi.1]
      have f6 : wF (w i) < 2 ^ 31 := by have := hok.1; have := hV.2.1; omega
      have s6 : wS (w i) < 2 ^ 31 := by have := hok.2.1; have := hV.2.1; omega
      have skip : ¬ (wF (w i) < n ∧ wS (w i) < n) → ∃ N' : SX3, qX3_changePoints_68 (nI n) (qX3_changePoints_25 (nI n) fu) N l3 (nI (((List.range i).map w).filter (keepB n)).length) (nI i) = some (l3, N') ∧ NE N' n (((List.range W).map w).filter (keepB n)).length (wOf (((List.range W).map w).filter (keepB n))) := by
        intro hk
        have e : ((List.range (i + 1)).map w).filter (keepB n) = ((List.range i).map w).filter (keepB n) := by
          rw [hsucc, List.filter_append, List.filter_cons_of_neg (by unfold keepB; simpa using hk)]
          simp
        have := ih (i + 1) N (by omega) (by omega) hp hw (by rw [e]; exact ha) (fun j hj hj2 => hb j (by omega) hj2)
        rw [e] at this
        unfold qX3_changePoints_68
        simp only [ltt, nI_1]
        exact this
      by_cases c1 : wF (w i) < n
      · rw [if_neg (nI_ge c1 (by omega)), ga_ok (by omega) (by decide), hwi.2.1]
        by_cases c2 : wS (w i) < n
        · rw [if_neg (nI_ge c2 (by omega))]
          obtain ⟨N', r1, r2, r3, r4, r5⟩ := copyWay8 (N := N) (p := i) (q := (((List.range i).map w).filter (keepB n)).length) (by omega) (by omega)
          have e : ((List.range (i + 1)).map w).filter (keepB n) = ((List.range i).map w).filter (keepB n) ++ [w i] := by
            rw [hsucc, List.filter_append, List.filter_cons_of_pos (by unfold keepB; simpa using ⟨c1, c2⟩)]
            rfl
          have := ih (i + 1) N' (by omega) (by omega) (r2.trans hp) (r3.trans hw) (fun j hj => by
            rw [e] at hj ⊢
            rw [List.length_append] at hj
            by_cases ej : j = (((List.range i).map w).filter (keepB n)).length
            · rw [ej, wOf_app_e]
              exact r4 _ hwi
            · rw [wOf_app_l (by simp at hj; omega)]
              exact r5 j _ ej (ha j (by simp at hj; omega))) (fun j hj hj2 => r5 j _ (by omega) (hb j (by omega) hj2))
          rw [e, List.length_append] at this
          rw [r1, bind_s]
          unfold qX3_changePoints_68
          simp only [ltt, nI_1]
          exact this
        · rw [if_pos (nI_le (by omega) s6)]
          exact skip (fun z => c2 z.2)
      · rw [if_pos (nI_le (by omega) f6)]
        exact skip (fun z => c1 z.1)

theorem NE.cg {N : SX3} {P W : Nat} {w w' : Nat → Wy} (h : NE N P W w) (e : ∀ k, k < W → w' k = w k) : NE N P W w' := ⟨h.1, h.2.1, fun k hk => by rw [e k hk]; exact h.2.2 k hk⟩
theorem ME6.cg {p m : Int32} {f s kd g lo le : Nat → Int32} {P W : Nat} {w w' : Nat → Wy} (h : ME6 p m f s kd g lo le P W w) (e : ∀ k, k < W → w' k = w k) : ME6 p m f s kd g lo le P W w' := ⟨h.1, h.2.1, fun k hk => by rw [e k hk]; exact h.2.2 k hk⟩
theorem be_loop {W n : Nat} {L : List Wy} (hL : L.length = W) (hW : W ≤ 10) (hn : n ≤ 6) (hP : ∀ k, k < W → wF (wOf L k) < 6 ∧ wS (wOf L k) < 6) (z : SX9) : ∀ (i fu : Nat) (m : Int32) (f s kd g lo le : Nat → Int32), i ≤ W → i < fu → ME6 (nI n) m f s kd g lo le n (L.take i ++ (L.drop i).filter (keepB n)).length (wOf (L.take i ++ (L.drop i).filter (keepB n))) →
    ∃ m' f' s' kd' g' lo' le', qX9_becomes_12 (nI n) fu (net9 z (nI n) m f s kd g lo le) (nI i - 1) = some (net9 z (nI n) m' f' s' kd' g' lo' le') ∧ ME6 (nI n) m' f' s' kd' g' lo' le' n (L.filter (keepB n)).length (wOf (L.filter (keepB n))) := by
  intro i
  induction i with
  | zero =>
    intro fu m f s kd g lo le h1 h2 hM
    match fu, h2 with
    | fu + 1, _ =>
      unfold qX9_becomes_12
      rw [if_pos (show nI 0 - 1 < (0 : Int32) by decide)]
      exact ⟨m, f, s, kd, g, lo, le, rfl, by simpa using hM⟩
  | succ i ih =>
    intro fu m f s kd g lo le h1 h2 hM
    match fu, h2 with
    | fu + 1, h2 =>
      have hi : i < L.length := by omega
      have htake : L.take (i + 1) = L.take i ++ [L[i]] := by rw [List.take_succ_eq_append_getElem hi]
      have hlen : (L.take i).length = i := by rw [List.length_take]; omega
      have hat : wOf (L.take (i + 1) ++ (L.drop (i + 1)).filter (keepB n)) i = L[i] := by
        rw [htake, wOf_app_l (by simp; omega)]
        have := wOf_app_e (L := L.take i) (a := L[i])
        rwa [hlen] at this
      have hwi : wOf L i = L[i] := by unfold wOf; rw [List.getD_eq_getElem?_getD, List.getElem?_eq_getElem hi]; rfl
      have hb := hP i (by omega)
      rw [hwi] at hb
      have hcur := hM.2.2 i (by rw [htake]; simp; omega)
      rw [hat] at hcur
      have hdrop : L.drop i = L[i] :: L.drop (i + 1) := List.drop_eq_getElem_cons hi
      have bad : ¬ (wF L[i] < n ∧ wS L[i] < n) → L.take i ++ (L.drop i).filter (keepB n) = (L.take (i + 1) ++ (L.drop (i + 1)).filter (keepB n)).eraseIdx i := by
        intro hk
        rw [hdrop, List.filter_cons_of_neg (by unfold keepB; simpa using hk), htake, List.append_assoc, List.eraseIdx_append_of_length_le (by omega), hlen, Nat.sub_self]
        rfl
      have good : (wF L[i] < n ∧ wS L[i] < n) → L.take i ++ (L.drop i).filter (keepB n) = L.take (i + 1) ++ (L.drop (i + 1)).filter (keepB n) := by
        intro hk
        rw [hdrop, List.filter_cons_of_pos (by unfold keepB; simpa using hk), htake, List.append_assoc]
        rfl
      have hCl : (L.take (i + 1) ++ (L.drop (i + 1)).filter (keepB n)).length ≤ 10 := by
        rw [List.length_append, List.length_take]
        have := List.length_filter_le (keepB n) (L.drop (i + 1))
        rw [List.length_drop] at this
        omega
      have goBad : ¬ (wF L[i] < n ∧ wS L[i] < n) → ∃ m' f' s' kd' g' lo' le', qX9_becomes_36 (nI n) (qX9_becomes_41 (nI n) (qX9_becomes_12 (nI n) fu)) (net9 z (nI n) m f s kd g lo le) (nI i) = some (net9 z (nI n) m' f' s' kd' g' lo' le') ∧ ME6 (nI n) m' f' s' kd' g' lo' le' n (L.filter (keepB n)).length (wOf (L.filter (keepB n))) := by
        intro hk
        obtain ⟨f1, s1, kd1, g1, lo1, le1, r1, r2⟩ := loses9 (y := net9 z (nI n) m f s kd g lo le) (P := n) (k := i) hCl hM (by rw [htake]; simp; omega)
        have e := bad hk
        have hr := ih fu _ f1 s1 kd1 g1 lo1 le1 (by omega) (by omega) (by
          rw [e, List.length_eraseIdx_of_lt (by rw [htake]; simp; omega)]
          exact r2.cg (fun k _ => wOf_del))
        unfold qX9_becomes_36 qX9_becomes_41
        rw [r1, bind_s]
        simp only [ltt]
        rw [← Int32.sub_eq_add_neg]
        exact hr
      have goGood : (wF L[i] < n ∧ wS L[i] < n) → ∃ m' f' s' kd' g' lo' le', qX9_becomes_41 (nI n) (qX9_becomes_12 (nI n) fu) (net9 z (nI n) m f s kd g lo le) (nI i) = some (net9 z (nI n) m' f' s' kd' g' lo' le') ∧ ME6 (nI n) m' f' s' kd' g' lo' le' n (L.filter (keepB n)).length (wOf (L.filter (keepB n))) := by
        intro hk
        have hr := ih fu m f s kd g lo le (by omega) (by omega) (by rw [good hk]; exact hM)
        unfold qX9_becomes_41
        simp only [ltt]
        rw [← Int32.sub_eq_add_neg]
        exact hr
      unfold qX9_becomes_12
      rw [nI_pred, if_neg (nI_pos (by omega)), ga_ok (by omega) (by decide), ga_ok (by omega) (by decide)]
      rw [show m_first (net9 z (nI n) m f s kd g lo le) i = nI (wF L[i]) from hcur.1, show m_second (net9 z (nI n) m f s kd g lo le) i = nI (wS L[i]) from hcur.2.1]
      by_cases c1 : wF L[i] < n
      · rw [if_neg (nI_ge c1 (by omega))]
        by_cases c2 : wS L[i] < n
        · rw [if_pos (nI_lt c2 (by omega))]
          exact goGood ⟨c1, c2⟩
        · rw [if_neg (nI_nlt (by omega) (by omega))]
          exact goBad (fun q => c2 q.2)
      · rw [if_pos (nI_le (by omega) (by omega))]
        exact goBad (fun q => c1 q.1)

theorem op_points {x : SX8} {y : SX9} (h : Rel x y) (a : Int32) : OpI (fX8_points x a) (fX9_points y a) := by
  obtain ⟨P, W, w, hV, hN, hM⟩ := h.1
  have hW := hV.2.2.1
  have hP6 := hV.2.1
  have z2 : (2 : Int32).toInt = 2 := by decide
  have z6 : (6 : Int32).toInt = 6 := by decide
  by_cases h2 : (2 : Int32) ≤ a
  · by_cases h6 : a ≤ (6 : Int32)
    · have h2' := h2
      have h6' := h6
      rw [i32_le] at h2' h6'
      obtain ⟨n, hn0, rfl, hn2⟩ := i32_nn (a := a) (by omega)
      have hn : n ≤ 6 := by omega
      have hL : ((List.range W).map w).length = W := by simp
      obtain ⟨N', r1, r2⟩ := cp_loop hV hn (nI P) FU 0 (w_net x) (by omega) (by unfold FU; omega) hN.1 hN.2.1 (fun j hj => by simp at hj) (fun j _ hj => hN.2.2 j hj)
      obtain ⟨m', f', s', kd', g', lo', le', q1, q2⟩ := be_loop (n := n) hL hW hn (fun k hk => by
        rw [wOf_map hk]
        have := hV.2.2.2 k hk
        exact ⟨by have := this.1; omega, by have := this.2.1; omega⟩) (m_points_s y (nI n)) W FU (m_many y) (m_first y) (m_second y) (m_kind y) (m_figure y) (m_load y) (m_length y) (Nat.le_refl _) (by unfold FU; omega) (by
          have e : ((List.range W).map w).take W ++ (((List.range W).map w).drop W).filter (keepB n) = (List.range W).map w := by
            rw [List.take_of_length_le (by simp), List.drop_of_length_le (by simp)]
            simp
          rw [e, hL]
          exact ⟨rfl, hM.2.1, fun k hk => by rw [wOf_map hk]; exact hM.2.2 k hk⟩)
      have hNV : NV n (((List.range W).map w).filter (keepB n)).length (wOf (((List.range W).map w).filter (keepB n))) := by
        have hl := List.length_filter_le (keepB n) ((List.range W).map w)
        refine ⟨by omega, hn, by omega, fun k hk => ?_⟩
        have hm : wOf (((List.range W).map w).filter (keepB n)) k ∈ ((List.range W).map w).filter (keepB n) := by
          unfold wOf
          rw [List.getD_eq_getElem?_getD, List.getElem?_eq_getElem hk]
          exact List.getElem_mem hk
        obtain ⟨hm1, hm2⟩ := List.mem_filter.mp hm
        obtain ⟨j, hj, e⟩ := List.mem_map.mp hm1
        have hok := hV.2.2.2 j (List.mem_range.mp hj)
        rw [← e] at hm2 ⊢
        unfold keepB at hm2
        have hm3 := of_decide_eq_true hm2
        exact ⟨hm3.1, hm3.2, hok.2.2⟩
      refine ⟨nI P, w_net_s x N', net9 y (nI n) m' f' s' kd' g' lo' le', ?_, ?_, ⟨n, _, _, hNV, r2, q2⟩, h.2⟩
      · unfold fX8_points
        refine opw8k (nI_pos' (by omega)) ?_
        unfold fX3_changePoints
        rw [rON, if_pos h2, if_pos h6, bind_s, if_pos rfl, hN.1]
        exact r1
      · unfold fX9_points fX9_notPoints
        rw [if_pos h2, if_pos h6, bind_s, if_pos rfl, hM.1]
        unfold fX9_becomes
        have e : m_many (m_points_s y (nI n)) - 1 = nI W - 1 := by show m_many y - 1 = _; rw [hM.2.1]
        simp only [ltt]
        rw [e]
        rw [show qX9_becomes_12 (nI n) FU (m_points_s y (nI n)) (nI W - 1) = _ from q1]
        rfl
    · refine opI_no h (c := -6) (by decide) ?_ ?_
      · unfold fX8_points
        refine opw8 ?_
        unfold fX3_changePoints
        rw [rON, if_pos h2, if_neg h6]; rfl
      · unfold fX9_points
        refine opw9 (by decide) ?_
        unfold fX9_notPoints
        rw [if_pos h2, if_neg h6]
  · refine opI_no h (c := -4) (by decide) ?_ ?_
    · unfold fX8_points
      refine opw8 ?_
      unfold fX3_changePoints
      rw [rON, if_neg h2]; rfl
    · unfold fX9_points
      refine opw9 (by decide) ?_
      unfold fX9_notPoints
      rw [if_neg h2]
