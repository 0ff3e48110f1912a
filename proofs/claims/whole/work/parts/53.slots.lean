/-! slot, like, slots, slotted -/
theorem isSlot8 (a : Int32) : fX5_isSlot a = some (if 0 ≤ a.toInt ∧ a.toInt < 3 then 1 else 0) := by
  have i0 : (0 : Int32).toInt = 0 := by decide
  have i3 : (3 : Int32).toInt = 3 := by decide
  unfold fX5_isSlot
  by_cases h1 : a < 0
  · rw [if_pos h1, if_neg (by rw [i32_lt] at h1; omega)]
  · rw [if_neg h1]
    by_cases h2 : (3 : Int32) ≤ a
    · rw [if_pos h2, if_neg (by rw [i32_le] at h2; omega)]
    · rw [if_neg h2, if_pos (by rw [i32_lt] at h1; rw [i32_le] at h2; omega)]
theorem isSlot9 (a : Int32) : fX9_isSlot a = some (if 0 ≤ a.toInt ∧ a.toInt < 3 then 1 else 0) := by
  unfold fX9_isSlot
  rw [isIn01 (l := 0) (h := 2) (by decide) (by decide), i32_64]
  congr 1
  by_cases h : 0 ≤ a.toInt ∧ a.toInt < 3
  · rw [if_pos h, if_pos (by omega)]
  · rw [if_neg h, if_neg (by omega)]
theorem make_loop5 {q n : Nat} {kk : Int32} (hq : q < 3) (hn : n ≤ 9) : ∀ (fu : Nat) (xs : SX5) (i : Nat), i ≤ n → n - i < fu → ∃ xs' : SX5, qX5_make_38 (nI q) kk (nI n) fu xs (nI i) = some (1, xs') ∧ sl_sizes xs' = upd (sl_sizes xs) q (nI n) ∧ sl_madeFor xs' = upd (sl_madeFor xs) q kk ∧ sl_figures xs' = sl_figures xs ∧ ∀ r k, sl_kinds xs' r k = if r = q ∧ i ≤ k ∧ k < n then -1 else sl_kinds xs r k := by
  intro fu
  induction fu with
  | zero => intro xs i hi hf; omega
  | succ fu ih =>
    intro xs i hi hf
    unfold qX5_make_38
    by_cases hc : i = n
    · subst hc
      rw [if_pos (nI_le (Nat.le_refl i) (by omega)), ga_ok hq (by decide), ltt_e, ga_ok hq (by decide), ltt_e]
      refine ⟨_, rfl, rfl, rfl, rfl, fun r k => ?_⟩
      rw [if_neg (by omega)]
    · rw [if_neg (nI_ge (by omega) (by omega)), ga_ok hq (by decide), ga_ok (by omega) (by decide)]
      simp only [ltt, nI_1]
      obtain ⟨xs', e1, e2, e4, e5, e3⟩ := ih (sl_kinds_s xs (va_up (sl_kinds xs) q (upd (sl_kinds xs q) i (-1)))) (i + 1) (by omega) (by omega)
      refine ⟨xs', e1, e2, e4, e5, fun r k => ?_⟩
      rw [e3]
      show (if r = q ∧ i + 1 ≤ k ∧ k < n then -1 else va_up (sl_kinds xs) q (upd (sl_kinds xs q) i (-1)) r k) = _
      by_cases hr : r = q
      · subst hr
        rw [vaup_s]
        by_cases hk : k = i
        · subst hk
          rw [upd_s (α := Nat), if_neg (by omega), if_pos ⟨rfl, Nat.le_refl k, by omega⟩]
        · rw [upd_n hk]
          by_cases h2 : i + 1 ≤ k ∧ k < n
          · rw [if_pos ⟨rfl, h2⟩, if_pos ⟨rfl, by omega, h2.2⟩]
          · rw [if_neg (fun z => h2 z.2), if_neg (fun z => h2 ⟨by omega, z.2.2⟩)]
      · rw [if_neg (fun z => hr z.1), if_neg (fun z => hr z.1), vaup_n hr]
theorem slot_loop9 {q : Nat} {pb pc_ : Int32} (hq : q < 3) : ∀ (fu : Nat) (y : SX9) (i : Nat), i ≤ 9 → 9 - i < fu → ∃ f : Nat → Int32, qX9_slot_69 (nI q) pb pc_ fu y (nI i) = some (1, m_lies_s y f) ∧ ∀ k, f k = if 9 * q + i ≤ k ∧ k < 9 * q + 9 then -1 else m_lies y k := by
  intro fu
  induction fu with
  | zero => intro y i hi hf; omega
  | succ fu ih =>
    intro y i hi hf
    unfold qX9_slot_69
    by_cases hc : i = 9
    · subst hc
      rw [if_pos (show (9 : Int32) ≤ nI 9 by decide)]
      refine ⟨m_lies y, rfl, fun k => ?_⟩
      rw [if_neg (by omega)]
    · have e0 : (9 : Int32) * nI q + nI i = nI (9 * q + i) := by rw [show (9 : Int32) = nI 9 from rfl, pk_mul, nI_add]
      rw [if_neg (show ¬ (9 : Int32) ≤ nI i from nI_ge (b := 9) (by omega) (by decide)), e0, ga_ok (by omega) (by decide)]
      simp only [ltt, nI_1]
      obtain ⟨f, e1, e2⟩ := ih (m_lies_s y (upd (m_lies y) (9 * q + i) (-1))) (i + 1) (by omega) (by omega)
      refine ⟨f, e1, fun k => ?_⟩
      rw [e2]
      show (if 9 * q + (i + 1) ≤ k ∧ k < 9 * q + 9 then -1 else upd (m_lies y) (9 * q + i) (-1) k) = _
      by_cases hk : k = 9 * q + i
      · subst hk
        rw [upd_s (α := Nat), if_neg (by omega), if_pos (by omega)]
      · rw [upd_n hk]
        by_cases h2 : 9 * q + (i + 1) ≤ k ∧ k < 9 * q + 9
        · rw [if_pos h2, if_pos (by omega)]
        · rw [if_neg h2, if_neg (by omega)]
theorem op_slot {x : SX8} {y : SX9} (h : Rel x y) (a c b : Int32) : OpI (fX8_slot x a c b) (fX9_slot y a c b) := by
  have i0 : (0 : Int32).toInt = 0 := by decide
  have i9 : (9 : Int32).toInt = 9 := by decide
  by_cases ha : 0 ≤ a.toInt ∧ a.toInt < 3
  · by_cases hk : 0 ≤ c.toInt ∧ c.toInt < 6
    · by_cases hb : b ≤ 9
      · by_cases hb0 : 0 ≤ b
        · obtain ⟨q, hq, rfl, hq2⟩ := i32_nn ha.1
          obtain ⟨kk, hkk, rfl, hk2⟩ := i32_nn hk.1
          rw [i32_le] at hb0
          obtain ⟨n, hn, rfl, hn2⟩ := i32_nn (a := b) (by omega)
          rw [i32_le] at hb
          have hq3 : q < 3 := by omega
          have hn9 : n ≤ 9 := by omega
          obtain ⟨l', e1, e2, e4, e5, e3⟩ := make_loop5 (kk := nI kk) hq3 hn9 FU (w_slotRows x) 0 (by omega) (by unfold FU; omega)
          obtain ⟨K, hK⟩ : ∃ f, f = upd (m_slotKind y) q (nI kk) := ⟨_, rfl⟩
          obtain ⟨M, hM⟩ : ∃ f, f = upd (m_slotMany y) q (nI n) := ⟨_, rfl⟩
          obtain ⟨f, g1, g2⟩ := slot_loop9 (pb := nI kk) (pc_ := nI n) hq3 FU (m_slotMany_s (m_slotKind_s y K) M) 0 (by omega) (by unfold FU; omega)
          refine ⟨1, w_slotRows_s x l', m_lies_s (m_slotMany_s (m_slotKind_s y K) M) f, ?_, ?_, h.1, h.2.1, h.2.2.1, h.2.2.2.1, h.2.2.2.2.1, ?_, h.2.2.2.2.2.2⟩
          · unfold fX8_slot fX5_make
            rw [isSlot8, if_pos ha, bind_s, if_neg (show ¬ (1 : Int32) = 0 by decide), isKind8, if_pos hk, bind_s, if_neg (show ¬ (1 : Int32) = 0 by decide), if_pos (by rw [i32_le]; omega), if_pos (by rw [i32_le]; omega)]
            rw [show (0 : Int32) = nI 0 from rfl, e1]
            rfl
          · unfold fX9_slot
            rw [isSlot9, if_pos ha, bind_s, if_neg (show ¬ (1 : Int32) = 0 by decide), isKind9, if_pos hk, bind_s, if_neg (show ¬ (1 : Int32) = 0 by decide), if_pos (by rw [i32_le]; omega), if_pos (by rw [i32_le]; omega), ga_ok hq3 (by decide), ltt_e, ga_ok hq3 (by decide), ltt_e, ← hK, show m_slotMany (m_slotKind_s y K) = m_slotMany y from rfl, ← hM]
            rw [show (0 : Int32) = nI 0 from rfl, g1]
          · intro r hr
            by_cases hrq : r = q
            · subst hrq
              refine Or.inr ⟨n, hn9, ?_, ?_, ?_, ⟨kk, by omega, ?_⟩, fun k hk => ?_⟩
              · show sl_sizes l' r = _
                rw [e2, upd_s (α := Nat)]
              · show M r = _
                rw [hM, upd_s (α := Nat)]
              · show sl_madeFor l' r = K r
                rw [e4, hK, upd_s (α := Nat), upd_s (α := Nat)]
              · show K r = _
                rw [hK, upd_s (α := Nat)]
              · show sl_kinds l' r k = f (9 * r + k) ∧ (f (9 * r + k) = -1 ∨ _)
                rw [e3, g2, if_pos ⟨rfl, by omega, hk⟩, if_pos (by omega)]
                exact ⟨rfl, Or.inl rfl⟩
            · have hold := h.2.2.2.2.2.1 r hr
              have s1 : sl_sizes l' r = sl_sizes (w_slotRows x) r := by rw [e2, upd_n hrq]
              have s2 : M r = m_slotMany y r := by rw [hM, upd_n hrq]
              have s3 : sl_madeFor l' r = sl_madeFor (w_slotRows x) r := by rw [e4, upd_n hrq]
              have s4 : K r = m_slotKind y r := by rw [hK, upd_n hrq]
              rcases hold with ⟨o1, o2⟩ | ⟨m, hm, o1, o2, o3, ⟨k4, o5, o6⟩, o7⟩
              · exact Or.inl ⟨s1.trans o1, s2.trans o2⟩
              · refine Or.inr ⟨m, hm, s1.trans o1, s2.trans o2, s3.trans (o3.trans s4.symm), ⟨k4, o5, s4.trans o6⟩, fun k hk => ?_⟩
                show sl_kinds l' r k = f (9 * r + k) ∧ (f (9 * r + k) = -1 ∨ ((∃ kk : Nat, kk ≤ 5 ∧ f (9 * r + k) = nI kk) ∧ sl_figures l' r k = m_liesFigure y (9 * r + k) ∧ ∃ ff : Nat, ff ≤ 9 ∧ m_liesFigure y (9 * r + k) = nI ff))
                rw [e3, e5, g2, if_neg (fun z => hrq z.1), if_neg (by omega)]
                exact o7 k hk
        · have hb1 : ¬ (0 : Int32) ≤ b := hb0
          refine ⟨-14, x, y, ?_, ?_, h⟩
          · unfold fX8_slot fX5_make
            rw [isSlot8, if_pos ha, bind_s, if_neg (show ¬ (1 : Int32) = 0 by decide), isKind8, if_pos hk, bind_s, if_neg (show ¬ (1 : Int32) = 0 by decide), if_pos hb, if_neg hb1]
            rfl
          · unfold fX9_slot
            rw [isSlot9, if_pos ha, bind_s, if_neg (show ¬ (1 : Int32) = 0 by decide), isKind9, if_pos hk, bind_s, if_neg (show ¬ (1 : Int32) = 0 by decide), if_pos hb, if_neg hb1]
      · refine opI_no h (c := -6) (by decide) ?_ ?_
        · unfold fX8_slot fX5_make
          rw [isSlot8, if_pos ha, bind_s, if_neg (show ¬ (1 : Int32) = 0 by decide), isKind8, if_pos hk, bind_s, if_neg (show ¬ (1 : Int32) = 0 by decide), if_neg hb]
          exact bind_id (fX8_counted x (-6))
        · unfold fX9_slot
          rw [isSlot9, if_pos ha, bind_s, if_neg (show ¬ (1 : Int32) = 0 by decide), isKind9, if_pos hk, bind_s, if_neg (show ¬ (1 : Int32) = 0 by decide), if_neg hb]
          exact bind_id (fX9_no y (-6))
    · refine opI_no h (c := -2) (by decide) ?_ ?_
      · unfold fX8_slot fX5_make
        rw [isSlot8, if_pos ha, bind_s, if_neg (show ¬ (1 : Int32) = 0 by decide), isKind8, if_neg hk, bind_s, if_pos rfl]
        exact bind_id (fX8_counted x (-2))
      · unfold fX9_slot
        rw [isSlot9, if_pos ha, bind_s, if_neg (show ¬ (1 : Int32) = 0 by decide), isKind9, if_neg hk, bind_s, if_pos rfl]
        exact bind_id (fX9_no y (-2))
  · refine opI_no h (c := -1) (by decide) ?_ ?_
    · unfold fX8_slot fX5_make
      rw [isSlot8, if_neg ha, bind_s, if_pos rfl]
      exact bind_id (fX8_counted x (-1))
    · unfold fX9_slot
      rw [isSlot9, if_neg ha, bind_s, if_pos rfl]
      exact bind_id (fX9_no y (-1))
theorem copy_loop5 {a b n : Nat} (ha : a < 3) (hb : b < 3) (hn : n ≤ 9) : ∀ (fu : Nat) (xs : SX5) (i : Nat), sl_sizes xs b = nI n → i ≤ n → n - i < fu → ∃ xs' : SX5, qX5_copy_30 (nI a) (nI b) fu xs (nI i) = some (nI n, xs') ∧ sl_sizes xs' = upd (sl_sizes xs) a (nI n) ∧ sl_madeFor xs' = upd (sl_madeFor xs) a (sl_madeFor xs b) ∧ (∀ r k, sl_kinds xs' r k = if r = a ∧ i ≤ k ∧ k < n then sl_kinds xs b k else sl_kinds xs r k) ∧ ∀ r k, sl_figures xs' r k = if r = a ∧ i ≤ k ∧ k < n then sl_figures xs b k else sl_figures xs r k := by
  intro fu
  induction fu with
  | zero => intro xs i hs hi hf; omega
  | succ fu ih =>
    intro xs i hs hi hf
    unfold qX5_copy_30
    rw [ga_ok hb (by decide), hs]
    by_cases hc : i = n
    · subst hc
      obtain ⟨F, hF⟩ : ∃ f, f = upd (sl_madeFor xs) a (sl_madeFor xs b) := ⟨_, rfl⟩
      obtain ⟨G, hG⟩ : ∃ f, f = upd (sl_sizes xs) a (nI i) := ⟨_, rfl⟩
      rw [if_pos (nI_le (Nat.le_refl i) (by omega)), ga_ok hb (by decide), ltt_e, ga_ok ha (by decide), ltt_e, ← hF, ga_ok hb (by decide), ltt_e, ga_ok ha (by decide), ltt_e, show sl_sizes (sl_madeFor_s xs F) = sl_sizes xs from rfl, hs, ← hG, ga_ok ha (by decide)]
      refine ⟨sl_sizes_s (sl_madeFor_s xs F) G, ?_, rfl, rfl, fun r k => ?_, fun r k => ?_⟩
      · rw [show sl_sizes (sl_sizes_s (sl_madeFor_s xs F) G) = G from rfl, hG, upd_s (α := Nat)]
      · rw [if_neg (by omega)]
      · rw [if_neg (by omega)]
    · have hi9 : i < 9 := by omega
      obtain ⟨F, hF⟩ : ∃ f, f = va_up (sl_kinds xs) a (upd (sl_kinds xs a) i (sl_kinds xs b i)) := ⟨_, rfl⟩
      obtain ⟨G, hG⟩ : ∃ f, f = va_up (sl_figures xs) a (upd (sl_figures xs a) i (sl_figures xs b i)) := ⟨_, rfl⟩
      rw [if_neg (nI_ge (by omega) (by omega)), ga_ok ha (by decide), ga_ok hb (by decide), ga_ok hi9 (by decide), ltt_e, ga_ok hi9 (by decide), ltt_e, ← hF]
      rw [ga_ok ha (by decide), ga_ok hb (by decide), ga_ok hi9 (by decide), ltt_e, ga_ok hi9 (by decide), ltt_e, show sl_figures (sl_kinds_s xs F) = sl_figures xs from rfl, ← hG, ltt_e, nI_1]
      obtain ⟨xs', e1, e2, e4, e3, e5⟩ := ih (sl_figures_s (sl_kinds_s xs F) G) (i + 1) hs (by omega) (by omega)
      have kF : ∀ r k, F r k = if r = a ∧ k = i then sl_kinds xs b i else sl_kinds xs r k := fun r k => by
        rw [hF]
        by_cases hr : r = a
        · subst hr
          rw [vaup_s]
          by_cases hk : k = i
          · subst hk
            rw [upd_s (α := Nat), if_pos ⟨rfl, rfl⟩]
          · rw [upd_n hk, if_neg (fun z => hk z.2)]
        · rw [vaup_n hr, if_neg (fun z => hr z.1)]
      have kG : ∀ r k, G r k = if r = a ∧ k = i then sl_figures xs b i else sl_figures xs r k := fun r k => by
        rw [hG]
        by_cases hr : r = a
        · subst hr
          rw [vaup_s]
          by_cases hk : k = i
          · subst hk
            rw [upd_s (α := Nat), if_pos ⟨rfl, rfl⟩]
          · rw [upd_n hk, if_neg (fun z => hk z.2)]
        · rw [vaup_n hr, if_neg (fun z => hr z.1)]
      refine ⟨xs', e1, e2, e4, fun r k => ?_, fun r k => ?_⟩
      · rw [e3]
        show (if r = a ∧ i + 1 ≤ k ∧ k < n then F b k else F r k) = _
        rw [kF, kF]
        by_cases hr : r = a
        · by_cases hk : k = i
          · subst hk
            rw [if_neg (show ¬ (r = a ∧ k + 1 ≤ k ∧ k < n) by omega), if_pos (show r = a ∧ k = k from ⟨hr, rfl⟩), if_pos (show r = a ∧ k ≤ k ∧ k < n from ⟨hr, Nat.le_refl k, by omega⟩)]
          · rw [if_neg (show ¬ (b = a ∧ k = i) from fun z => hk z.2), if_neg (show ¬ (r = a ∧ k = i) from fun z => hk z.2)]
            by_cases h2 : i + 1 ≤ k ∧ k < n
            · rw [if_pos (show r = a ∧ i + 1 ≤ k ∧ k < n from ⟨hr, h2⟩), if_pos (show r = a ∧ i ≤ k ∧ k < n from ⟨hr, by omega, h2.2⟩)]
            · rw [if_neg (show ¬ (r = a ∧ i + 1 ≤ k ∧ k < n) from fun z => h2 z.2), if_neg (show ¬ (r = a ∧ i ≤ k ∧ k < n) from fun z => h2 ⟨by omega, z.2.2⟩)]
        · rw [if_neg (show ¬ (r = a ∧ i + 1 ≤ k ∧ k < n) from fun z => hr z.1), if_neg (show ¬ (r = a ∧ k = i) from fun z => hr z.1), if_neg (show ¬ (r = a ∧ i ≤ k ∧ k < n) from fun z => hr z.1)]
      · rw [e5]
        show (if r = a ∧ i + 1 ≤ k ∧ k < n then G b k else G r k) = _
        rw [kG, kG]
        by_cases hr : r = a
        · by_cases hk : k = i
          · subst hk
            rw [if_neg (show ¬ (r = a ∧ k + 1 ≤ k ∧ k < n) by omega), if_pos (show r = a ∧ k = k from ⟨hr, rfl⟩), if_pos (show r = a ∧ k ≤ k ∧ k < n from ⟨hr, Nat.le_refl k, by omega⟩)]
          · rw [if_neg (show ¬ (b = a ∧ k = i) from fun z => hk z.2), if_neg (show ¬ (r = a ∧ k = i) from fun z => hk z.2)]
            by_cases h2 : i + 1 ≤ k ∧ k < n
            · rw [if_pos (show r = a ∧ i + 1 ≤ k ∧ k < n from ⟨hr, h2⟩), if_pos (show r = a ∧ i ≤ k ∧ k < n from ⟨hr, by omega, h2.2⟩)]
            · rw [if_neg (show ¬ (r = a ∧ i + 1 ≤ k ∧ k < n) from fun z => h2 z.2), if_neg (show ¬ (r = a ∧ i ≤ k ∧ k < n) from fun z => h2 ⟨by omega, z.2.2⟩)]
        · rw [if_neg (show ¬ (r = a ∧ i + 1 ≤ k ∧ k < n) from fun z => hr z.1), if_neg (show ¬ (r = a ∧ k = i) from fun z => hr z.1), if_neg (show ¬ (r = a ∧ i ≤ k ∧ k < n) from fun z => hr z.1)]
def ls9 (z : SX9) (f g : Nat → Int32) : SX9 := m_liesFigure_s (m_lies_s z f) g
theorem ls9_a (z : SX9) (f g : Nat → Int32) : m_lies (ls9 z f g) = f := rfl
theorem ls9_b (z : SX9) (f g : Nat → Int32) : m_liesFigure (ls9 z f g) = g := rfl
theorem ls9_c (z : SX9) (f g F : Nat → Int32) : m_lies_s (ls9 z f g) F = ls9 z F g := by
  obtain ⟨a1, a2, a3, a4, a5, a6, a7, a8, a9, a10, a11, a12, a13, a14, a15, a16, a17, a18, a19, a20, a21, a22, a23, a24, a25, a26, a27, a28, a29, a30, a31, a32, a33, a34, a35, a36, a37, a38, a39, a40, a41, a42, a43, a44, a45, a46, a47, a48⟩ := z
  exact (show _ = ((a1, a2, a3, a4, a5, a6, a7, a8, a9, a10, a11, a12, a13, a14, a15, a16, a17, a18, a19, a20, a21, a22, a23, a24, a25, a26, a27, a28, a29, a30, a31, a32, a33, a34, a35, a36, a37, a38, a39, a40, a41, a42, a43, a44, a45, a46, F, g) : SX9) from rfl).trans rfl
theorem ls9_d (z : SX9) (f g F : Nat → Int32) : m_liesFigure_s (ls9 z f g) F = ls9 z f F := by
  obtain ⟨a1, a2, a3, a4, a5, a6, a7, a8, a9, a10, a11, a12, a13, a14, a15, a16, a17, a18, a19, a20, a21, a22, a23, a24, a25, a26, a27, a28, a29, a30, a31, a32, a33, a34, a35, a36, a37, a38, a39, a40, a41, a42, a43, a44, a45, a46, a47, a48⟩ := z
  exact (show _ = ((a1, a2, a3, a4, a5, a6, a7, a8, a9, a10, a11, a12, a13, a14, a15, a16, a17, a18, a19, a20, a21, a22, a23, a24, a25, a26, a27, a28, a29, a30, a31, a32, a33, a34, a35, a36, a37, a38, a39, a40, a41, a42, a43, a44, a45, a46, f, F) : SX9) from rfl).trans rfl
theorem ls9_0 (z : SX9) : z = ls9 z (m_lies z) (m_liesFigure z) := by
  obtain ⟨a1, a2, a3, a4, a5, a6, a7, a8, a9, a10, a11, a12, a13, a14, a15, a16, a17, a18, a19, a20, a21, a22, a23, a24, a25, a26, a27, a28, a29, a30, a31, a32, a33, a34, a35, a36, a37, a38, a39, a40, a41, a42, a43, a44, a45, a46, a47, a48⟩ := z
  rfl
theorem ls9_e (z : SX9) (f g : Nat → Int32) : m_slotMany (ls9 z f g) = m_slotMany z := rfl
theorem like_loop9 {a b : Nat} (ha : a < 3) (hb : b < 3) (z : SX9) : ∀ (fu : Nat) (f g : Nat → Int32) (i : Nat), i ≤ 9 → 9 - i < fu → ∃ f' g' : Nat → Int32, qX9_like_58 (nI a) (nI b) fu (ls9 z f g) (nI i) = some (m_slotMany z a, ls9 z f' g') ∧ (∀ r k, k < 9 → f' (9 * r + k) = if r = a ∧ i ≤ k then f (9 * b + k) else f (9 * r + k)) ∧ ∀ r k, k < 9 → g' (9 * r + k) = if r = a ∧ i ≤ k then g (9 * b + k) else g (9 * r + k) := by
  intro fu
  induction fu with
  | zero => intro f g i hi hf; omega
  | succ fu ih =>
    intro f g i hi hf
    unfold qX9_like_58
    by_cases hc : i = 9
    · subst hc
      rw [if_pos (show (9 : Int32) ≤ nI 9 by decide), ga_ok ha (by decide), ls9_e]
      refine ⟨f, g, rfl, fun r k hk => ?_, fun r k hk => ?_⟩
      · rw [if_neg (by omega)]
      · rw [if_neg (by omega)]
    · have e0 : (9 : Int32) * nI a + nI i = nI (9 * a + i) := by rw [show (9 : Int32) = nI 9 from rfl, pk_mul, nI_add]
      have e1 : (9 : Int32) * nI b + nI i = nI (9 * b + i) := by rw [show (9 : Int32) = nI 9 from rfl, pk_mul, nI_add]
      obtain ⟨F, hF⟩ : ∃ f', f' = upd f (9 * a + i) (f (9 * b + i)) := ⟨_, rfl⟩
      obtain ⟨G, hG⟩ : ∃ f', f' = upd g (9 * a + i) (g (9 * b + i)) := ⟨_, rfl⟩
      rw [if_neg (show ¬ (9 : Int32) ≤ nI i from nI_ge (b := 9) (by omega) (by decide)), e0, e1, ga_ok (by omega) (by decide), ltt_e, ga_ok (by omega) (by decide), ltt_e, ls9_a, ls9_c, ← hF, ga_ok (by omega) (by decide), ltt_e, ga_ok (by omega) (by decide), ltt_e, ls9_b, ls9_d, ← hG, ltt_e, nI_1]
      obtain ⟨f', g', q1, q2, q3⟩ := ih F G (i + 1) (by omega) (by omega)
      refine ⟨f', g', q1, fun r k hk => ?_, fun r k hk => ?_⟩
      · rw [q2 r k hk, hF]
        by_cases hr : r = a
        · subst hr
          by_cases hk2 : k = i
          · subst hk2
            rw [if_neg (show ¬ (r = r ∧ k + 1 ≤ k) by omega), upd_s (α := Nat), if_pos ⟨rfl, Nat.le_refl k⟩]
          · by_cases h2 : i + 1 ≤ k
            · rw [if_pos (show r = r ∧ i + 1 ≤ k from ⟨rfl, h2⟩), if_pos (show r = r ∧ i ≤ k from ⟨rfl, by omega⟩)]
              by_cases hbr : b = r
              · rw [hbr, upd_n (by omega)]
              · rw [upd_n (by omega)]
            · rw [if_neg (show ¬ (r = r ∧ i + 1 ≤ k) from fun z => h2 z.2), if_neg (show ¬ (r = r ∧ i ≤ k) by omega), upd_n (by omega)]
        · rw [if_neg (show ¬ (r = a ∧ i + 1 ≤ k) from fun z => hr z.1), if_neg (show ¬ (r = a ∧ i ≤ k) from fun z => hr z.1), upd_n (by omega)]
      · rw [q3 r k hk, hG]
        by_cases hr : r = a
        · subst hr
          by_cases hk2 : k = i
          · subst hk2
            rw [if_neg (show ¬ (r = r ∧ k + 1 ≤ k) by omega), upd_s (α := Nat), if_pos ⟨rfl, Nat.le_refl k⟩]
          · by_cases h2 : i + 1 ≤ k
            · rw [if_pos (show r = r ∧ i + 1 ≤ k from ⟨rfl, h2⟩), if_pos (show r = r ∧ i ≤ k from ⟨rfl, by omega⟩)]
              by_cases hbr : b = r
              · rw [hbr, upd_n (by omega)]
              · rw [upd_n (by omega)]
            · rw [if_neg (show ¬ (r = r ∧ i + 1 ≤ k) from fun z => h2 z.2), if_neg (show ¬ (r = r ∧ i ≤ k) by omega), upd_n (by omega)]
        · rw [if_neg (show ¬ (r = a ∧ i + 1 ≤ k) from fun z => hr z.1), if_neg (show ¬ (r = a ∧ i ≤ k) from fun z => hr z.1), upd_n (by omega)]
theorem op_like {x : SX8} {y : SX9} (h : Rel x y) (a b : Int32) : OpI (fX8_like x a b) (fX9_like y a b) := by
  have n1 : ¬ (1 : Int32) = 0 := by decide
  by_cases ha : 0 ≤ a.toInt ∧ a.toInt < 3
  · by_cases hb : 0 ≤ b.toInt ∧ b.toInt < 3
    · obtain ⟨p, hp, rfl, hp2⟩ := i32_nn ha.1
      obtain ⟨q, hq, rfl, hq2⟩ := i32_nn hb.1
      have hp3 : p < 3 := by omega
      have hq3 : q < 3 := by omega
      rcases h.2.2.2.2.2.1 q hq3 with ⟨o1, o2⟩ | ⟨n, hn, o1, o2, o3, ⟨k4, o5, o6⟩, o7⟩
      · refine ⟨-11, x, y, ?_, ?_, h⟩
        · unfold fX8_like fX5_copy
          rw [isSlot8, if_pos ha, bind_s, if_neg n1, isSlot8, if_pos hb, bind_s, if_neg n1, ga_ok hq3 (by decide), o1, if_neg (show ¬ (0 : Int32) ≤ -1 by decide)]
          rfl
        · unfold fX9_like
          rw [isSlot9, if_pos ha, bind_s, if_neg n1, isSlot9, if_pos hb, bind_s, if_neg n1, ga_ok hq3 (by decide), o2, if_neg (show ¬ (0 : Int32) ≤ -1 by decide)]
      · have h0 : (0 : Int32) ≤ nI n := nI_pos' (by omega)
        obtain ⟨l', e1, e2, e4, e3, e5⟩ := copy_loop5 hp3 hq3 hn FU (w_slotRows x) 0 o1 (by omega) (by unfold FU; omega)
        obtain ⟨K, hK⟩ : ∃ f, f = upd (m_slotKind y) p (m_slotKind y q) := ⟨_, rfl⟩
        obtain ⟨M, hM⟩ : ∃ f, f = upd (m_slotMany y) p (m_slotMany y q) := ⟨_, rfl⟩
        obtain ⟨f, g, g1, g2, g3⟩ := like_loop9 hp3 hq3 (m_slotMany_s (m_slotKind_s y K) M) FU (m_lies y) (m_liesFigure y) 0 (by omega) (by unfold FU; omega)
        refine ⟨nI n, w_slotRows_s x l', ls9 (m_slotMany_s (m_slotKind_s y K) M) f g, ?_, ?_, h.1, h.2.1, h.2.2.1, h.2.2.2.1, h.2.2.2.2.1, ?_, h.2.2.2.2.2.2⟩
        · unfold fX8_like fX5_copy
          rw [isSlot8, if_pos ha, bind_s, if_neg n1, isSlot8, if_pos hb, bind_s, if_neg n1, ga_ok hq3 (by decide), o1, if_pos h0, show (0 : Int32) = nI 0 from rfl, e1, bind_s, ltt_e, counted_pos h0]
          rfl
        · have hz : qX9_like_58 (nI p) (nI q) FU (m_slotMany_s (m_slotKind_s y K) M) (nI 0) = qX9_like_58 (nI p) (nI q) FU (ls9 (m_slotMany_s (m_slotKind_s y K) M) (m_lies y) (m_liesFigure y)) (nI 0) := congrArg (fun s => qX9_like_58 (nI p) (nI q) FU s (nI 0)) (ls9_0 (m_slotMany_s (m_slotKind_s y K) M))
          unfold fX9_like
          rw [isSlot9, if_pos ha, bind_s, if_neg n1, isSlot9, if_pos hb, bind_s, if_neg n1, ga_ok hq3 (by decide), if_pos (by rw [o2]; exact h0), ga_ok hq3 (by decide), ltt_e, ga_ok hp3 (by decide), ltt_e, ← hK, ga_ok hq3 (by decide), ltt_e, ga_ok hp3 (by decide), ltt_e, show m_slotMany (m_slotKind_s y K) = m_slotMany y from rfl, ← hM, show (0 : Int32) = nI 0 from rfl, hz, g1]
          have : m_slotMany (m_slotMany_s (m_slotKind_s y K) M) p = nI n := by
            show M p = _
            rw [hM, upd_s (α := Nat), o2]
          rw [this]
        · intro r hr
          by_cases hrq : r = p
          · subst hrq
            refine Or.inr ⟨n, hn, ?_, ?_, ?_, ⟨k4, o5, ?_⟩, fun k hk => ?_⟩
            · show sl_sizes l' r = _
              rw [e2, upd_s (α := Nat)]
            · show M r = _
              rw [hM, upd_s (α := Nat), o2]
            · show sl_madeFor l' r = K r
              rw [e4, hK, upd_s (α := Nat), upd_s (α := Nat), o3]
            · show K r = _
              rw [hK, upd_s (α := Nat), o6]
            · show sl_kinds l' r k = f (9 * r + k) ∧ (f (9 * r + k) = -1 ∨ ((∃ kk : Nat, kk ≤ 5 ∧ f (9 * r + k) = nI kk) ∧ sl_figures l' r k = g (9 * r + k) ∧ ∃ ff : Nat, ff ≤ 9 ∧ g (9 * r + k) = nI ff))
              rw [e3, e5, g2 r k (by omega), g3 r k (by omega), if_pos (show r = r ∧ 0 ≤ k ∧ k < n from ⟨rfl, by omega, hk⟩), if_pos (show r = r ∧ 0 ≤ k ∧ k < n from ⟨rfl, by omega, hk⟩), if_pos (show r = r ∧ 0 ≤ k from ⟨rfl, by omega⟩), if_pos (show r = r ∧ 0 ≤ k from ⟨rfl, by omega⟩)]
              exact o7 k hk
          · have hold := h.2.2.2.2.2.1 r hr
            have s1 : sl_sizes l' r = sl_sizes (w_slotRows x) r := by rw [e2, upd_n hrq]
            have s2 : M r = m_slotMany y r := by rw [hM, upd_n hrq]
            have s3 : sl_madeFor l' r = sl_madeFor (w_slotRows x) r := by rw [e4, upd_n hrq]
            have s4 : K r = m_slotKind y r := by rw [hK, upd_n hrq]
            rcases hold with ⟨o1, o2⟩ | ⟨m, hm, o1, o2, o3, ⟨k4, o5, o6⟩, o7⟩
            · exact Or.inl ⟨s1.trans o1, s2.trans o2⟩
            · refine Or.inr ⟨m, hm, s1.trans o1, s2.trans o2, s3.trans (o3.trans s4.symm), ⟨k4, o5, s4.trans o6⟩, fun k hk => ?_⟩
              show sl_kinds l' r k = f (9 * r + k) ∧ (f (9 * r + k) = -1 ∨ ((∃ kk : Nat, kk ≤ 5 ∧ f (9 * r + k) = nI kk) ∧ sl_figures l' r k = g (9 * r + k) ∧ ∃ ff : Nat, ff ≤ 9 ∧ g (9 * r + k) = nI ff))
              rw [e3, e5, g2 r k (by omega), g3 r k (by omega), if_neg (fun z => hrq z.1), if_neg (fun z => hrq z.1), if_neg (fun z => hrq z.1), if_neg (fun z => hrq z.1)]
              exact o7 k hk
    · refine opI_no h (c := -1) (by decide) ?_ ?_
      · unfold fX8_like fX5_copy
        rw [isSlot8, if_pos ha, bind_s, if_neg n1, isSlot8, if_neg hb, bind_s, if_pos rfl]
        exact bind_id (fX8_counted x (-1))
      · unfold fX9_like qX9_like_14
        rw [isSlot9, if_pos ha, bind_s, if_neg n1, isSlot9, if_neg hb, bind_s, if_pos rfl]
        exact bind_id (fX9_no y (-1))
  · refine opI_no h (c := -1) (by decide) ?_ ?_
    · unfold fX8_like fX5_copy
      rw [isSlot8, if_neg ha, bind_s, if_pos rfl]
      exact bind_id (fX8_counted x (-1))
    · unfold fX9_like qX9_like_14
      rw [isSlot9, if_neg ha, bind_s, if_pos rfl]
      exact bind_id (fX9_no y (-1))
