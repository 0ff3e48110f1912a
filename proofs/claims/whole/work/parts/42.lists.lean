/-! list, put, look -/
theorem upd_s {α : Type} {f : Nat → Int32} {k : Nat} {v : Int32} : upd f k v k = v := by unfold upd; rw [if_pos rfl]
theorem upd_n {f : Nat → Int32} {k j : Nat} {v : Int32} (h : j ≠ k) : upd f k v j = f j := by unfold upd; rw [if_neg h]
theorem updL_s {f : Nat → Int64} {k : Nat} {v : Int64} : vp_updL f k v k = v := by unfold vp_updL; rw [if_pos rfl]
theorem updL_n {f : Nat → Int64} {k j : Nat} {v : Int64} (h : j ≠ k) : vp_updL f k v j = f j := by unfold vp_updL; rw [if_neg h]
theorem vaup_s {α : Type} {f : Nat → α} {k : Nat} {v : α} : va_up f k v k = v := by unfold va_up; rw [if_pos rfl]
theorem vaup_n {α : Type} {f : Nat → α} {k j : Nat} {v : α} (h : j ≠ k) : va_up f k v j = f j := by unfold va_up; rw [if_neg h]
theorem make_loop {q n : Nat} (hq : q < 3) (hn : n ≤ 20) : ∀ (fu : Nat) (xs : SX1) (i : Nat), i ≤ n → n - i < fu → ∃ xs' : SX1, qX1_make_29 (nI q) (nI n) fu xs (nI i) = some (1, xs') ∧ li_sizes xs' = upd (li_sizes xs) q (nI n) ∧ ∀ r k, li_rows xs' r k = if r = q ∧ i ≤ k ∧ k < n then 0 else li_rows xs r k := by
  intro fu
  induction fu with
  | zero => intro xs i hi hf; omega
  | succ fu ih =>
    intro xs i hi hf
    unfold qX1_make_29
    by_cases hc : i = n
    · subst hc
      rw [if_pos (nI_le (Nat.le_refl i) (by omega)), ga_ok hq (by decide)]
      refine ⟨_, rfl, rfl, fun r k => ?_⟩
      rw [if_neg (by omega)]
    · rw [if_neg (nI_ge (by omega) (by omega)), ga_ok hq (by decide), ga_ok (by omega) (by decide)]
      simp only [ltt, nI_1]
      obtain ⟨xs', e1, e2, e3⟩ := ih (li_rows_s xs (va_up (li_rows xs) q (vp_updL (li_rows xs q) i 0))) (i + 1) (by omega) (by omega)
      refine ⟨xs', e1, e2, fun r k => ?_⟩
      rw [e3]
      show (if r = q ∧ i + 1 ≤ k ∧ k < n then 0 else va_up (li_rows xs) q (vp_updL (li_rows xs q) i 0) r k) = _
      by_cases hr : r = q
      · subst hr
        rw [vaup_s]
        by_cases hk : k = i
        · subst hk
          rw [updL_s, if_neg (by omega), if_pos ⟨rfl, Nat.le_refl k, by omega⟩]
        · rw [updL_n hk]
          by_cases h2 : i + 1 ≤ k ∧ k < n
          · rw [if_pos ⟨rfl, h2⟩, if_pos ⟨rfl, by omega, h2.2⟩]
          · rw [if_neg (fun z => h2 z.2), if_neg (fun z => h2 ⟨by omega, z.2.2⟩)]
      · rw [if_neg (fun z => hr z.1), if_neg (fun z => hr z.1), vaup_n hr]
theorem list_loop {q n : Nat} (hq : q < 3) : ∀ (fu : Nat) (y : SX9) (i : Nat), i ≤ 20 → 20 - i < fu → ∃ f : Nat → Int64, qX9_list_42 (nI q) (nI n) fu y (nI i) = some (1, m_items_s y f) ∧ ∀ k, f k = if 20 * q + i ≤ k ∧ k < 20 * q + 20 then 0 else m_items y k := by
  intro fu
  induction fu with
  | zero => intro y i hi hf; omega
  | succ fu ih =>
    intro y i hi hf
    unfold qX9_list_42
    by_cases hc : i = 20
    · subst hc
      rw [if_pos (show (20 : Int32) ≤ nI 20 by decide)]
      refine ⟨m_items y, rfl, fun k => ?_⟩
      rw [if_neg (by omega)]
    · have e0 : (20 : Int32) * nI q + nI i = nI (20 * q + i) := by rw [show (20 : Int32) = nI 20 from rfl, pk_mul, nI_add]
      rw [if_neg (show ¬ (20 : Int32) ≤ nI i from nI_ge (b := 20) (by omega) (by decide)), e0, ga_ok (by omega) (by decide)]
      simp only [ltt, nI_1]
      obtain ⟨f, e1, e2⟩ := ih (m_items_s y (vp_updL (m_items y) (20 * q + i) 0)) (i + 1) (by omega) (by omega)
      refine ⟨f, e1, fun k => ?_⟩
      rw [e2]
      show (if 20 * q + (i + 1) ≤ k ∧ k < 20 * q + 20 then 0 else vp_updL (m_items y) (20 * q + i) 0 k) = _
      by_cases hk : k = 20 * q + i
      · subst hk
        rw [updL_s, if_neg (by omega), if_pos (by omega)]
      · rw [updL_n hk]
        by_cases h2 : 20 * q + (i + 1) ≤ k ∧ k < 20 * q + 20
        · rw [if_pos h2, if_pos (by omega)]
        · rw [if_neg h2, if_neg (by omega)]
theorem isIn_eq {a b c : Int64} : fX9_isIn a b c = some (if b.toInt ≤ a.toInt ∧ a.toInt ≤ c.toInt then 1 else 0) := by
  unfold fX9_isIn
  by_cases h1 : a < b
  · rw [if_pos h1, if_neg (by rw [i64_lt] at h1; omega)]
  · rw [if_neg h1]
    by_cases h2 : c < a
    · rw [if_pos h2, if_neg (by rw [i64_lt] at h2; omega)]
    · rw [if_neg h2, if_pos (by rw [i64_lt] at h1 h2; omega)]
theorem isIn01 {a b c : Int64} {l h : Int} (hb : b.toInt = l) (hc : c.toInt = h) : (fX9_isIn a b c).bind (fun o1 => gb o1 (some o1)) = some (if l ≤ a.toInt ∧ a.toInt ≤ h then 1 else 0) := by
  rw [isIn_eq, hb, hc]
  by_cases q : l ≤ a.toInt ∧ a.toInt ≤ h
  · rw [if_pos q]; rfl
  · rw [if_neg q]; rfl
theorem isList_eq {a : Int32} : fX9_isList a = some (if 0 ≤ a.toInt ∧ a.toInt < 3 then 1 else 0) := by
  unfold fX9_isList
  rw [isIn01 (l := 0) (h := 2) (by decide) (by decide), i32_64]
  congr 1
  by_cases h : 0 ≤ a.toInt ∧ a.toInt < 3
  · rw [if_pos h, if_pos (by omega)]
  · rw [if_neg h, if_neg (by omega)]
theorem op_list {x : SX8} {y : SX9} (h : Rel x y) (a b : Int32) : OpI (fX8_list x a b) (fX9_list y a b) := by
  have i0 : (0 : Int32).toInt = 0 := by decide
  have i3 : (3 : Int32).toInt = 3 := by decide
  have i20 : (20 : Int32).toInt = 20 := by decide
  by_cases ha : 0 ≤ a.toInt ∧ a.toInt < 3
  · have ha0 : ¬ a < 0 := by rw [i32_lt]; omega
    have ha3 : a < 3 := by rw [i32_lt]; omega
    by_cases hb : b ≤ 20
    · by_cases hb0 : 0 ≤ b
      · obtain ⟨q, hq, rfl, hq2⟩ := i32_nn ha.1
        rw [i32_le] at hb0
        obtain ⟨n, hn, rfl, hn2⟩ := i32_nn (a := b) (by omega)
        rw [i32_le] at hb
        have hq3 : q < 3 := by omega
        have hn20 : n ≤ 20 := by omega
        obtain ⟨l', e1, e2, e3⟩ := make_loop hq3 hn20 FU (w_listRows x) 0 (by omega) (by unfold FU; omega)
        obtain ⟨f, g1, g2⟩ := list_loop (n := n) hq3 FU (m_listMany_s y (upd (m_listMany y) q (nI n))) 0 (by omega) (by unfold FU; omega)
        refine ⟨1, w_listRows_s x l', m_items_s (m_listMany_s y (upd (m_listMany y) q (nI n))) f, ?_, ?_, h.1, h.2.1, h.2.2.1, h.2.2.2.1, ?_, h.2.2.2.2.2⟩
        · unfold fX8_list fX1_make
          rw [if_neg ha0, if_pos ha3, if_pos (by rw [i32_le]; omega), if_pos (by rw [i32_le]; omega)]
          rw [show (0 : Int32) = nI 0 from rfl, e1]
          rfl
        · unfold fX9_list
          rw [isList_eq, if_pos ha, bind_s, if_neg (by decide), if_pos (by rw [i32_le]; omega), if_pos (by rw [i32_le]; omega), ga_ok hq3 (by decide)]
          rw [show (0 : Int32) = nI 0 from rfl]
          exact g1
        · intro r hr
          by_cases hrq : r = q
          · subst hrq
            refine Or.inr ⟨n, hn20, ?_, ?_, fun k hk => ?_⟩
            · show li_sizes l' r = _
              rw [e2, upd_s (α := Nat)]
            · show upd (m_listMany y) r (nI n) r = _
              rw [upd_s (α := Nat)]
            · show li_rows l' r k = f (20 * r + k)
              rw [e3, g2, if_pos ⟨rfl, by omega, hk⟩, if_pos (by omega)]
          · have hold := h.2.2.2.2.1 r hr
            have s1 : li_sizes l' r = li_sizes (w_listRows x) r := by rw [e2, upd_n hrq]
            have s2 : upd (m_listMany y) q (nI n) r = m_listMany y r := upd_n hrq
            rcases hold with ⟨o1, o2⟩ | ⟨m, hm, o1, o2, o3⟩
            · exact Or.inl ⟨s1.trans o1, s2.trans o2⟩
            · refine Or.inr ⟨m, hm, s1.trans o1, s2.trans o2, fun k hk => ?_⟩
              show li_rows l' r k = f (20 * r + k)
              rw [e3, g2, if_neg (fun z => hrq z.1), if_neg (by omega)]
              exact o3 k hk
      · have hb1 : ¬ (0 : Int32) ≤ b := hb0
        refine ⟨-14, x, y, ?_, ?_, h⟩
        · unfold fX8_list fX1_make
          rw [if_neg ha0, if_pos ha3, if_pos hb, if_neg hb1]
          rfl
        · unfold fX9_list
          rw [isList_eq, if_pos ha, bind_s, if_neg (by decide), if_pos hb, if_neg hb1]
    · refine opI_no h (c := -6) (by decide) ?_ ?_
      · unfold fX8_list fX1_make
        rw [if_neg ha0, if_pos ha3, if_neg hb]
        exact bind_id (fX8_counted x (-6))
      · unfold fX9_list
        rw [isList_eq, if_pos ha, bind_s, if_neg (by decide), if_neg hb]
        exact bind_id _
  · refine opI_no h (c := -1) (by decide) ?_ ?_
    · unfold fX8_list fX1_make
      by_cases h1 : a < 0
      · rw [if_pos h1]
        exact bind_id (fX8_counted x (-1))
      · rw [if_neg h1, if_neg (by rw [i32_lt] at h1 ⊢; omega)]
        exact bind_id (fX8_counted x (-1))
    · unfold fX9_list
      rw [isList_eq, if_neg ha]
      exact bind_id (fX9_no y (-1))

theorem refOf_eq {x : SX8} {y : SX9} (h : Rel x y) {q : Nat} (hq : q < 3) : (fX1_refusalOf (w_listRows x) (nI q) = some (-11) ∧ m_listMany y q = -1 ∧ li_sizes (w_listRows x) q = -1) ∨ ∃ n : Nat, n ≤ 20 ∧ fX1_refusalOf (w_listRows x) (nI q) = some 0 ∧ li_sizes (w_listRows x) q = nI n ∧ m_listMany y q = nI n ∧ ∀ k, k < n → li_rows (w_listRows x) q k = m_items y (20 * q + k) := by
  rcases h.2.2.2.2.1 q hq with ⟨o1, o2⟩ | ⟨n, hn, o1, o2, o3⟩
  · refine Or.inl ⟨?_, o2, o1⟩
    unfold fX1_refusalOf
    rw [if_neg (nI_pos (by omega)), if_pos (show nI q < (3 : Int32) from nI_lt (b := 3) hq (by decide)), ga_ok hq (by decide), o1]
    rfl
  · refine Or.inr ⟨n, hn, ?_, o1, o2, o3⟩
    unfold fX1_refusalOf
    rw [if_neg (nI_pos (by omega)), if_pos (show nI q < (3 : Int32) from nI_lt (b := 3) hq (by decide)), ga_ok hq (by decide), o1, if_pos (nI_pos' (by omega))]
theorem refOf_bad {x : SX1} {a : Int32} (ha : ¬ (0 ≤ a.toInt ∧ a.toInt < 3)) : fX1_refusalOf x a = some (-1) := by
  have i0 : (0 : Int32).toInt = 0 := by decide
  have i3 : (3 : Int32).toInt = 3 := by decide
  unfold fX1_refusalOf
  by_cases h1 : a < 0
  · rw [if_pos h1]
  · rw [if_neg h1, if_neg (by rw [i32_lt] at h1 ⊢; omega)]
/-- a place of a list: the refusal on both sides, or the place -/
theorem place_eq {x : SX8} {y : SX9} (h : Rel x y) {q : Nat} (hq : q < 3) (b : Int32) : (∃ c, (c = -11 ∨ c = -13) ∧ fX1_refusalOf_ (w_listRows x) (nI q) b = some c ∧ fX9_notPlace y (nI q) b = some c) ∨ ∃ n k : Nat, n ≤ 20 ∧ k < n ∧ b = nI k ∧ fX1_refusalOf_ (w_listRows x) (nI q) b = some 0 ∧ fX9_notPlace y (nI q) b = some 0 ∧ li_sizes (w_listRows x) q = nI n ∧ m_listMany y q = nI n ∧ ∀ k, k < n → li_rows (w_listRows x) q k = m_items y (20 * q + k) := by
  have i0 : (0 : Int32).toInt = 0 := by decide
  have i00 : (0 : Int64).toInt = 0 := by decide
  rcases refOf_eq h hq with ⟨o1, o2, o3⟩ | ⟨n, hn, o1, o2, o3, o4⟩
  · refine Or.inl ⟨-11, Or.inl rfl, ?_, ?_⟩
    · unfold fX1_refusalOf_
      rw [o1]; rfl
    · unfold fX9_notPlace
      rw [ga_ok hq (by decide), o2]; rfl
  · have em : (nI n - 1).toInt = (n : Int) - 1 := by
      have := pk_sub_toInt (a := n) (b := 1) (by omega) (by decide)
      exact this
    by_cases hb : 0 ≤ b.toInt ∧ b.toInt < n
    · obtain ⟨k, hk, rfl, hk2⟩ := i32_nn hb.1
      refine Or.inr ⟨n, k, hn, by omega, rfl, ?_, ?_, o2, o3, o4⟩
      · unfold fX1_refusalOf_ fX1_hasPlace
        rw [o1, bind_s, if_pos rfl, if_neg (nI_pos (by omega)), ga_ok hq (by decide), o2, if_neg (nI_ge (by omega) (by omega))]
        rfl
      · unfold fX9_notPlace
        rw [ga_ok hq (by decide), o3, if_pos (nI_pos' (by omega)), ga_ok hq (by decide), o3, isIn_eq, i32_64, i32_64, em, i00, if_pos (by omega)]
        rfl
    · refine Or.inl ⟨-13, Or.inr rfl, ?_, ?_⟩
      · unfold fX1_refusalOf_ fX1_hasPlace
        rw [o1, bind_s, if_pos rfl]
        by_cases h1 : b < 0
        · rw [if_pos h1]; rfl
        · rw [if_neg h1, ga_ok hq (by decide), o2, if_pos (by rw [i32_le, nI_toInt (by omega)]; rw [i32_lt] at h1; omega)]; rfl
      · unfold fX9_notPlace
        rw [ga_ok hq (by decide), o3, if_pos (nI_pos' (by omega)), ga_ok hq (by decide), o3, isIn_eq, i32_64, i32_64, em, i00, if_neg (by omega)]
        rfl
theorem op_put {x : SX8} {y : SX9} (h : Rel x y) (a b : Int32) (v : Int64) : OpI (fX8_put x a b v) (fX9_put y a b v) := by
  by_cases ha : 0 ≤ a.toInt ∧ a.toInt < 3
  · obtain ⟨q, hq, rfl, hq2⟩ := i32_nn ha.1
    have hq3 : q < 3 := by omega
    rcases place_eq h hq3 b with ⟨c, hc, e1, e2⟩ | ⟨n, k, hn, hk, rfl, e1, e2, s1, s2, s3⟩
    · refine ⟨c, x, y, ?_, ?_, h⟩
      · unfold fX8_put
        rw [e1]
        rcases hc with rfl | rfl <;> rfl
      · unfold fX9_put
        rw [isList_eq, if_pos ha, bind_s, if_neg (by decide), e2]
        rcases hc with rfl | rfl <;> rfl
    · have e0 : (20 : Int32) * nI q + nI k = nI (20 * q + k) := by rw [show (20 : Int32) = nI 20 from rfl, pk_mul, nI_add]
      obtain ⟨F8, hF8⟩ : ∃ f, f = va_up (li_rows (w_listRows x)) q (vp_updL (li_rows (w_listRows x) q) k v) := ⟨_, rfl⟩
      obtain ⟨F9, hF9⟩ : ∃ f, f = vp_updL (m_items y) (20 * q + k) v := ⟨_, rfl⟩
      refine ⟨1, w_listRows_s x (li_rows_s (w_listRows x) F8), m_items_s y F9, ?_, ?_, h.1, h.2.1, h.2.2.1, h.2.2.2.1, ?_, h.2.2.2.2.2⟩
      · unfold fX8_put
        rw [e1, bind_s, if_pos rfl, ga_ok hq3 (by decide), ga_ok (by omega) (by decide), ← hF8]
        rfl
      · unfold fX9_put
        rw [isList_eq, if_pos ha, bind_s, if_neg (by decide), e2, bind_s, if_pos rfl, e0, ga_ok (by omega) (by decide), ← hF9]
        rfl
      · intro r hr
        rcases h.2.2.2.2.1 r hr with ⟨o1, o2⟩ | ⟨m, hm, o1, o2, o3⟩
        · exact Or.inl ⟨o1, o2⟩
        · refine Or.inr ⟨m, hm, o1, o2, fun j hj => ?_⟩
          show F8 r j = F9 (20 * r + j)
          rw [hF8, hF9]
          by_cases hrq : r = q
          · subst hrq
            rw [vaup_s]
            by_cases hjk : j = k
            · subst hjk
              rw [updL_s, updL_s]
            · rw [updL_n hjk, updL_n (by omega)]
              exact o3 j hj
          · rw [vaup_n hrq, updL_n (by omega)]
            exact o3 j hj
  · refine opI_no h (c := -1) (by decide) ?_ ?_
    · unfold fX8_put fX1_refusalOf_
      rw [refOf_bad ha]
      exact bind_id (fX8_counted x (-1))
    · unfold fX9_put
      rw [isList_eq, if_neg ha]
      exact bind_id (fX9_no y (-1))
theorem opL_far {x : SX8} {y : SX9} (h : Rel x y) {c : Int32} (hc : c = -1 ∨ c = -2 ∨ c = -3 ∨ c = -4 ∨ c = -6) {r8 : Option (Int64 × SX8)} {r9 : Option (Int64 × SX9)} (e8 : r8 = fX8_refused x c) (e9 : r9 = fX9_far y c) : OpL r8 r9 := by
  rw [e8, e9]
  exact far_ok h hc
theorem op_look {x : SX8} {y : SX9} (h : Rel x y) (a b : Int32) : OpL (fX8_look x a b) (fX9_look y a b) := by
  by_cases ha : 0 ≤ a.toInt ∧ a.toInt < 3
  · obtain ⟨q, hq, rfl, hq2⟩ := i32_nn ha.1
    have hq3 : q < 3 := by omega
    rcases place_eq h hq3 b with ⟨c, hc, e1, e2⟩ | ⟨n, k, hn, hk, rfl, e1, e2, s1, s2, s3⟩
    · refine ⟨4000000000000000000 - c.toInt64, x, y, ?_, ?_, h⟩
      · unfold fX8_look
        rw [e1]
        rcases hc with rfl | rfl <;> rfl
      · unfold fX9_look
        rw [isList_eq, if_pos ha, bind_s, if_neg (by decide), e2]
        rcases hc with rfl | rfl <;> rfl
    · have e0 : (20 : Int32) * nI q + nI k = nI (20 * q + k) := by rw [show (20 : Int32) = nI 20 from rfl, pk_mul, nI_add]
      refine ⟨m_items y (20 * q + k), x, y, ?_, ?_, h⟩
      · unfold fX8_look
        rw [e1, bind_s, if_pos rfl, ga_ok hq3 (by decide), ga_ok (by omega) (by decide), s3 k hk]
      · unfold fX9_look
        rw [isList_eq, if_pos ha, bind_s, if_neg (by decide), e2, bind_s, if_pos rfl, e0, ga_ok (by omega) (by decide)]
  · refine opL_far h (c := -1) (by decide) ?_ ?_
    · unfold fX8_look fX1_refusalOf_
      rw [refOf_bad ha]
      exact bind_id (fX8_refused x (-1))
    · unfold fX9_look
      rw [isList_eq, if_neg ha]
      exact bind_id (fX9_far y (-1))
