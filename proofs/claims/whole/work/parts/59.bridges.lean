/-! bridges, whatIs, count -/
theorem at9_t (y : SX9) (a t t' : Int32) : m_there_s (at9 y a t) t' = at9 y a t' := by
  obtain ⟨a1, a2, a3, a4, a5, a6, a7, a8, a9, a10, a11, a12, a13, a14, a15, a16, a17, a18, a19, a20, a21, a22, a23, a24, a25, a26, a27, a28, a29, a30, a31, a32, a33, a34, a35, a36, a37, a38, a39, a40, a41, a42, a43, a44, a45, a46, a47, a48⟩ := y
  exact (show _ = ((a1, a2, a3, a4, a5, a6, a7, a8, a9, a10, a11, a12, a13, a14, a15, a16, a17, a18, a19, t', a, a22, a23, a24, a25, a26, a27, a28, a29, a30, a31, a32, a33, a34, a35, a36, a37, a38, a39, a40, a41, a42, a43, a44, a45, a46, a47, a48) : SX9) from rfl).trans rfl
theorem at9_at (y : SX9) (a t a' t' : Int32) : at9 (at9 y a t) a' t' = at9 y a' t' := by
  obtain ⟨a1, a2, a3, a4, a5, a6, a7, a8, a9, a10, a11, a12, a13, a14, a15, a16, a17, a18, a19, a20, a21, a22, a23, a24, a25, a26, a27, a28, a29, a30, a31, a32, a33, a34, a35, a36, a37, a38, a39, a40, a41, a42, a43, a44, a45, a46, a47, a48⟩ := y
  exact (show _ = ((a1, a2, a3, a4, a5, a6, a7, a8, a9, a10, a11, a12, a13, a14, a15, a16, a17, a18, a19, t', a', a22, a23, a24, a25, a26, a27, a28, a29, a30, a31, a32, a33, a34, a35, a36, a37, a38, a39, a40, a41, a42, a43, a44, a45, a46, a47, a48) : SX9) from rfl).trans rfl
theorem areTwo8 {x : SX8} {P W : Nat} {w : Nat → Wy} (hP : P ≤ 6) (hN : NE (w_net x) P W w) (a b : Int32) : fX8_areTwoPoints x a b = some (if (0 ≤ a.toInt ∧ a.toInt < P) ∧ (0 ≤ b.toInt ∧ b.toInt < P) ∧ a ≠ b then 1 else 0) := by
  unfold fX8_areTwoPoints
  rw [isPoint8 hN.1 (by omega), bind_s]
  by_cases ha : 0 ≤ a.toInt ∧ a.toInt < P
  · rw [if_pos ha, if_neg (show ¬ (1 : Int32) = 0 by decide), isPoint8 hN.1 (by omega), bind_s]
    by_cases hb : 0 ≤ b.toInt ∧ b.toInt < P
    · rw [if_pos hb, if_neg (show ¬ (1 : Int32) = 0 by decide)]
      by_cases hab : a = b
      · rw [if_pos hab, if_neg (fun z => z.2.2 hab)]
      · rw [if_neg hab, if_pos ⟨ha, hb, hab⟩]
    · rw [if_neg hb, if_pos rfl, if_neg (fun z => hb z.2.1)]
  · rw [if_neg ha, if_pos rfl, if_neg (fun z => ha z.1)]
theorem andn_lt {a b n : Nat} (h : a < n) : andn a b < n := Nat.lt_of_le_of_lt (andn_le a b) h
theorem has_nat8 {s b : Nat} (hs : s < 2 ^ 31) (hb : b < 32) : fX8_has (nI s) (nI b) = some (nI (if s.testBit b = true then 1 else 0)) := by
  rw [has8 hs hb]
  split <;> rfl
theorem bridges_loop {x : SX8} {y : SX9} {P W : Nat} {w : Nat → Wy} (hV : NV P W w) (hN : NE (w_net x) P W w) (hM : ME y P W w) {a b : Nat} (ha : a < P) (hb : b < P) : ∀ (d fu i : Nat) (l3 t : Int32), i + d = W → d < fu → ∃ r t', qX8_bridges_51 (nI a) (nI b) fu x l3 (nI i) = some (r, x) ∧ qX9_bridges_55 (nI a) (nI b) fu (at9 y (nI W) t) l3 (nI i) = some (r, at9 y (nI W) t') := by
  have hW := hV.2.2.1
  have hP := hV.2.1
  intro d
  induction d with
  | zero =>
    intro fu i l3 t h1 h2
    match fu, h2 with
    | fu + 1, _ =>
      have hi : i = W := by omega
      subst hi
      refine ⟨l3, t, ?_, ?_⟩
      · unfold qX8_bridges_51
        rw [hN.2.1, if_pos (nI_le (Nat.le_refl i) (by omega))]
      · unfold qX9_bridges_55
        rw [show m_many (at9 y (nI i) t) = nI i from hM.2.1, if_pos (nI_le (Nat.le_refl i) (by omega))]
  | succ d ih =>
    intro fu i l3 t h1 h2
    match fu, h2 with
    | fu + 1, h2 =>
      have hne : ¬ nI W ≤ nI i := nI_ge (by omega) (by omega)
      have hT : andn (2 ^ W - 1) (2 ^ i) < 2 ^ 31 := andn_lt (ones_lt (by omega))
      have hR := lt31 hP (Rch_lt (t := andn (2 ^ W - 1) (2 ^ i)) hV.g (two_lt ha))
      have e8 : ∀ fu, qX8_bridges_51 (nI a) (nI b) (fu + 1) x l3 (nI i) = qX8_bridges_51 (nI a) (nI b) fu x (if (Rch (andn (2 ^ W - 1) (2 ^ i)) w W (2 ^ a)).testBit b = true then l3 else l3 ||| nI (2 ^ i)) (nI (i + 1)) := by
        intro fu
        rw [qX8_bridges_51]
        unfold qX8_bridges_101
        rw [hN.2.1, if_neg hne, allWays8 (by omega) hN, bind_s, fin_sh1 a (by omega), fin_sh1 i (by omega), nI_andn, reached8 hV.g hN hT (two_lt ha), bind_s, has8 hR (by omega), bind_s]
        by_cases hq : (Rch (andn (2 ^ W - 1) (2 ^ i)) w W (2 ^ a)).testBit b = true
        · rw [if_pos hq, if_pos hq, if_neg (show ¬ (1 : Int32) = 0 by decide), ltt_e, nI_1]
        · rw [if_neg hq, if_neg hq, if_pos rfl, ltt_e, ltt_e, nI_1]
      have e9 : ∀ fu, qX9_bridges_55 (nI a) (nI b) (fu + 1) (at9 y (nI W) t) l3 (nI i) = qX9_bridges_55 (nI a) (nI b) fu (at9 y (nI W) (nI (andn (2 ^ W - 1) (2 ^ i)))) (if (Rch (andn (2 ^ W - 1) (2 ^ i)) w W (2 ^ a)).testBit b = true then l3 else l3 ||| nI (2 ^ i)) (nI (i + 1)) := by
        intro fu
        rw [qX9_bridges_55]
        unfold qX9_bridges_104
        rw [show m_many (at9 y (nI W) t) = nI W from hM.2.1, if_neg hne, fin_shm W (by omega), fin_sh1 i (by omega), nI_andn, ltt_e, ltt_e, at9_t, reach9 hV.g (at9_MA hM _) hT ha, bind_s, has9 hR (by omega), bind_s]
        by_cases hq : (Rch (andn (2 ^ W - 1) (2 ^ i)) w W (2 ^ a)).testBit b = true
        · rw [if_pos hq, if_pos hq, if_neg (show ¬ (1 : Int32) = 0 by decide), ltt_e, ltt_e, nI_1, show l3 ||| (0 : Int32) = l3 by simp]
        · rw [if_neg hq, if_neg hq, if_pos rfl, ltt_e, ltt_e, nI_1]
      rw [e8, e9]
      exact ih fu (i + 1) _ _ (by omega) (by omega)
theorem op_bridges {x : SX8} {y : SX9} (h : Rel x y) (a b : Int32) : OpI (fX8_bridges x a b) (fX9_bridges y a b) := by
  have n1 : ¬ (1 : Int32) = 0 := by decide
  obtain ⟨P, W, w, hV, hN, hM⟩ := h.1
  have hW := hV.2.2.1
  have hP := hV.2.1
  by_cases hq : (0 ≤ a.toInt ∧ a.toInt < P) ∧ (0 ≤ b.toInt ∧ b.toInt < P) ∧ a ≠ b
  · obtain ⟨ha, hb, hab⟩ := hq
    obtain ⟨p, hp, rfl, hp2⟩ := i32_nn ha.1
    obtain ⟨q, hq, rfl, hq2⟩ := i32_nn hb.1
    have hpP : p < P := by omega
    have hqP : q < P := by omega
    have hR := lt31 hP (Rch_lt (t := 2 ^ W - 1) hV.g (two_lt hpP))
    have e8 : fX8_bridges x (nI p) (nI q) = if (Rch (2 ^ W - 1) w W (2 ^ p)).testBit q = true then qX8_bridges_51 (nI p) (nI q) FU x 0 0 else fX8_counted x (-3) := by
      unfold fX8_bridges
      rw [areTwo8 hP hN, if_pos ⟨ha, hb, hab⟩, bind_s, if_neg n1, allWays8 (by omega) hN, bind_s, fin_sh1 p (by omega), reached8 hV.g hN (ones_lt (by omega)) (two_lt hpP), bind_s, has8 hR (by omega), bind_s]
      by_cases hr : (Rch (2 ^ W - 1) w W (2 ^ p)).testBit q = true
      · rw [if_pos hr, if_pos hr, if_neg n1]
      · rw [if_neg hr, if_neg hr, if_pos rfl]
        exact bind_id (fX8_counted x (-3))
    have e9 : fX9_bridges y (nI p) (nI q) = if (Rch (2 ^ W - 1) w W (2 ^ p)).testBit q = true then qX9_bridges_55 (nI p) (nI q) FU (at9 y (nI W) (nI (2 ^ W - 1))) 0 0 else fX9_no (at9 y (nI W) (nI (2 ^ W - 1))) (-3) := by
      unfold fX9_bridges
      rw [isPoint9 hM.1 (by omega), if_pos ha, bind_s, if_neg n1, isPoint9 hM.1 (by omega), if_pos hb, bind_s, if_neg n1, if_neg hab, allThere9 (by omega) hM, bind_s, reach9 hV.g (at9_MA hM _) (ones_lt (by omega)) hpP, bind_s, has9 hR (by omega), bind_s]
      by_cases hr : (Rch (2 ^ W - 1) w W (2 ^ p)).testBit q = true
      · rw [if_pos hr, if_pos hr, if_neg n1]
      · rw [if_neg hr, if_neg hr, if_pos rfl]
        exact bind_id (fX9_no (at9 y (nI W) (nI (2 ^ W - 1))) (-3))
    by_cases hr : (Rch (2 ^ W - 1) w W (2 ^ p)).testBit q = true
    · rw [if_pos hr] at e8 e9
      obtain ⟨r, t', q1, q2⟩ := bridges_loop hV hN hM hpP hqP W FU 0 0 (nI (2 ^ W - 1)) (by omega) (by unfold FU; omega)
      exact ⟨r, x, at9 y (nI W) t', e8.trans (by rw [show (0 : Int32) = nI 0 from rfl] at q1 ⊢; rw [q1]), e9.trans (by rw [show (0 : Int32) = nI 0 from rfl] at q2 ⊢; rw [q2]), at9_rel h _ _⟩
    · rw [if_neg hr] at e8 e9
      exact opI_no (at9_rel h _ _) (c := -3) (by decide) e8 e9
  · refine opI_no h (c := -1) (by decide) ?_ ?_
    · unfold fX8_bridges
      rw [areTwo8 hP hN, if_neg hq, bind_s, if_pos rfl]
      exact bind_id (fX8_counted x (-1))
    · unfold fX9_bridges qX9_bridges_21
      rw [isPoint9 hM.1 (by omega), bind_s]
      by_cases ha : 0 ≤ a.toInt ∧ a.toInt < P
      · rw [if_pos ha, if_neg n1, isPoint9 hM.1 (by omega), bind_s]
        by_cases hb : 0 ≤ b.toInt ∧ b.toInt < P
        · rw [if_pos hb, if_neg n1, if_pos (Classical.byContradiction fun z => hq ⟨ha, hb, z⟩)]
          exact bind_id (fX9_no y (-1))
        · rw [if_neg hb, if_pos rfl]
          exact bind_id (fX9_no y (-1))
      · rw [if_neg ha, if_pos rfl]
        exact bind_id (fX9_no y (-1))
theorem so_loop {x : SX8} {y : SX9} {n : Nat} (hn : n ≤ 10) (h8 : w_rowSize x = nI n) (h9 : m_rowMany y = nI n) (hr : ∀ k, k < n → w_rowNumbers x k = m_row y k) {kk ff : Nat} (hk : kk < 6) (hf : ff < 10) : ∀ (d fu i : Nat), i + d = n → d < fu → ∃ r, qX8_rowTells_2 x (nI kk) (nI ff) fu (nI i) = some r ∧ qX9_isSo_2 y (nI kk) (nI ff) fu (nI i) = some r := by
  intro d
  induction d with
  | zero =>
    intro fu i h1 h2
    match fu, h2 with
    | fu + 1, _ =>
      have hi : i = n := by omega
      subst hi
      refine ⟨1, ?_, ?_⟩
      · unfold qX8_rowTells_2
        rw [h8, if_pos (nI_le (Nat.le_refl i) (by omega))]
      · unfold qX9_isSo_2
        rw [h9, if_pos (nI_le (Nat.le_refl i) (by omega))]
  | succ d ih =>
    intro fu i h1 h2
    match fu, h2 with
    | fu + 1, h2 =>
      obtain ⟨r, q1, q2⟩ := ih fu (i + 1) (by omega) (by omega)
      have hrow := hr i (by omega)
      by_cases hq : m_row y i = nI (wt kk ff (i + 1))
      · refine ⟨r, ?_, ?_⟩
        · unfold qX8_rowTells_2
          rw [h8, if_neg (nI_ge (by omega) (by omega)), ga_ok (by omega) (by decide), nI_1, fin_wt8 kk hk ff hf (i + 1) (by omega), bind_s, hrow, if_pos hq, ltt_e, q1]
        · unfold qX9_isSo_2
          rw [h9, if_neg (nI_ge (by omega) (by omega)), nI_1, fin_wt9 kk hk ff hf (i + 1) (by omega), bind_s, ga_ok (by omega) (by decide), if_pos hq.symm, ltt_e, q2]
      · refine ⟨0, ?_, ?_⟩
        · unfold qX8_rowTells_2
          rw [h8, if_neg (nI_ge (by omega) (by omega)), ga_ok (by omega) (by decide), nI_1, fin_wt8 kk hk ff hf (i + 1) (by omega), bind_s, hrow, if_neg hq]
        · unfold qX9_isSo_2
          rw [h9, if_neg (nI_ge (by omega) (by omega)), nI_1, fin_wt9 kk hk ff hf (i + 1) (by omega), bind_s, ga_ok (by omega) (by decide), if_neg (fun z => hq z.symm)]
theorem so_eq {x : SX8} {y : SX9} (h : Rel x y) {kk ff : Nat} (hk : kk < 6) (hf : ff < 10) : ∃ r, fX8_rowTells x (nI kk) (nI ff) = some r ∧ fX9_isSo y (nI kk) (nI ff) = some r := by
  obtain ⟨n, hn, h8, h9, hr⟩ := h.2.2.2.1
  obtain ⟨r, q1, q2⟩ := so_loop hn h8 h9 hr hk hf n FU 0 (by omega) (by unfold FU; omega)
  rw [show nI 0 = (0 : Int32) from rfl] at q1 q2
  refine ⟨r, ?_, ?_⟩
  · unfold fX8_rowTells
    rw [q1]
  · unfold fX9_isSo
    rw [q2]
theorem what_loop0 {x : SX8} {y : SX9} (h : Rel x y) {P W k : Nat} {w : Nat → Wy} (hV : NV P W w) (hN : NE (w_net x) P W w) (hM : ME y P W w) (hk : k < W) : ∀ (d fu i : Nat) (l3 : Int32), i + d = 6 → d < fu → ∃ r, qX8_whatIs_51 (nI k) 0 fu x l3 6 (nI i) = some (r, x) ∧ qX9_whatIs_36 (nI k) 0 fu y l3 (nI i) = some (r, y) := by
  have hW := hV.2.2.1
  intro d
  induction d with
  | zero =>
    intro fu i l3 h1 h2
    match fu, h2 with
    | fu + 1, _ =>
      have hi : i = 6 := by omega
      subst hi
      refine ⟨l3, ?_, ?_⟩
      · unfold qX8_whatIs_51
        rw [if_pos (show (6 : Int32) ≤ nI 6 by decide)]
      · unfold qX9_whatIs_36 qX9_whatIs_49
        rw [if_pos rfl, if_pos (show (6 : Int32) ≤ nI 6 by decide)]
  | succ d ih =>
    intro fu i l3 h1 h2
    match fu, h2 with
    | fu + 1, h2 =>
      have hOk := hV.2.2.2 k hk
      obtain ⟨r, s1, s2⟩ := so_eq h (show i < 6 by omega) (show wG (w k) < 10 by have := hOk.2.2.2.2.1; omega)
      have hi : ¬ (6 : Int32) ≤ nI i := nI_ge (b := 6) (by omega) (by decide)
      obtain ⟨r', q1, q2⟩ := ih fu (i + 1) (if r = 0 then l3 else l3 ||| nI (2 ^ i)) (by omega) (by omega)
      refine ⟨r', ?_, ?_⟩
      · unfold qX8_whatIs_51 qX8_whatIs_76 qX8_whatIs_96 qX8_whatIs_116
        rw [if_neg hi, if_pos rfl, if_pos rfl, ga_ok (by omega) (by decide), (hN.2.2 k hk).2.2.2.1, s1, bind_s, fin_sh1 i (by omega)]
        by_cases hr : r = 0
        · rw [if_pos hr] at q1
          rw [if_pos hr, ltt_e, nI_1, q1]
        · rw [if_neg hr] at q1
          rw [if_neg hr, ltt_e, ltt_e, nI_1, q1]
      · unfold qX9_whatIs_36 qX9_whatIs_49 qX9_whatIs_90 qX9_whatIs_97 qX9_whatIs_98
        rw [if_pos rfl, if_neg hi, if_pos rfl, ga_ok (by omega) (by decide), (hM.2.2 k hk).2.2.2.1, s2, bind_s, fin_sh1 i (by omega)]
        by_cases hr : r = 0
        · rw [if_pos hr] at q2
          rw [if_pos hr, ltt_e, ltt_e, nI_1, show l3 ||| (0 : Int32) = l3 by simp, q2]
        · rw [if_neg hr] at q2
          rw [if_neg hr, ltt_e, ltt_e, nI_1, q2]
theorem what_loop1 {x : SX8} {y : SX9} (h : Rel x y) {P W k : Nat} {w : Nat → Wy} (hV : NV P W w) (hN : NE (w_net x) P W w) (hM : ME y P W w) (hk : k < W) : ∀ (d fu i : Nat) (l3 : Int32), i + d = 10 → d < fu → ∃ r, qX8_whatIs_51 (nI k) 1 fu x l3 10 (nI i) = some (r, x) ∧ qX9_whatIs_36 (nI k) 1 fu y l3 (nI i) = some (r, y) := by
  have hW := hV.2.2.1
  have n1 : ¬ (1 : Int32) = 0 := by decide
  intro d
  induction d with
  | zero =>
    intro fu i l3 h1 h2
    match fu, h2 with
    | fu + 1, _ =>
      have hi : i = 10 := by omega
      subst hi
      refine ⟨l3, ?_, ?_⟩
      · unfold qX8_whatIs_51
        rw [if_pos (show (10 : Int32) ≤ nI 10 by decide)]
      · unfold qX9_whatIs_36 qX9_whatIs_49
        rw [if_neg n1, if_pos (show (10 : Int32) ≤ nI 10 by decide)]
  | succ d ih =>
    intro fu i l3 h1 h2
    match fu, h2 with
    | fu + 1, h2 =>
      have hOk := hV.2.2.2 k hk
      obtain ⟨r, s1, s2⟩ := so_eq h (show wK (w k) < 6 by have := hOk.2.2.2.1; omega) (show i < 10 by omega)
      have hi : ¬ (10 : Int32) ≤ nI i := nI_ge (b := 10) (by omega) (by decide)
      obtain ⟨r', q1, q2⟩ := ih fu (i + 1) (if r = 0 then l3 else l3 ||| nI (2 ^ i)) (by omega) (by omega)
      refine ⟨r', ?_, ?_⟩
      · unfold qX8_whatIs_51 qX8_whatIs_76 qX8_whatIs_96 qX8_whatIs_116
        rw [if_neg hi, if_neg n1, ga_ok (by omega) (by decide), if_neg n1, (hN.2.2 k hk).2.2.1, s1, bind_s, fin_sh1 i (by omega)]
        by_cases hr : r = 0
        · rw [if_pos hr] at q1
          rw [if_pos hr, ltt_e, nI_1, q1]
        · rw [if_neg hr] at q1
          rw [if_neg hr, ltt_e, ltt_e, nI_1, q1]
      · unfold qX9_whatIs_36 qX9_whatIs_49 qX9_whatIs_90 qX9_whatIs_97 qX9_whatIs_98
        rw [if_neg n1, if_neg hi, if_neg n1, ga_ok (by omega) (by decide), (hM.2.2 k hk).2.2.1, s2, bind_s, fin_sh1 i (by omega)]
        by_cases hr : r = 0
        · rw [if_pos hr] at q2
          rw [if_pos hr, ltt_e, ltt_e, nI_1, show l3 ||| (0 : Int32) = l3 by simp, q2]
        · rw [if_neg hr] at q2
          rw [if_neg hr, ltt_e, ltt_e, nI_1, q2]
theorem isPart9 {a : Int32} : fX9_isIn a.toInt64 0 1 = some (if a = 0 ∨ a = 1 then 1 else 0) := by
  rw [isIn_eq, i32_64, show (0 : Int64).toInt = 0 by decide, show (1 : Int64).toInt = 1 by decide]
  congr 1
  have i0 : (0 : Int32).toInt = 0 := by decide
  by_cases h : a = 0 ∨ a = 1
  · rw [if_pos h, if_pos (by rcases h with rfl | rfl <;> decide)]
  · rw [if_neg h, if_neg (fun z => h (by rw [i32_eq, i32_eq, i0, i32_1]; omega))]
theorem op_whatIs {x : SX8} {y : SX9} (h : Rel x y) (a b : Int32) : OpI (fX8_whatIs x a b) (fX9_whatIs y a b) := by
  have n1 : ¬ (1 : Int32) = 0 := by decide
  obtain ⟨P, W, w, hV, hN, hM⟩ := h.1
  have hW := hV.2.2.1
  by_cases ha : 0 ≤ a.toInt ∧ a.toInt < W
  · obtain ⟨k, hk, rfl, hk2⟩ := i32_nn ha.1
    have hkW : k < W := by omega
    by_cases hb : b = 0
    · subst hb
      obtain ⟨r, q1, q2⟩ := what_loop0 h hV hN hM hkW 6 FU 0 0 (by omega) (by unfold FU; omega)
      rw [show nI 0 = (0 : Int32) from rfl] at q1 q2
      refine ⟨r, x, y, ?_, ?_, h⟩
      · unfold fX8_whatIs qX8_whatIs_33 qX8_whatIs_46
        rw [isWay8 hN.2.1 (by omega), if_pos ha, bind_s, if_neg n1, if_pos rfl, if_pos rfl, q1]
      · unfold fX9_whatIs
        rw [isWay9 hM.2.1 (by omega), if_pos ha, bind_s, if_neg n1, isPart9, if_pos (Or.inl rfl), bind_s, if_neg n1, q2]
    · by_cases hb1 : b = 1
      · subst hb1
        obtain ⟨r, q1, q2⟩ := what_loop1 h hV hN hM hkW 10 FU 0 0 (by omega) (by unfold FU; omega)
        rw [show nI 0 = (0 : Int32) from rfl] at q1 q2
        refine ⟨r, x, y, ?_, ?_, h⟩
        · unfold fX8_whatIs qX8_whatIs_33 qX8_whatIs_46
          rw [isWay8 hN.2.1 (by omega), if_pos ha, bind_s, if_neg n1, if_neg n1, if_pos rfl, if_neg n1, q1]
        · unfold fX9_whatIs
          rw [isWay9 hM.2.1 (by omega), if_pos ha, bind_s, if_neg n1, isPart9, if_pos (Or.inr rfl), bind_s, if_neg n1, q2]
      · refine opI_no h (c := -2) (by decide) ?_ ?_
        · unfold fX8_whatIs
          rw [isWay8 hN.2.1 (by omega), if_pos ha, bind_s, if_neg n1, if_neg hb, if_neg hb1]
          exact bind_id (fX8_counted x (-2))
        · unfold fX9_whatIs
          rw [isWay9 hM.2.1 (by omega), if_pos ha, bind_s, if_neg n1, isPart9, if_neg (fun z => by rcases z with z | z; exact hb z; exact hb1 z), bind_s, if_pos rfl]
          exact bind_id (fX9_no y (-2))
  · refine opI_no h (c := -1) (by decide) ?_ ?_
    · unfold fX8_whatIs
      rw [isWay8 hN.2.1 (by omega), if_neg ha, bind_s, if_pos rfl]
      exact bind_id (fX8_counted x (-1))
    · unfold fX9_whatIs
      rw [isWay9 hM.2.1 (by omega), if_neg ha, bind_s, if_pos rfl]
      exact bind_id (fX9_no y (-1))
