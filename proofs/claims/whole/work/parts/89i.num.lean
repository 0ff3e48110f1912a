/-! numbers and texts said -/
def SDn (n : Nat) (s : SX4) (y : SX9) : Prop := sa_size s = nI n ∧ m_saidMany y = nI n ∧ ∀ k, k < n → sa_letters s k = m_said y k
def Ks (y y' : SX9) : Prop := Kq y y' ∧ m_up y' = m_up y ∧ m_down y' = m_down y ∧ m_commuteUp y' = m_commuteUp y ∧ m_commuteDown y' = m_commuteDown y
theorem Ks.rfl (y : SX9) : Ks y y := ⟨Kq.rfl y, Eq.refl _, Eq.refl _, Eq.refl _, Eq.refl _⟩
theorem Ks.trans {a b c : SX9} (h : Ks a b) (g : Ks b c) : Ks a c := ⟨h.1.trans g.1, g.2.1.trans h.2.1, g.2.2.1.trans h.2.2.1, g.2.2.2.1.trans h.2.2.2.1, g.2.2.2.2.trans h.2.2.2.2⟩
theorem Kq_sd (y : SX9) (f : Nat → Int32) (v : Int32) : Ks y (m_saidMany_s (m_said_s y f) v) := ⟨⟨fun _ h => ⟨h.1, h.2.1, h.2.2.1, h.2.2.2.1, h.2.2.2.2.1, h.2.2.2.2.2.1, h.2.2.2.2.2.2.1, h.2.2.2.2.2.2.2⟩, fun _ _ _ _ h => ⟨h.1, h.2.1, h.2.2.1, h.2.2.2⟩, fun _ _ _ h => ⟨h.1, h.2.1, h.2.2⟩⟩, Eq.refl _, Eq.refl _, Eq.refl _, Eq.refl _⟩
theorem Kq_fg (y : SX9) (f : Nat → Int32) : Ks y (m_figures_s y f) := ⟨⟨fun _ h => ⟨h.1, h.2.1, h.2.2.1, h.2.2.2.1, h.2.2.2.2.1, h.2.2.2.2.2.1, h.2.2.2.2.2.2.1, h.2.2.2.2.2.2.2⟩, fun _ _ _ _ h => ⟨h.1, h.2.1, h.2.2.1, h.2.2.2⟩, fun _ _ _ h => ⟨h.1, h.2.1, h.2.2⟩⟩, Eq.refl _, Eq.refl _, Eq.refl _, Eq.refl _⟩
theorem wr {n : Nat} {s : SX4} {y : SX9} (h : SDn n s y) (hn : n < 120) (c : Int32) : ∃ s' y', fX4_addLetter s c = some s' ∧ fX9_writes y c = some y' ∧ SDn (n + 1) s' y' ∧ Ks y y' ∧ m_figures y' = m_figures y := by
  obtain ⟨h1, h2, h3⟩ := h
  refine ⟨sa_size_s (sa_letters_s s (upd (sa_letters s) n c)) (nI (n + 1)), m_saidMany_s (m_said_s y (upd (m_said y) n c)) (nI (n + 1)), ?_, ?_, ⟨rfl, rfl, fun k hk => ?_⟩, Kq_sd y _ _, rfl⟩
  · unfold fX4_addLetter
    rw [h1, if_neg (show ¬ (120 : Int32) ≤ nI n from nI_ge (b := 120) (by omega) (by decide)), ga_ok hn (by decide), ltt_e, ltt_e, ltt_e, show sa_size (sa_letters_s s (upd (sa_letters s) n c)) = nI n from h1, nI_1]
  · unfold fX9_writes
    rw [h2, ga_ok hn (by decide), ltt_e, ltt_e, ltt_e, show m_saidMany (m_said_s y (upd (m_said y) n c)) = nI n from h2, nI_1]
  · show upd (sa_letters s) n c k = upd (m_said y) n c k
    by_cases e : k = n
    · rw [e, upd_s (α := Nat), upd_s (α := Nat)]
    · rw [upd_n e, upd_n e]
      exact h3 k (by omega)
def tc (k j : Nat) : Int32 := (gtb.getD k []).getD j 0
theorem fin_len12 : ∀ k, k < 12 → fJ0_length_8abf5 k = some (nI (gtl.getD k 0)) ∧ gtl.getD k 0 ≤ 10 := by decide +kernel
theorem fin_char12 : ∀ k, k < 12 → ∀ j, j < 10 → j < gtl.getD k 0 → fJ0_charAt_5068e k (nI j) = some (tc k j) := by decide +kernel
theorem gk12 {α : Type} {k : Nat} {x : Option α} (h : k < 12) : gk k x = x := by
  unfold gk
  rw [if_pos h]
theorem txt_loop {k : Nat} (hk : k < 12) (q9 : Nat → SX9 → Int32 → Option SX9) (G : SX9 → Prop) (hG : ∀ y y', Ks y y' → G y → G y') (h1 : ∀ fu y i, G y → i < gtl.getD k 0 → q9 (fu + 1) y (nI i) = (fX9_writes y (tc k i)).bind fun o => q9 fu o (nI (i + 1))) (h2 : ∀ fu y, q9 (fu + 1) y (nI (gtl.getD k 0)) = some y) : ∀ (d fu i n : Nat) (s : SX4) (y : SX9), i + d = gtl.getD k 0 → d < fu → n + d ≤ 120 → G y → SDn n s y → ∃ s' y', qX4_addText_2 k fu s (nI i) = some s' ∧ q9 fu y (nI i) = some y' ∧ SDn (n + d) s' y' ∧ Ks y y' := by
  obtain ⟨l1, l2⟩ := fin_len12 k hk
  intro d
  induction d with
  | zero =>
    intro fu i n s y e1 e2 e3 hg hS
    match fu, e2 with
    | fu + 1, _ =>
      have hi : i = gtl.getD k 0 := by omega
      subst hi
      refine ⟨s, y, ?_, h2 fu y, hS, Ks.rfl y⟩
      unfold qX4_addText_2
      rw [l1, bind_s, gk12 hk, if_pos (nI_le (Nat.le_refl _) (by omega))]
  | succ d ih =>
    intro fu i n s y e1 e2 e3 hg hS
    match fu, e2 with
    | fu + 1, e2 =>
      obtain ⟨s1, y1, a1, a2, a3, a4, -⟩ := wr hS (by omega) (tc k i)
      obtain ⟨s', y', b1, b2, b3, b4⟩ := ih fu (i + 1) (n + 1) s1 y1 (by omega) (by omega) (by omega) (hG y y1 a4 hg) a3
      refine ⟨s', y', ?_, ?_, by rw [show n + (d + 1) = n + 1 + d by omega]; exact b3, a4.trans b4⟩
      · unfold qX4_addText_2
        rw [l1, bind_s, gk12 hk, if_neg (nI_ge (by omega) (by omega)), fin_char12 k hk i (by omega) (by omega), bind_s, gk12 hk, a1, bind_s, ltt_e, nI_1, b1]
      · rw [h1 fu y i hg (by omega), a2, bind_s, b2]
theorem lN_32 {d : Nat} (h : d < 2 ^ 31) : (lN d).toInt32 = nI d := by
  apply nI_of_toInt h
  rw [Int64.toInt_toInt32, pk_lT (by omega), Int.bmod_def]
  split <;> omega
theorem lN_le0 {a : Nat} (h : a < 2 ^ 63) : lN a ≤ (0 : Int64) ↔ a = 0 := by
  rw [show (0 : Int64) = lN 0 by decide, pk_lLE h (by decide)]
  omega
theorem lN_10 {a : Nat} (h : a * 10 < 2 ^ 63) : lN a * (10 : Int64) = lN (a * 10) := by
  rw [lN_zI (by omega), show (10 : Int64) = zI 10 from rfl, zI_mul, lN_zI (by omega)]
  congr 1
theorem pow10_lt {m : Nat} (h : m ≤ 14) : 10 ^ m ≤ 100000000000000 := by
  have := Nat.pow_le_pow_right (n := 10) (by decide) h
  exact this
/-- how many figures -/
theorem figs (v : Nat) (hv : v < 10 ^ 13) : ∃ m, m ≤ 12 ∧ v < 10 ^ (m + 1) ∧ (m = 0 ∨ 10 ^ m ≤ v) := by
  have : ∀ k, v < 10 ^ (k + 1) → ∃ m, m ≤ k ∧ v < 10 ^ (m + 1) ∧ (m = 0 ∨ 10 ^ m ≤ v) := by
    intro k
    induction k with
    | zero => intro h; exact ⟨0, Nat.le_refl 0, h, Or.inl rfl⟩
    | succ k ih =>
      intro h
      by_cases h2 : v < 10 ^ (k + 1)
      · obtain ⟨m, a, b, c⟩ := ih h2
        exact ⟨m, by omega, b, c⟩
      · exact ⟨k + 1, Nat.le_refl _, h, Or.inr (by omega)⟩
  exact this 12 hv
theorem num5 {v m : Nat} (hv : v < 10 ^ (m + 1)) (hm : m ≤ 12) (hm2 : m = 0 ∨ 10 ^ m ≤ v) (s : SX4) : ∀ (d fu k : Nat), k + d = m → d < fu → qX4_addNumber_5 (lN v) fu s (lN (10 ^ k)) (nI k) = qX4_addNumber_37 (lN v) FU s (lN (10 ^ m)) 0 := by
  have hvb : v < 10 ^ 13 := Nat.lt_of_lt_of_le hv (Nat.pow_le_pow_right (by decide) (by omega))
  have hd10 : lN v / (10 : Int64) = lN (v / 10) := by
    rw [show (10 : Int64) = lN 10 by decide]
    exact pk_lDiv (by omega) (by decide) (by decide)
  intro d
  induction d with
  | zero =>
    intro fu k h1 h2
    match fu, h2 with
    | fu + 1, _ =>
      have hk : k = m := by omega
      subst hk
      have hp := pow10_lt (show k ≤ 14 by omega)
      have hlt : lN v / (10 : Int64) < lN (10 ^ k) := by
        rw [hd10, pk_lLT (by omega) (by omega)]
        rw [Nat.pow_succ] at hv
        omega
      rw [qX4_addNumber_5]
      unfold qX4_addNumber_34
      rw [if_neg (show ¬ (17 : Int32) ≤ nI k from nI_ge (b := 17) (by omega) (by decide)), if_pos hlt]
  | succ d ih =>
    intro fu k h1 h2
    match fu, h2 with
    | fu + 1, h2 =>
      have hp := pow10_lt (show k ≤ 14 by omega)
      have hge : ¬ lN v / (10 : Int64) < lN (10 ^ k) := by
        rw [hd10, pk_lLT (by omega) (by omega)]
        have h3 : 10 ^ (k + 1) ≤ 10 ^ m := Nat.pow_le_pow_right (by decide) (by omega)
        rw [Nat.pow_succ] at h3
        rcases hm2 with h4 | h4
        · omega
        · omega
      rw [qX4_addNumber_5, if_neg (show ¬ (17 : Int32) ≤ nI k from nI_ge (b := 17) (by omega) (by decide)), if_neg hge, lN_10 (by omega), ltt_e, ltt_e, nI_1, ← Nat.pow_succ, ih fu (k + 1) (by omega) (by omega)]
theorem fig9 {v m : Nat} (hv : v < 10 ^ (m + 1)) (hm : m ≤ 12) (hm2 : m = 0 ∨ 10 ^ m ≤ v) : ∀ (d fu k : Nat) (y : SX9), k + d = m + 1 → d < fu → (∀ j, j < k → m_figures y j = nI (v / 10 ^ j % 10)) → ∃ y', Ks y y' ∧ m_saidMany y' = m_saidMany y ∧ m_said y' = m_said y ∧ qX9_saysNumber_5 (lN v) fu y (nI k) (lN (v / 10 ^ k)) = qX9_saysNumber_48 (lN v) FU y' (nI m) ∧ ∀ j, j ≤ m → m_figures y' j = nI (v / 10 ^ j % 10) := by
  have hvb : v < 10 ^ 13 := Nat.lt_of_lt_of_le hv (Nat.pow_le_pow_right (by decide) (by omega))
  intro d
  induction d with
  | zero =>
    intro fu k y h1 h2 h3
    match fu, h2 with
    | fu + 1, _ =>
      have hk : k = m + 1 := by omega
      subst hk
      refine ⟨y, Ks.rfl y, rfl, rfl, ?_, fun j hj => h3 j (by omega)⟩
      rw [qX9_saysNumber_5, Nat.div_eq_of_lt hv, if_neg (show ¬ (0 : Int64) < lN 0 by decide), if_neg (nI_ne0 (by omega) (by omega)), nI_pred, ltt_e]
  | succ d ih =>
    intro fu k y h1 h2 h3
    match fu, h2 with
    | fu + 1, h2 =>
      have hq : v / 10 ^ k < 2 ^ 63 := Nat.lt_of_le_of_lt (Nat.div_le_self _ _) (by omega)
      have hrem : ((lN (v / 10 ^ k) - lN (v / 10 ^ k) / (10 : Int64) * (10 : Int64)).toInt32) = nI (v / 10 ^ k % 10) := by
        rw [show (10 : Int64) = lN 10 by decide, pk_lRem hq (by decide) (by decide), lN_32 (by omega)]
      have hdiv : lN (v / 10 ^ k) / (10 : Int64) = lN (v / 10 ^ (k + 1)) := by
        rw [show (10 : Int64) = lN 10 by decide, pk_lDiv hq (by decide) (by decide), Nat.div_div_eq_div_mul, ← Nat.pow_succ]
      have hgo : ∀ fu, qX9_saysNumber_5 (lN v) (fu + 1) y (nI k) (lN (v / 10 ^ k)) = qX9_saysNumber_5 (lN v) fu (m_figures_s y (upd (m_figures y) k (nI (v / 10 ^ k % 10)))) (nI (k + 1)) (lN (v / 10 ^ (k + 1))) := by
        intro fu
        have e16 : qX9_saysNumber_16 (lN v) (qX9_saysNumber_5 (lN v) fu) y (nI k) (lN (v / 10 ^ k)) = qX9_saysNumber_5 (lN v) fu (m_figures_s y (upd (m_figures y) k (nI (v / 10 ^ k % 10)))) (nI (k + 1)) (lN (v / 10 ^ (k + 1))) := by
          unfold qX9_saysNumber_16
          rw [hrem, ltt_e, ga_ok (by omega) (by decide), ltt_e, hdiv, ltt_e, ltt_e, nI_1]
        rw [qX9_saysNumber_5, e16]
        by_cases h0 : (0 : Int64) < lN (v / 10 ^ k)
        · rw [if_pos h0]
        · rw [if_neg h0]
          have hk0 : k = 0 := by
            rcases hm2 with h4 | h4
            · omega
            · apply Classical.byContradiction
              intro hne
              apply h0
              rw [show (0 : Int64) = lN 0 by decide, pk_lLT (by decide) hq]
              have h5 : 10 ^ k ≤ 10 ^ m := Nat.pow_le_pow_right (by decide) (by omega)
              exact Nat.div_pos (by omega) (Nat.pow_pos (by decide))
          rw [if_pos (by rw [hk0]; rfl)]
      obtain ⟨y', a1, a2, a3, a4, a5⟩ := ih fu (k + 1) (m_figures_s y (upd (m_figures y) k (nI (v / 10 ^ k % 10)))) (by omega) (by omega) (fun j hj => by
        show upd (m_figures y) k (nI (v / 10 ^ k % 10)) j = _
        by_cases e : j = k
        · rw [e, upd_s (α := Nat)]
        · rw [upd_n e]; exact h3 j (by omega))
      exact ⟨y', (Kq_fg y _).trans a1, a2, a3, by rw [hgo]; exact a4, a5⟩
theorem num_out {v m : Nat} (hv : v < 10 ^ 13) (hm : m ≤ 12) : ∀ (e fu fu9 n : Nat) (s : SX4) (y : SX9), e ≤ m → e + 1 < fu → e + 1 < fu9 → n + e + 1 ≤ 120 → SDn n s y → (∀ j, j ≤ m → m_figures y j = nI (v / 10 ^ j % 10)) → ∃ s' y', qX4_addNumber_37 (lN v) fu s (lN (10 ^ e)) (nI (m - e)) = some s' ∧ qX9_saysNumber_48 (lN v) fu9 y (nI e) = some y' ∧ SDn (n + e + 1) s' y' ∧ Ks y y' := by
  have step : ∀ (e fu fu9 n : Nat) (s : SX4) (y : SX9), e ≤ m → n < 120 → SDn n s y → (∀ j, j ≤ m → m_figures y j = nI (v / 10 ^ j % 10)) → ∃ s1 y1, SDn (n + 1) s1 y1 ∧ Ks y y1 ∧ m_figures y1 = m_figures y ∧ qX4_addNumber_37 (lN v) (fu + 1) s (lN (10 ^ e)) (nI (m - e)) = qX4_addNumber_37 (lN v) fu s1 (lN (10 ^ e / 10)) (nI (m - e + 1)) ∧ qX9_saysNumber_48 (lN v) (fu9 + 1) y (nI e) = qX9_saysNumber_48 (lN v) fu9 y1 (nI e + (-1)) := by
    intro e fu fu9 n s y he hn hS hf
    have hp := pow10_lt (show e ≤ 14 by omega)
    have hpos : 0 < 10 ^ e := Nat.pow_pos (by decide)
    obtain ⟨s1, y1, a1, a2, a3, a4, a5⟩ := wr hS hn (nI (48 + v / 10 ^ e % 10))
    refine ⟨s1, y1, a3, a4, a5, ?_, ?_⟩
    · have hne : ¬ lN (10 ^ e) = (0 : Int64) := by
        rw [show (0 : Int64) = lN 0 by decide, pk_lEQ (by omega) (by decide)]
        omega
      have hq : v / 10 ^ e < 2 ^ 63 := Nat.lt_of_le_of_lt (Nat.div_le_self _ _) (by omega)
      have hrem : (((lN v / lN (10 ^ e)) - (lN v / lN (10 ^ e)) / (10 : Int64) * (10 : Int64)).toInt32) = nI (v / 10 ^ e % 10) := by
        rw [pk_lDiv (by omega) hpos (by omega), show (10 : Int64) = lN 10 by decide, pk_lRem hq (by decide) (by decide), lN_32 (by omega)]
      have hdv : lN (10 ^ e) / (10 : Int64) = lN (10 ^ e / 10) := by
        rw [show (10 : Int64) = lN 10 by decide, pk_lDiv (by omega) (by decide) (by decide)]
      rw [qX4_addNumber_37, if_neg (show ¬ (18 : Int32) ≤ nI (m - e) from nI_ge (b := 18) (by omega) (by decide)), if_neg (by rw [lN_le0 (by omega)]; omega)]
      unfold gzl
      rw [if_neg hne, hrem, show (48 : Int32) = nI 48 from rfl, nI_add, a1, bind_s, hdv, ltt_e, ltt_e, nI_1]
    · rw [qX9_saysNumber_48, if_neg (nI_pos (by omega)), ga_ok (by omega) (by decide), hf e he, show (48 : Int32) = nI 48 from rfl, nI_add, a2, bind_s, ltt_e]
  intro e
  induction e with
  | zero =>
    intro fu fu9 n s y he h1 h2 hn hS hf
    match fu, fu9, h1, h2 with
    | fu + 2, fu9 + 2, _, _ =>
      obtain ⟨s1, y1, b1, b2, b3, b4, b5⟩ := step 0 (fu + 1) (fu9 + 1) n s y he (by omega) hS hf
      refine ⟨s1, y1, ?_, ?_, b1, b2⟩
      · rw [show fu + 2 = fu + 1 + 1 from rfl, b4, qX4_addNumber_37]
        by_cases h18 : (18 : Int32) ≤ nI (m - 0 + 1)
        · rw [if_pos h18]
        · rw [if_neg h18, if_pos (show lN (10 ^ 0 / 10) ≤ (0 : Int64) by decide)]
      · rw [show fu9 + 2 = fu9 + 1 + 1 from rfl, b5, qX9_saysNumber_48, if_pos (show nI 0 + (-1 : Int32) < 0 by decide)]
  | succ e ih =>
    intro fu fu9 n s y he h1 h2 hn hS hf
    match fu, fu9, h1, h2 with
    | fu + 1, fu9 + 1, h1, h2 =>
      obtain ⟨s1, y1, b1, b2, b3, b4, b5⟩ := step (e + 1) fu fu9 n s y he (by omega) hS hf
      obtain ⟨s', y', c1, c2, c3, c4⟩ := ih fu fu9 (n + 1) s1 y1 (by omega) (by omega) (by omega) (by omega) b1 (fun j hj => by rw [b3]; exact hf j hj)
      refine ⟨s', y', ?_, ?_, by rw [show n + (e + 1) + 1 = n + 1 + e + 1 by omega]; exact c3, b2.trans c4⟩
      · rw [b4, show 10 ^ (e + 1) / 10 = 10 ^ e by rw [Nat.pow_succ]; omega, show m - (e + 1) + 1 = m - e by omega, c1]
      · rw [b5, pk_m1, c2]
/-- a number said on both sides -/
theorem num_both2 {v n : Nat} (hv : v < 10 ^ 13) (hn : n + 13 ≤ 120) {s : SX4} {y : SX9} (hS : SDn n s y) : ∃ l s' y', l ≤ 13 ∧ fX4_addNumber s (lN v) = some s' ∧ fX9_saysNumber y (lN v) = some y' ∧ SDn (n + l) s' y' ∧ Ks y y' := by
  obtain ⟨m, m1, m2, m3⟩ := figs v hv
  have a8 := num5 m2 m1 m3 s m FU 0 (by omega) (by unfold FU; omega)
  obtain ⟨y1, b1, b2, b3, b4, b5⟩ := fig9 m2 m1 m3 (m + 1) FU 0 y (by omega) (by unfold FU; omega) (fun j hj => by omega)
  have hS1 : SDn n s y1 := ⟨hS.1, by rw [b2]; exact hS.2.1, fun k hk => by rw [b3]; exact hS.2.2 k hk⟩
  obtain ⟨s', y', c1, c2, c3, c4⟩ := num_out hv m1 m FU FU n s y1 (Nat.le_refl m) (by unfold FU; omega) (by unfold FU; omega) (by omega) hS1 b5
  refine ⟨m + 1, s', y', by omega, ?_, ?_, c3, b1.trans c4⟩
  · unfold fX4_addNumber
    rw [show (1 : Int64) = lN (10 ^ 0) by decide, show (0 : Int32) = nI 0 from rfl, a8, show (0 : Int32) = nI (m - m) by rw [Nat.sub_self]; rfl, c1]
  · unfold fX9_saysNumber
    rw [show v / 10 ^ 0 = v by simp] at b4
    rw [show (0 : Int32) = nI 0 from rfl, b4, c2]
