/-! lots -/
def dg (t : Nat) (w : Nat → Wy) (x : Nat) : Nat → Nat
  | 0 => 0
  | n + 1 => dg t w x n + (if t.testBit n = true ∧ (wF (w n) = x ∨ wS (w n) = x) then wtw (w n) else 0)
theorem fin_wtb : ∀ k, k < 6 → ∀ g, g < 10 → ∀ l, l < 10 → 1 ≤ l → 1 ≤ wt k g l ∧ wt k g l ≤ 18 := by decide +kernel
theorem fin_mib : ∀ k, k < 6 → ∀ g, g < 10 → ∀ l, l < 10 → mi k g l ≤ 18 := by decide +kernel
theorem wtw_b {P : Nat} {v : Wy} (h : Wok P v) : 1 ≤ wtw v ∧ wtw v ≤ 18 := fin_wtb _ (by have := h.2.2.2.1; omega) _ (by have := h.2.2.2.2.1; omega) _ (by have := h.2.2.2.2.2.2.1; omega) h.2.2.2.2.2.1
theorem miw_b {P : Nat} {v : Wy} (h : Wok P v) : miw v ≤ 18 := fin_mib _ (by have := h.2.2.2.1; omega) _ (by have := h.2.2.2.2.1; omega) _ (by have := h.2.2.2.2.2.2.2.2; omega)
theorem dg_b {P A t x : Nat} {w : Nat → Wy} (h : GV P A w) : ∀ n, n ≤ A → dg t w x n ≤ 18 * n := by
  intro n
  induction n with
  | zero => intro _; exact Nat.le_refl 0
  | succ n ih =>
    intro hn
    have h1 := ih (by omega)
    have h2 := (wtw_b (h.2.2.2 n (by omega))).2
    show dg t w x n + _ ≤ _
    split <;> omega
theorem dg_mono {t x : Nat} {w : Nat → Wy} (n d : Nat) : dg t w x n ≤ dg t w x (n + d) := by
  induction d with
  | zero => exact Nat.le_refl _
  | succ d ih => exact Nat.le_trans ih (Nat.le_add_right _ _)
theorem wat9_loop {y : SX9} {P A : Nat} {w : Nat → Wy} (hV : GV P A w) {t : Nat} (hM : MA y P A t w) (ht : t < 2 ^ 31) {p : Nat} (hp : p < P) : ∀ (d fu i : Nat), i + d = A → d < fu → qX9_weightsAt_4 y (nI p) fu (nI (dg t w p i)) (nI i) = some (nI (dg t w p A)) := by
  have hA := hV.2.2.1
  have hP := hV.2.1
  intro d
  induction d with
  | zero =>
    intro fu i h1 h2
    match fu, h2 with
    | fu + 1, _ =>
      have hi : i = A := by omega
      subst hi
      unfold qX9_weightsAt_4
      rw [hM.2.1, if_pos (nI_le (Nat.le_refl i) (by omega))]
  | succ d ih =>
    intro fu i h1 h2
    match fu, h2 with
    | fu + 1, h2 =>
      have hi : i < 11 := by omega
      have hOk := hV.2.2.2 i (by omega)
      have hw := hM.2.2.2 i (by omega)
      have q := ih fu (i + 1) (by omega) (by omega)
      have hF := hOk.1
      have hS := hOk.2.1
      unfold qX9_weightsAt_4 qX9_weightsAt_44 qX9_weightsAt_52 qX9_weightsAt_53
      rw [hM.2.1, if_neg (nI_ge (by omega) (by omega)), hM.2.2.1, has9 ht (by omega), bind_s]
      rw [dg] at q
      by_cases hb : t.testBit i = true
      · rw [if_pos hb, if_neg (show ¬ (1 : Int32) = 0 by decide), ga_ok hi (by decide), hw.1]
        by_cases h3 : wF (w i) = p
        · rw [if_pos (by rw [h3]), weight9 hi hw hOk, bind_s, nI_add, ltt_e, ltt_e, nI_1]
          rw [if_pos ⟨hb, Or.inl h3⟩] at q
          exact q
        · rw [if_neg (fun z => h3 ((nI_eq (by omega) (by omega)).mp z)), ga_ok hi (by decide), hw.2.1]
          by_cases h4 : wS (w i) = p
          · rw [if_pos (by rw [h4]), weight9 hi hw hOk, bind_s, nI_add, ltt_e, ltt_e, nI_1]
            rw [if_pos ⟨hb, Or.inr h4⟩] at q
            exact q
          · rw [if_neg (fun z => h4 ((nI_eq (by omega) (by omega)).mp z)), show (0 : Int32) = nI 0 from rfl, nI_add, ltt_e, ltt_e, nI_1]
            rw [if_neg (fun z => by rcases z.2 with z | z; exact h3 z; exact h4 z)] at q
            exact q
      · rw [if_neg hb, if_pos rfl, show (0 : Int32) = nI 0 from rfl, nI_add, ltt_e, ltt_e, nI_1]
        rw [if_neg (fun z => hb z.1)] at q
        exact q
theorem weightsAt9 {y : SX9} {P A : Nat} {w : Nat → Wy} (hV : GV P A w) {t : Nat} (hM : MA y P A t w) (ht : t < 2 ^ 31) {p : Nat} (hp : p < P) : fX9_weightsAt y (nI p) = some (nI (dg t w p A)) := by
  have hA := hV.2.2.1
  have := wat9_loop hV hM ht hp A FU 0 (by omega) (by unfold FU; omega)
  unfold fX9_weightsAt
  rw [show nI (dg t w p 0) = (0 : Int32) from rfl, show nI 0 = (0 : Int32) from rfl] at this
  rw [this]
theorem wat8_loop {N : SX3} {P A : Nat} {w : Nat → Wy} (hV : GV P A w) (hN : NE N P A w) {p : Nat} (hp : p < P) : ∀ (d fu i : Nat), i + d = A → d < fu → qX3_weightsAt_4 N (nI p) fu (nI (dg (2 ^ A - 1) w p i)) (nI i) = some (nI (dg (2 ^ A - 1) w p A)) := by
  have hA := hV.2.2.1
  have hP := hV.2.1
  intro d
  induction d with
  | zero =>
    intro fu i h1 h2
    match fu, h2 with
    | fu + 1, _ =>
      have hi : i = A := by omega
      subst hi
      unfold qX3_weightsAt_4
      rw [hN.2.1, if_pos (nI_le (Nat.le_refl i) (by omega))]
  | succ d ih =>
    intro fu i h1 h2
    match fu, h2 with
    | fu + 1, h2 =>
      have hi : i < 11 := by omega
      have hOk := hV.2.2.2 i (by omega)
      have hw := hN.2.2 i (by omega)
      have q := ih fu (i + 1) (by omega) (by omega)
      have hF := hOk.1
      have hS := hOk.2.1
      have hb : (2 ^ A - 1).testBit i = true := by rw [ones_bit, decide_eq_true (by omega)]
      unfold qX3_weightsAt_4 qX3_weightsAt_29
      rw [hN.2.1, if_neg (nI_ge (by omega) (by omega)), touches8 hi hw (by omega) (by omega) (by omega), bind_s]
      rw [dg] at q
      by_cases h3 : wF (w i) = p ∨ wS (w i) = p
      · rw [if_pos h3, if_neg (show ¬ (1 : Int32) = 0 by decide), weight8 hi hw hOk, bind_s, nI_add, ltt_e, ltt_e, nI_1]
        rw [if_pos ⟨hb, h3⟩] at q
        exact q
      · rw [if_neg h3, if_pos rfl, ltt_e, nI_1]
        rw [if_neg (fun z => h3 z.2), Nat.add_zero] at q
        exact q
theorem weightsAt8 {N : SX3} {P A : Nat} {w : Nat → Wy} (hV : GV P A w) (hN : NE N P A w) {p : Nat} (hp : p < P) : fX3_weightsAt N (nI p) = some (nI (dg (2 ^ A - 1) w p A)) := by
  have hA := hV.2.2.1
  have := wat8_loop hV hN hp A FU 0 (by omega) (by unfold FU; omega)
  unfold fX3_weightsAt
  rw [show nI (dg (2 ^ A - 1) w p 0) = (0 : Int32) from rfl, show nI 0 = (0 : Int32) from rfl] at this
  rw [this]
theorem layw_loop {N : SX3} {P A : Nat} {w : Nat → Wy} (hV : GV P A w) (hN : NE N P A w) : ∀ (d fu i : Nat) (f : Nat → Int32), i + d = P → d < fu → (∀ j, j < i → f j = nI (dg (2 ^ A - 1) w j A)) → ∃ f', qX3_layWeights_2 N fu f (nI i) = some f' ∧ ∀ j, j < P → f' j = nI (dg (2 ^ A - 1) w j A) := by
  have hA := hV.2.2.1
  have hP := hV.2.1
  intro d
  induction d with
  | zero =>
    intro fu i f h1 h2 hf
    match fu, h2 with
    | fu + 1, _ =>
      have hi : i = P := by omega
      subst hi
      refine ⟨f, ?_, hf⟩
      unfold qX3_layWeights_2
      rw [hN.1, if_pos (nI_le (Nat.le_refl i) (by omega))]
  | succ d ih =>
    intro fu i f h1 h2 hf
    match fu, h2 with
    | fu + 1, h2 =>
      obtain ⟨f', q1, q2⟩ := ih fu (i + 1) (upd f i (nI (dg (2 ^ A - 1) w i A))) (by omega) (by omega) (fun j hj => by
        by_cases e : j = i
        · subst e
          rw [upd_s (α := Nat)]
        · rw [upd_n e]
          exact hf j (by omega))
      refine ⟨f', ?_, q2⟩
      unfold qX3_layWeights_2
      rw [hN.1, if_neg (nI_ge (by omega) (by omega)), if_neg (show ¬ (6 : Int32) ≤ nI i from nI_ge (b := 6) (by omega) (by decide)), weightsAt8 hV hN (by omega), bind_s, ga_ok (by omega) (by decide), ltt_e, ltt_e, nI_1, q1]
theorem layWeights8 {N : SX3} {P A : Nat} {w : Nat → Wy} (hV : GV P A w) (hN : NE N P A w) (f : Nat → Int32) : ∃ f', fX3_layWeights N f = some f' ∧ ∀ j, j < P → f' j = nI (dg (2 ^ A - 1) w j A) := by
  have hP := hV.2.1
  obtain ⟨f', q1, q2⟩ := layw_loop hV hN P FU 0 f (by omega) (by unfold FU; omega) (fun j hj => by omega)
  refine ⟨f', ?_, q2⟩
  unfold fX3_layWeights
  rw [show (0 : Int32) = nI 0 from rfl, q1]
theorem mz_mz (y : SX9) (a b : Int32) : m_z_s (m_z_s y a) b = m_z_s y b := by
  obtain ⟨a1, a2, a3, a4, a5, a6, a7, a8, a9, a10, a11, a12, a13, a14, a15, a16, a17, a18, a19, a20, a21, a22, a23, a24, a25, a26, a27, a28, a29, a30, a31, a32, a33, a34, a35, a36, a37, a38, a39, a40, a41, a42, a43, a44, a45, a46, a47, a48⟩ := y
  exact (show _ = ((a1, a2, a3, a4, a5, a6, a7, a8, a9, a10, a11, a12, a13, a14, a15, a16, a17, a18, a19, a20, a21, a22, a23, a24, a25, a26, a27, a28, a29, a30, a31, a32, b, a34, a35, a36, a37, a38, a39, a40, a41, a42, a43, a44, a45, a46, a47, a48) : SX9) from rfl).trans rfl
def lcg (z : Int32) : Int32 := z * 1664525 + 1013904223
theorem lcg_d (z : Int32) {D : Nat} (h0 : 0 < D) (hD : D < 2 ^ 31) : ∃ d, d < D ∧ (lcg z &&& 2147483647) / 256 - (lcg z &&& 2147483647) / 256 / nI D * nI D = nI d := by
  obtain ⟨j, hj, e⟩ := pk_andE (lcg z) (m := 2147483647) 31 (by decide)
  refine ⟨j / 256 % D, Nat.mod_lt _ h0, ?_⟩
  rw [e, show (256 : Int32) = nI 256 from rfl, pk_div hj (by decide) (by decide), pk_rem (by have := Nat.div_le_self j 256; omega) h0 hD]
theorem nI_sub {a b : Nat} (h : b ≤ a) (ha : a < 2 ^ 30) : nI a - nI b = nI (a - b) := by
  apply nI_of_toInt (by omega)
  rw [pk_sub_toInt (a := a) (b := b) ha (by omega)]
  omega
theorem wayBy_loop {N : SX3} {y : SX9} {P A : Nat} {w : Nat → Wy} (hV : GV P A w) (hN : NE N P A w) (hM : ∀ k, k < A → MWat y k (w k)) {p v : Nat} (hp : p < P) (hd : v < dg (2 ^ A - 1) w p A) : ∀ (d fu i : Nat), i + d = A → d < fu → dg (2 ^ A - 1) w p i ≤ v → ∃ k, k < A ∧ (wF (w k) = p ∨ wS (w k) = p) ∧ qX2_wayBy_5 N (nI p) (nI v) fu (nI (dg (2 ^ A - 1) w p i)) (nI i) = some (nI k) ∧ qX9_wayFrom_12 (nI p) fu y (nI (v - dg (2 ^ A - 1) w p i)) (nI i) = some (nI k, y) := by
  have hA := hV.2.2.1
  have hP := hV.2.1
  have hDb := dg_b (t := 2 ^ A - 1) (x := p) hV A (Nat.le_refl A)
  intro d
  induction d with
  | zero =>
    intro fu i h1 h2 h3
    have hi : i = A := by omega
    rw [hi] at h3
    omega
  | succ d ih =>
    intro fu i h1 h2 h3
    match fu, h2 with
    | fu + 1, h2 =>
      have hi : i < 11 := by omega
      have hOk := hV.2.2.2 i (by omega)
      have hw8 := hN.2.2 i (by omega)
      have hw9 := hM i (by omega)
      have hF := hOk.1
      have hS := hOk.2.1
      have hb : (2 ^ A - 1).testBit i = true := by rw [ones_bit, decide_eq_true (by omega)]
      have hwb := wtw_b hOk
      have hs : dg (2 ^ A - 1) w p (i + 1) = dg (2 ^ A - 1) w p i + (if (2 ^ A - 1).testBit i = true ∧ (wF (w i) = p ∨ wS (w i) = p) then wtw (w i) else 0) := rfl
      have n1 : ¬ (1 : Int32) = 0 := by decide
      by_cases ht : wF (w i) = p ∨ wS (w i) = p
      · rw [if_pos ⟨hb, ht⟩] at hs
        have e9 : ∀ l2 : Int32, qX9_wayFrom_12 (nI p) (fu + 1) y l2 (nI i) = qX9_wayFrom_32 (nI p) (qX9_wayFrom_41 (nI p) (qX9_wayFrom_12 (nI p) fu)) y l2 (nI i) := by
          intro l2
          rw [qX9_wayFrom_12, ga_ok hi (by decide), hw9.1]
          by_cases hf : wF (w i) = p
          · rw [if_pos (by rw [hf])]
          · rw [if_neg (fun z => hf ((nI_eq (by omega) (by omega)).mp z)), ga_ok hi (by decide), hw9.2.1, if_pos (by rw [ht.resolve_left hf])]
        have e41 : ∀ l2 : Int32, qX9_wayFrom_41 (nI p) (qX9_wayFrom_12 (nI p) fu) y l2 (nI i) = qX9_wayFrom_12 (nI p) fu y (l2 - nI (wtw (w i))) (nI (i + 1)) := by
          intro l2
          unfold qX9_wayFrom_41 qX9_wayFrom_62 qX9_wayFrom_71
          rw [ga_ok hi (by decide), hw9.1]
          by_cases hf : wF (w i) = p
          · rw [if_pos (by rw [hf]), weight9 hi hw9 hOk, bind_s, ltt_e, ltt_e, nI_1]
          · rw [if_neg (fun z => hf ((nI_eq (by omega) (by omega)).mp z)), ga_ok hi (by decide), hw9.2.1, if_pos (by rw [ht.resolve_left hf]), weight9 hi hw9 hOk, bind_s, ltt_e, ltt_e, nI_1]
        by_cases hv : dg (2 ^ A - 1) w p (i + 1) ≤ v
        · obtain ⟨k, k1, k2, q1, q2⟩ := ih fu (i + 1) (by omega) (by omega) hv
          refine ⟨k, k1, k2, ?_, ?_⟩
          · unfold qX2_wayBy_5 qX2_wayBy_41
            rw [hN.2.1, if_neg (nI_ge (by omega) (by omega)), touches8 hi hw8 (by omega) (by omega) (by omega), bind_s, if_pos ht, if_neg n1, weight8 hi hw8 hOk, bind_s, nI_add, ltt_e, ← hs, if_pos (nI_le hv (by omega)), ltt_e, nI_1, q1]
          · rw [e9]
            unfold qX9_wayFrom_32
            rw [weight9 hi hw9 hOk, bind_s, if_neg (nI_nlt (by omega) (by omega)), e41, nI_sub (by omega) (by omega), show v - dg (2 ^ A - 1) w p i - wtw (w i) = v - dg (2 ^ A - 1) w p (i + 1) by omega, q2]
        · refine ⟨i, by omega, ht, ?_, ?_⟩
          · unfold qX2_wayBy_5 qX2_wayBy_41
            rw [hN.2.1, if_neg (nI_ge (by omega) (by omega)), touches8 hi hw8 (by omega) (by omega) (by omega), bind_s, if_pos ht, if_neg n1, weight8 hi hw8 hOk, bind_s, nI_add, ltt_e, ← hs, if_neg (nI_ge (by omega) (by omega))]
          · rw [e9]
            unfold qX9_wayFrom_32
            rw [weight9 hi hw9 hOk, bind_s, if_pos (nI_lt (by omega) (by omega))]
      · rw [if_neg (fun z => ht z.2)] at hs
        obtain ⟨k, k1, k2, q1, q2⟩ := ih fu (i + 1) (by omega) (by omega) (by omega)
        have hf : ¬ nI (wF (w i)) = nI p := fun z => ht (Or.inl ((nI_eq (by omega) (by omega)).mp z))
        have hs2 : ¬ nI (wS (w i)) = nI p := fun z => ht (Or.inr ((nI_eq (by omega) (by omega)).mp z))
        rw [hs, Nat.add_zero] at q1 q2
        refine ⟨k, k1, k2, ?_, ?_⟩
        · unfold qX2_wayBy_5 qX2_wayBy_41
          rw [hN.2.1, if_neg (nI_ge (by omega) (by omega)), touches8 hi hw8 (by omega) (by omega) (by omega), bind_s, if_neg ht, if_pos rfl, ltt_e, nI_1, q1]
        · unfold qX9_wayFrom_12 qX9_wayFrom_41 qX9_wayFrom_71
          rw [ga_ok hi (by decide), hw9.1, if_neg hf, ga_ok hi (by decide), hw9.2.1, if_neg hs2, ga_ok hi (by decide), hw9.1, if_neg hf, ga_ok hi (by decide), hw9.2.1, if_neg hs2, ltt_e, ltt_e, nI_1, show nI (v - dg (2 ^ A - 1) w p i) - (0 : Int32) = nI (v - dg (2 ^ A - 1) w p i) by simp, q2]
