/-! the reference's determinants -/
def ms9 (y : SX9) (a : Nat → Int32) (n : Int32) (mx rg ds : Nat → Int64) (u d : Int64) : SX9 := m_down_s (m_up_s (m_dets_s (m_right_s (m_matrix_s (m_innerMany_s (m_inner_s y a) n) mx) rg) ds) u) d
theorem ms_inner (y : SX9) (a : Nat → Int32) (n : Int32) (mx rg ds : Nat → Int64) (u d : Int64) (v : Nat → Int32) : m_inner_s (ms9 y a n mx rg ds u d) v = ms9 y v n mx rg ds u d := by
  obtain ⟨a1, a2, a3, a4, a5, a6, a7, a8, a9, a10, a11, a12, a13, a14, a15, a16, a17, a18, a19, a20, a21, a22, a23, a24, a25, a26, a27, a28, a29, a30, a31, a32, a33, a34, a35, a36, a37, a38, a39, a40, a41, a42, a43, a44, a45, a46, a47, a48⟩ := y
  exact (show _ = ((a1, a2, a3, a4, a5, a6, a7, a8, a9, a10, a11, a12, a13, a14, a15, a16, a17, a18, a19, a20, a21, v, n, mx, rg, ds, u, d, a29, a30, a31, a32, a33, a34, a35, a36, a37, a38, a39, a40, a41, a42, a43, a44, a45, a46, a47, a48) : SX9) from rfl).trans rfl
theorem mg_inner (y : SX9) (a : Nat → Int32) (n : Int32) (mx rg ds : Nat → Int64) (u d : Int64) : m_inner (ms9 y a n mx rg ds u d) = a := rfl
theorem ms_innerMany (y : SX9) (a : Nat → Int32) (n : Int32) (mx rg ds : Nat → Int64) (u d : Int64) (v : Int32) : m_innerMany_s (ms9 y a n mx rg ds u d) v = ms9 y a v mx rg ds u d := by
  obtain ⟨a1, a2, a3, a4, a5, a6, a7, a8, a9, a10, a11, a12, a13, a14, a15, a16, a17, a18, a19, a20, a21, a22, a23, a24, a25, a26, a27, a28, a29, a30, a31, a32, a33, a34, a35, a36, a37, a38, a39, a40, a41, a42, a43, a44, a45, a46, a47, a48⟩ := y
  exact (show _ = ((a1, a2, a3, a4, a5, a6, a7, a8, a9, a10, a11, a12, a13, a14, a15, a16, a17, a18, a19, a20, a21, a, v, mx, rg, ds, u, d, a29, a30, a31, a32, a33, a34, a35, a36, a37, a38, a39, a40, a41, a42, a43, a44, a45, a46, a47, a48) : SX9) from rfl).trans rfl
theorem mg_innerMany (y : SX9) (a : Nat → Int32) (n : Int32) (mx rg ds : Nat → Int64) (u d : Int64) : m_innerMany (ms9 y a n mx rg ds u d) = n := rfl
theorem ms_matrix (y : SX9) (a : Nat → Int32) (n : Int32) (mx rg ds : Nat → Int64) (u d : Int64) (v : Nat → Int64) : m_matrix_s (ms9 y a n mx rg ds u d) v = ms9 y a n v rg ds u d := by
  obtain ⟨a1, a2, a3, a4, a5, a6, a7, a8, a9, a10, a11, a12, a13, a14, a15, a16, a17, a18, a19, a20, a21, a22, a23, a24, a25, a26, a27, a28, a29, a30, a31, a32, a33, a34, a35, a36, a37, a38, a39, a40, a41, a42, a43, a44, a45, a46, a47, a48⟩ := y
  exact (show _ = ((a1, a2, a3, a4, a5, a6, a7, a8, a9, a10, a11, a12, a13, a14, a15, a16, a17, a18, a19, a20, a21, a, n, v, rg, ds, u, d, a29, a30, a31, a32, a33, a34, a35, a36, a37, a38, a39, a40, a41, a42, a43, a44, a45, a46, a47, a48) : SX9) from rfl).trans rfl
theorem mg_matrix (y : SX9) (a : Nat → Int32) (n : Int32) (mx rg ds : Nat → Int64) (u d : Int64) : m_matrix (ms9 y a n mx rg ds u d) = mx := rfl
theorem ms_right (y : SX9) (a : Nat → Int32) (n : Int32) (mx rg ds : Nat → Int64) (u d : Int64) (v : Nat → Int64) : m_right_s (ms9 y a n mx rg ds u d) v = ms9 y a n mx v ds u d := by
  obtain ⟨a1, a2, a3, a4, a5, a6, a7, a8, a9, a10, a11, a12, a13, a14, a15, a16, a17, a18, a19, a20, a21, a22, a23, a24, a25, a26, a27, a28, a29, a30, a31, a32, a33, a34, a35, a36, a37, a38, a39, a40, a41, a42, a43, a44, a45, a46, a47, a48⟩ := y
  exact (show _ = ((a1, a2, a3, a4, a5, a6, a7, a8, a9, a10, a11, a12, a13, a14, a15, a16, a17, a18, a19, a20, a21, a, n, mx, v, ds, u, d, a29, a30, a31, a32, a33, a34, a35, a36, a37, a38, a39, a40, a41, a42, a43, a44, a45, a46, a47, a48) : SX9) from rfl).trans rfl
theorem mg_right (y : SX9) (a : Nat → Int32) (n : Int32) (mx rg ds : Nat → Int64) (u d : Int64) : m_right (ms9 y a n mx rg ds u d) = rg := rfl
theorem ms_dets (y : SX9) (a : Nat → Int32) (n : Int32) (mx rg ds : Nat → Int64) (u d : Int64) (v : Nat → Int64) : m_dets_s (ms9 y a n mx rg ds u d) v = ms9 y a n mx rg v u d := by
  obtain ⟨a1, a2, a3, a4, a5, a6, a7, a8, a9, a10, a11, a12, a13, a14, a15, a16, a17, a18, a19, a20, a21, a22, a23, a24, a25, a26, a27, a28, a29, a30, a31, a32, a33, a34, a35, a36, a37, a38, a39, a40, a41, a42, a43, a44, a45, a46, a47, a48⟩ := y
  exact (show _ = ((a1, a2, a3, a4, a5, a6, a7, a8, a9, a10, a11, a12, a13, a14, a15, a16, a17, a18, a19, a20, a21, a, n, mx, rg, v, u, d, a29, a30, a31, a32, a33, a34, a35, a36, a37, a38, a39, a40, a41, a42, a43, a44, a45, a46, a47, a48) : SX9) from rfl).trans rfl
theorem mg_dets (y : SX9) (a : Nat → Int32) (n : Int32) (mx rg ds : Nat → Int64) (u d : Int64) : m_dets (ms9 y a n mx rg ds u d) = ds := rfl
theorem ms_up (y : SX9) (a : Nat → Int32) (n : Int32) (mx rg ds : Nat → Int64) (u d : Int64) (v : Int64) : m_up_s (ms9 y a n mx rg ds u d) v = ms9 y a n mx rg ds v d := by
  obtain ⟨a1, a2, a3, a4, a5, a6, a7, a8, a9, a10, a11, a12, a13, a14, a15, a16, a17, a18, a19, a20, a21, a22, a23, a24, a25, a26, a27, a28, a29, a30, a31, a32, a33, a34, a35, a36, a37, a38, a39, a40, a41, a42, a43, a44, a45, a46, a47, a48⟩ := y
  exact (show _ = ((a1, a2, a3, a4, a5, a6, a7, a8, a9, a10, a11, a12, a13, a14, a15, a16, a17, a18, a19, a20, a21, a, n, mx, rg, ds, v, d, a29, a30, a31, a32, a33, a34, a35, a36, a37, a38, a39, a40, a41, a42, a43, a44, a45, a46, a47, a48) : SX9) from rfl).trans rfl
theorem mg_up (y : SX9) (a : Nat → Int32) (n : Int32) (mx rg ds : Nat → Int64) (u d : Int64) : m_up (ms9 y a n mx rg ds u d) = u := rfl
theorem ms_down (y : SX9) (a : Nat → Int32) (n : Int32) (mx rg ds : Nat → Int64) (u d : Int64) (v : Int64) : m_down_s (ms9 y a n mx rg ds u d) v = ms9 y a n mx rg ds u v := by
  obtain ⟨a1, a2, a3, a4, a5, a6, a7, a8, a9, a10, a11, a12, a13, a14, a15, a16, a17, a18, a19, a20, a21, a22, a23, a24, a25, a26, a27, a28, a29, a30, a31, a32, a33, a34, a35, a36, a37, a38, a39, a40, a41, a42, a43, a44, a45, a46, a47, a48⟩ := y
  exact (show _ = ((a1, a2, a3, a4, a5, a6, a7, a8, a9, a10, a11, a12, a13, a14, a15, a16, a17, a18, a19, a20, a21, a, n, mx, rg, ds, u, v, a29, a30, a31, a32, a33, a34, a35, a36, a37, a38, a39, a40, a41, a42, a43, a44, a45, a46, a47, a48) : SX9) from rfl).trans rfl
theorem mg_down (y : SX9) (a : Nat → Int32) (n : Int32) (mx rg ds : Nat → Int64) (u d : Int64) : m_down (ms9 y a n mx rg ds u d) = d := rfl
theorem ms_0 (y : SX9) : y = ms9 y (m_inner y) (m_innerMany y) (m_matrix y) (m_right y) (m_dets y) (m_up y) (m_down y) := by
  obtain ⟨a1, a2, a3, a4, a5, a6, a7, a8, a9, a10, a11, a12, a13, a14, a15, a16, a17, a18, a19, a20, a21, a22, a23, a24, a25, a26, a27, a28, a29, a30, a31, a32, a33, a34, a35, a36, a37, a38, a39, a40, a41, a42, a43, a44, a45, a46, a47, a48⟩ := y
  rfl
theorem ms_ms (y : SX9) (a : Nat → Int32) (n : Int32) (mx rg ds : Nat → Int64) (u d : Int64) (a' : Nat → Int32) (n' : Int32) (mx' rg' ds' : Nat → Int64) (u' d' : Int64) : ms9 (ms9 y a n mx rg ds u d) a' n' mx' rg' ds' u' d' = ms9 y a' n' mx' rg' ds' u' d' := by
  obtain ⟨a1, a2, a3, a4, a5, a6, a7, a8, a9, a10, a11, a12, a13, a14, a15, a16, a17, a18, a19, a20, a21, a22, a23, a24, a25, a26, a27, a28, a29, a30, a31, a32, a33, a34, a35, a36, a37, a38, a39, a40, a41, a42, a43, a44, a45, a46, a47, a48⟩ := y
  exact (show _ = ((a1, a2, a3, a4, a5, a6, a7, a8, a9, a10, a11, a12, a13, a14, a15, a16, a17, a18, a19, a20, a21, a', n', mx', rg', ds', u', d', a29, a30, a31, a32, a33, a34, a35, a36, a37, a38, a39, a40, a41, a42, a43, a44, a45, a46, a47, a48) : SX9) from rfl).trans rfl
def Kp (y y' : SX9) : Prop := ∃ (a : Nat → Int32) (n : Int32) (mx rg ds : Nat → Int64) (u d : Int64), y' = ms9 y a n mx rg ds u d
theorem Kp.rfl (y : SX9) : Kp y y := ⟨_, _, _, _, _, _, _, ms_0 y⟩
theorem Kp.trans {y y' y'' : SX9} (h : Kp y y') (h' : Kp y' y'') : Kp y y'' := by
  obtain ⟨a, n, mx, rg, ds, u, d, rfl⟩ := h
  obtain ⟨a', n', mx', rg', ds', u', d', rfl⟩ := h'
  exact ⟨a', n', mx', rg', ds', u', d', ms_ms y a n mx rg ds u d a' n' mx' rg' ds' u' d'⟩
theorem ms_ma {y : SX9} {P A t : Nat} {w : Nat → Wy} (h : MA y P A t w) (a : Nat → Int32) (n : Int32) (mx rg ds : Nat → Int64) (u d : Int64) : MA (ms9 y a n mx rg ds u d) P A t w := ⟨h.1, h.2.1, h.2.2.1, h.2.2.2⟩
theorem Kp.ma {y y' : SX9} {P A t : Nat} {w : Nat → Wy} (k : Kp y y') (h : MA y P A t w) : MA y' P A t w := by
  obtain ⟨a, n, mx, rg, ds, u, d, rfl⟩ := k
  exact ms_ma h a n mx rg ds u d
theorem Kp.me {y y' : SX9} {P W : Nat} {w : Nat → Wy} (k : Kp y y') (h : ME y P W w) : ME y' P W w := by
  obtain ⟨a, n, mx, rg, ds, u, d, rfl⟩ := k
  exact ⟨h.1, h.2.1, h.2.2⟩
theorem Kp.rel {x : SX8} {y y' : SX9} (k : Kp y y') (h : Rel x y) : Rel x y' := by
  obtain ⟨a, n, mx, rg, ds, u, d, rfl⟩ := k
  exact ⟨h.1, h.2.1, h.2.2.1, h.2.2.2.1, h.2.2.2.2.1, h.2.2.2.2.2.1, h.2.2.2.2.2.2.1, h.2.2.2.2.2.2.2⟩
def bt (t : Nat) (w : Nat → Wy) (x z : Nat) : Nat → Nat
  | 0 => 0
  | n + 1 => bt t w x z n + (if t.testBit n = true ∧ ((wF (w n) = x ∧ wS (w n) = z) ∨ (wF (w n) = z ∧ wS (w n) = x)) then wtw (w n) else 0)
theorem bt_b {P A t x z : Nat} {w : Nat → Wy} (h : GV P A w) : ∀ n, n ≤ A → bt t w x z n ≤ 18 * n := by
  intro n
  induction n with
  | zero => intro _; exact Nat.le_refl 0
  | succ n ih =>
    intro hn
    have h1 := ih (by omega)
    have h2 := (wtw_b (h.2.2.2 n (by omega))).2
    show bt t w x z n + _ ≤ _
    split <;> omega
theorem bt_lp (t : Nat) (w : Nat → Wy) {x z : Nat} (hxz : x ≠ z) : ∀ A, lp t w A x z = -(bt t w x z A : Int) := by
  intro A
  induction A with
  | zero => rfl
  | succ A ih =>
    show lp t w A x z + lw t w A x z = -((bt t w x z A + (if t.testBit A = true ∧ ((wF (w A) = x ∧ wS (w A) = z) ∨ (wF (w A) = z ∧ wS (w A) = x)) then wtw (w A) else 0) : Nat) : Int)
    rw [ih]
    unfold lw
    by_cases h1 : t.testBit A = true
    · by_cases h2 : (wF (w A) = x ∧ wS (w A) = z) ∨ (wF (w A) = z ∧ wS (w A) = x)
      · rw [if_pos h1, if_neg hxz, if_pos h2, if_pos ⟨h1, h2⟩]; omega
      · rw [if_pos h1, if_neg hxz, if_neg h2, if_neg (fun q => h2 q.2)]; omega
    · rw [if_neg h1, if_neg (fun q => h1 q.1)]; omega
theorem btw_loop {y : SX9} {P A : Nat} {w : Nat → Wy} (hV : GV P A w) {t : Nat} (hM : MA y P A t w) (ht : t < 2 ^ 31) {p q : Nat} (hp : p < 6) (hq : q < 6) : ∀ (d fu i : Nat), i + d = A → d < fu → qX9_between_5 y (nI p) (nI q) fu (nI (bt t w p q i)) (nI i) = some (nI (bt t w p q A)) := by
  have hA := hV.2.2.1
  have hP := hV.2.1
  intro d
  induction d with
  | zero =>
    intro fu i h1 h2
    match fu, h2 with
    | fu + 1, _ =>
      have hi : i = A := by omega
      subst hi
      unfold qX9_between_5
      rw [hM.2.1, if_pos (nI_le (Nat.le_refl i) (by omega))]
  | succ d ih =>
    intro fu i h1 h2
    match fu, h2 with
    | fu + 1, h2 =>
      have hi : i < 11 := by omega
      have hOk := hV.2.2.2 i (by omega)
      have hw := hM.2.2.2 i (by omega)
      have qq := ih fu (i + 1) (by omega) (by omega)
      have hF := hOk.1
      have hS := hOk.2.1
      have eqn : ∀ a b : Nat, a < 6 → b < 6 → (nI a = nI b ↔ a = b) := fun a b ha hb => nI_eq (by omega) (by omega)
      have e71 : ∀ l3 : Int32, qX9_between_71 y (nI p) (nI q) (qX9_between_81 y (nI p) (nI q) (qX9_between_5 y (nI p) (nI q) fu)) (nI i) l3 = qX9_between_5 y (nI p) (nI q) fu (l3 + nI (wtw (w i))) (nI (i + 1)) := by
        intro l3
        unfold qX9_between_71 qX9_between_81
        rw [weight9 hi hw hOk, bind_s, ltt_e, ltt_e, nI_1]
      have e80 : ∀ l3 : Int32, qX9_between_80 y (nI p) (nI q) (qX9_between_81 y (nI p) (nI q) (qX9_between_5 y (nI p) (nI q) fu)) (nI i) l3 = qX9_between_5 y (nI p) (nI q) fu l3 (nI (i + 1)) := by
        intro l3
        unfold qX9_between_80 qX9_between_81
        rw [ltt_e, ltt_e, nI_1, show l3 + (0 : Int32) = l3 by simp]
      have e49 : ∀ l3 : Int32, qX9_between_49 y (nI p) (nI q) (qX9_between_71 y (nI p) (nI q) (qX9_between_81 y (nI p) (nI q) (qX9_between_5 y (nI p) (nI q) fu))) (qX9_between_80 y (nI p) (nI q) (qX9_between_81 y (nI p) (nI q) (qX9_between_5 y (nI p) (nI q) fu))) (nI i) l3 = qX9_between_5 y (nI p) (nI q) fu (if wF (w i) = q ∧ wS (w i) = p then l3 + nI (wtw (w i)) else l3) (nI (i + 1)) := by
        intro l3
        unfold qX9_between_49
        rw [ga_ok hi (by decide), hw.1, e71, e80]
        by_cases h3 : wF (w i) = q
        · rw [if_pos ((eqn _ _ (by omega) hq).mpr h3), ga_ok hi (by decide), hw.2.1]
          by_cases h4 : wS (w i) = p
          · rw [if_pos ((eqn _ _ (by omega) hp).mpr h4), if_pos ⟨h3, h4⟩]
          · rw [if_neg (fun z => h4 ((eqn _ _ (by omega) hp).mp z)), if_neg (fun z => h4 z.2)]
        · rw [if_neg (fun z => h3 ((eqn _ _ (by omega) hq).mp z)), if_neg (fun z => h3 z.1)]
      rw [qX9_between_5, hM.2.1, if_neg (nI_ge (by omega) (by omega)), hM.2.2.1, has9 ht (by omega), bind_s, e71, e80, e49]
      rw [bt] at qq
      by_cases hb : t.testBit i = true
      · rw [if_pos hb, if_neg (show ¬ (1 : Int32) = 0 by decide), ga_ok hi (by decide), hw.1]
        by_cases h3 : wF (w i) = p
        · rw [if_pos ((eqn _ _ (by omega) hp).mpr h3), ga_ok hi (by decide), hw.2.1]
          by_cases h4 : wS (w i) = q
          · rw [if_pos ((eqn _ _ (by omega) hq).mpr h4), nI_add]
            rw [if_pos ⟨hb, Or.inl ⟨h3, h4⟩⟩] at qq
            exact qq
          · rw [if_neg (fun z => h4 ((eqn _ _ (by omega) hq).mp z))]
            by_cases h5 : wF (w i) = q ∧ wS (w i) = p
            · rw [if_pos h5, nI_add]
              rw [if_pos ⟨hb, Or.inr h5⟩] at qq
              exact qq
            · rw [if_neg h5]
              rw [if_neg (fun z => by rcases z.2 with z | z; exact h4 z.2; exact h5 z)] at qq
              exact qq
        · rw [if_neg (fun z => h3 ((eqn _ _ (by omega) hp).mp z))]
          by_cases h5 : wF (w i) = q ∧ wS (w i) = p
          · rw [if_pos h5, nI_add]
            rw [if_pos ⟨hb, Or.inr h5⟩] at qq
            exact qq
          · rw [if_neg h5]
            rw [if_neg (fun z => by rcases z.2 with z | z; exact h3 z.1; exact h5 z)] at qq
            exact qq
      · rw [if_neg hb, if_pos rfl]
        rw [if_neg (fun z => hb z.1)] at qq
        exact qq
theorem between9 {y : SX9} {P A : Nat} {w : Nat → Wy} (hV : GV P A w) {t : Nat} (hM : MA y P A t w) (ht : t < 2 ^ 31) {p q : Nat} (hp : p < 6) (hq : q < 6) : fX9_between y (nI p) (nI q) = some (nI (bt t w p q A)) := by
  have hA := hV.2.2.1
  have := btw_loop hV hM ht hp hq A FU 0 (by omega) (by unfold FU; omega)
  unfold fX9_between
  rw [show nI (bt t w p q 0) = (0 : Int32) from rfl, show nI 0 = (0 : Int32) from rfl] at this
  rw [this]
theorem zI_nn {n : Nat} (h : n < 2 ^ 31) : (-(nI n)).toInt64 = zI (-(n : Int)) := by
  apply Int64.toInt_inj.mp
  rw [i32_64, zI_t (by omega) (by omega)]
  have e : -(nI n) = nI 0 - nI n := by rw [show nI 0 = (0 : Int32) from rfl]; simp
  rw [e, Int32.toInt_sub, nI_toInt (by omega), nI_toInt h, Int.bmod_def]
  split <;> omega
