/-! added -/
def S8 (x : SX8) (E : SX0) (N : SX3) : SX8 := w_trial_s (w_equations_s x E) N
def TN (N : SX3) (P W : Nat) (w : Nat → Wy) : Prop := n_points N = nI P ∧ n_ways N = nI (W + 1) ∧ ∀ k, k < W → NWat N k (w k)
def TY (x : SX8) (y : SX9) (P W : Nat) (w : Nat → Wy) : Prop := Rel x y ∧ ME y P W w ∧ m_all y = nI (W + 1) ∧ m_there y = nI (2 ^ (W + 1) - 1) ∧ m_kind y W = 0 ∧ m_figure y W = 0 ∧ m_load y W = 1 ∧ m_length y W = 1
theorem GV_add {P W : Nat} {w : Nat → Wy} (hV : NV P W w) {p q : Nat} (hp : p < P) (hq : q < P) (hpq : p ≠ q) : GV P (W + 1) (va_up w W (p, q, 0, 0, 1, 1)) := by
  have hW := hV.2.2.1
  refine ⟨hV.1, hV.2.1, by omega, fun k hk => ?_⟩
  by_cases e : k = W
  · subst e
    rw [vaup_s]
    exact ⟨hp, hq, hpq, (show (0 : Nat) ≤ 5 by decide), (show (0 : Nat) ≤ 9 by decide), (show (1 : Nat) ≤ 1 by decide), (show (1 : Nat) ≤ 9 by decide), (show (1 : Nat) ≤ 1 by decide), (show (1 : Nat) ≤ 9 by decide)⟩
  · rw [vaup_n e]
    exact hV.2.2.2 k (by omega)
theorem sN_up {w : Nat → Wy} {v : Wy} {W : Nat} (f : (Nat → Wy) → Nat → Nat) (hf : ∀ w w' k, w k = w' k → f w k = f w' k) : ∀ n, n ≤ W → sN n (f (va_up w W v)) = sN n (f w) := by
  intro n
  induction n with
  | zero => intro _; rfl
  | succ n ih =>
    intro hn
    show sN n (f (va_up w W v)) + f (va_up w W v) n = sN n (f w) + f w n
    rw [ih (by omega), hf (va_up w W v) w n (vaup_n (by omega))]
theorem Bd_add {P W : Nat} {w : Nat → Wy} (hV : NV P W w) (p q : Nat) : Bd (W + 1) (va_up w W (p, q, 0, 0, 1, 1)) := by
  have hW := hV.2.2.1
  have hb := Bd_n hV.g W (Nat.le_refl W)
  have e1 := sN_up (w := w) (v := (p, q, 0, 0, 1, 1)) (W := W) (fun w k => fS w k) (fun w w' k h => by show wtw (w k) = wtw (w' k); rw [h]) W (Nat.le_refl W)
  have e2 := sN_up (w := w) (v := (p, q, 0, 0, 1, 1)) (W := W) (fun w k => fT w k) (fun w w' k h => by show wtw (w k) * miw (w k) = wtw (w' k) * miw (w' k); rw [h]) W (Nat.le_refl W)
  have s1 : fS (va_up w W (p, q, 0, 0, 1, 1)) W = 1 := by
    show wtw (va_up w W (p, q, 0, 0, 1, 1) W) = 1
    rw [vaup_s]
    rfl
  have s2 : fT (va_up w W (p, q, 0, 0, 1, 1)) W = 1 := by
    show wtw (va_up w W (p, q, 0, 0, 1, 1) W) * miw (va_up w W (p, q, 0, 0, 1, 1) W) = 1
    rw [vaup_s]
    rfl
  have e1' : sN W (fS (va_up w W (p, q, 0, 0, 1, 1))) = sN W (fS w) := e1
  have e2' : sN W (fT (va_up w W (p, q, 0, 0, 1, 1))) = sN W (fT w) := e2
  unfold Bd
  show sN W (fS (va_up w W (p, q, 0, 0, 1, 1))) + fS (va_up w W (p, q, 0, 0, 1, 1)) W ≤ 181 ∧ (sN W (fT (va_up w W (p, q, 0, 0, 1, 1))) + fT (va_up w W (p, q, 0, 0, 1, 1)) W) + 8 * (sN W (fS (va_up w W (p, q, 0, 0, 1, 1))) + fS (va_up w W (p, q, 0, 0, 1, 1)) W) ≤ 2349
  rw [s1, s2, e1', e2']
  constructor <;> omega
theorem TN_lay {N : SX3} {P W : Nat} {w : Nat → Wy} (hW : W ≤ 10) (h : TN N P W w) (p q : Nat) : ∃ N', fX3_lay N (nI W) (nI p) (nI q) 1 1 = some N' ∧ TN N' P W w ∧ NE N' P (W + 1) (va_up w W (p, q, 0, 0, 1, 1)) := by
  obtain ⟨N', e1, e2, e3, e4, e5⟩ := lay8 (N := N) (k := W) (a := p) (b := q) (l := 1) (t := 1) (by omega)
  refine ⟨N', e1, ⟨e2.trans h.1, e3.trans h.2.1, fun k hk => e5 k _ (by omega) (h.2.2 k hk)⟩, ⟨e2.trans h.1, e3.trans h.2.1, fun k hk => ?_⟩⟩
  by_cases e : k = W
  · subst e
    rw [vaup_s]
    exact e4
  · rw [vaup_n e]
    exact e5 k _ e (h.2.2 k (by omega))
theorem TY_lay {x : SX8} {y : SX9} {P W : Nat} {w : Nat → Wy} (hV : NV P W w) (hN : NE (w_net x) P W w) (h : TY x y P W w) (p q : Nat) : ∃ y', y' = m_second_s (m_first_s y (upd (m_first y) W (nI p))) (upd (m_second y) W (nI q)) ∧ TY x y' P W w ∧ MA y' P (W + 1) (2 ^ (W + 1) - 1) (va_up w W (p, q, 0, 0, 1, 1)) := by
  obtain ⟨hR, hM, h1, h2, h3, h4, h5, h6⟩ := h
  have hM' : ME (m_second_s (m_first_s y (upd (m_first y) W (nI p))) (upd (m_second y) W (nI q))) P W w := ⟨hM.1, hM.2.1, fun k hk => by
    obtain ⟨a1, a2, a3, a4, a5, a6⟩ := hM.2.2 k hk
    exact ⟨(upd_n (by omega)).trans a1, (upd_n (by omega)).trans a2, a3, a4, a5, a6⟩⟩
  refine ⟨_, rfl, ⟨⟨⟨P, W, w, hV, hN, hM'⟩, hR.2⟩, hM', h1, h2, h3, h4, h5, h6⟩, ⟨hM.1, h1, h2, fun k hk => ?_⟩⟩
  by_cases e : k = W
  · subst e
    rw [vaup_s]
    exact ⟨upd_s (α := Nat), upd_s (α := Nat), h3, h4, h5, h6⟩
  · rw [vaup_n e]
    exact hM'.2.2 k (by omega)
theorem Kp_ty {x : SX8} {y y' : SX9} {P W : Nat} {w : Nat → Wy} (k : Kp y y') (h : TY x y P W w) : TY x y' P W w := by
  have hr := k.rel h.1
  have hm := k.me h.2.1
  obtain ⟨a, n, mx, rg, ds, u, d, rfl⟩ := k
  exact ⟨hr, hm, h.2.2.1, h.2.2.2.1, h.2.2.2.2.1, h.2.2.2.2.2.1, h.2.2.2.2.2.2.1, h.2.2.2.2.2.2.2⟩
/-- what the two searches hold -/
def AI (f : Int32) (u8 d8 u9 d9 : Int64) : Prop := (f = 0 ∨ f = 1) ∧ (f = 1 → u8 = u9 ∧ d8 = d9 ∧ d8 ≠ 0)
theorem add_in {x : SX8} {P W : Nat} {w : Nat → Wy} (hV : NV P W w) (hN : NE (w_net x) P W w) {a b : Nat} (ha : a < P) (hb : b < P) (hab : a ≠ b) {p : Nat} (hp : p < P) (k103 : SX8 → Int32 → Int64 → Int64 → Int32 → Int32 → Int32 → Option (Int32 × SX8)) (k120 : SX9 → Int32 → Int64 → Int64 → Int32 → Int32 → Option (Int32 × SX9)) : ∀ (d fu q : Nat) (f : Int32) (u8 d8 u9 d9 : Int64) (best : Int32) (E : SX0) (N : SX3) (y : SX9), q + d = P → p < q → d < fu → AI f u8 d8 u9 d9 → TN N P W w → TY x y P W w → ∃ f' u8' d8' u9' d9' best' E' N' y', AI f' u8' d8' u9' d9' ∧ TN N' P W w ∧ TY x y' P W w ∧ qX8_added_121 (nI a) (nI b) k103 fu (S8 x E N) f u8 d8 best (nI W) (nI p) (nI q) = k103 (S8 x E' N') f' u8' d8' best' (nI W) (nI (p + 1)) ∧ qX9_added_135 (nI a) (nI b) k120 fu y f u9 d9 best (nI p) (nI q) = k120 y' f' u9' d9' best' (nI (p + 1)) := by
  have hW := hV.2.2.1
  have hP := hV.2.1
  have n1 : ¬ (1 : Int32) = 0 := by decide
  intro d
  induction d with
  | zero =>
    intro fu q f u8 d8 u9 d9 best E N y h1 h2 h3 hA hT hY
    match fu, h3 with
    | fu + 1, _ =>
      have hq : q = P := by omega
      subst hq
      refine ⟨f, u8, d8, u9, d9, best, E, N, y, hA, hT, hY, ?_, ?_⟩
      · rw [qX8_added_121, show n_points (w_net (S8 x E N)) = nI q from hN.1, if_pos (nI_le (Nat.le_refl q) (by omega)), ltt_e, nI_1]
      · rw [qX9_added_135, hY.2.1.1, if_pos (nI_le (Nat.le_refl q) (by omega)), ltt_e, nI_1]
  | succ d ih =>
    intro fu q f u8 d8 u9 d9 best E N y h1 h2 h3 hA hT hY
    match fu, h3 with
    | fu + 1, h3 =>
      have hq : q < P := by omega
      have hne : ¬ nI P ≤ nI q := nI_ge (by omega) (by omega)
      have hGV := GV_add hV hp hq (show p ≠ q by omega)
      have hBd := Bd_add hV p q
      obtain ⟨N1, l1, l2, l3⟩ := TN_lay hW hT p q
      obtain ⟨y1, hy1, m2, m3⟩ := TY_lay hV hN hY p q
      have hone : 2 ^ (W + 1) - 1 < 2 ^ 31 := ones_lt (by omega)
      obtain ⟨y2, k1, k2, k3⟩ := find9T hGV m3 hone ha hb
      have hY2 := Kp_ty k1 m2
      generalize va_up w W (p, q, 0, 0, 1, 1) = w' at *
      have b8 : ∀ fu, qX8_added_121 (nI a) (nI b) k103 (fu + 1) (S8 x E N) f u8 d8 best (nI W) (nI p) (nI q) = if (Rch (2 ^ (W + 1) - 1) w' (W + 1) (2 ^ b)).testBit a = true then (fX0_timesTo E N1 (nI (2 ^ (W + 1) - 1)) (nI b)).bind fun o14 => (if f = (0 : Int32) then qX8_added_224 (nI a) (nI b) (qX8_added_256 (nI a) (nI b) (qX8_added_121 (nI a) (nI b) k103 fu)) (S8 x o14 N1) (nI W) (nI p) (nI q) else (fX8_compare (eq_above o14 a) (eq_below o14) u8 d8).bind fun o15 => (if (0 : Int32) ≤ o15 then qX8_added_256 (nI a) (nI b) (qX8_added_121 (nI a) (nI b) k103 fu) (S8 x o14 N1) f u8 d8 best (nI W) (nI p) (nI q) else qX8_added_224 (nI a) (nI b) (qX8_added_256 (nI a) (nI b) (qX8_added_121 (nI a) (nI b) k103 fu)) (S8 x o14 N1) (nI W) (nI p) (nI q))) else qX8_added_121 (nI a) (nI b) k103 fu (S8 x E N1) f u8 d8 best (nI W) (nI p) (nI (q + 1)) := by
        intro fu
        rw [qX8_added_121, show n_points (w_net (S8 x E N)) = nI P from hN.1, if_neg hne, show w_trial (S8 x E N) = N from rfl, l1, bind_s, ltt_e, show w_trial_s (S8 x E N) N1 = S8 x E N1 from rfl, show w_trial (S8 x E N1) = N1 from rfl, allWays8 (by omega) l3, bind_s, fin_sh1 a (by omega), reached8 hGV l3 hone (two_lt ha), bind_s, has8 (lt31 hP (Rch_lt hGV (two_lt ha))) (by omega), bind_s, Rch_symb hGV ha hb]
        by_cases hr : (Rch (2 ^ (W + 1) - 1) w' (W + 1) (2 ^ b)).testBit a = true
        · rw [if_pos hr, if_pos hr, if_neg n1, bind_s]
          show (fX0_timesTo E N1 (nI (2 ^ (W + 1) - 1)) (nI b)).bind _ = _
          congr 1
          funext o14
          rw [ltt_e, ga_ok (by omega) (by decide)]
          rfl
        · rw [if_neg hr, if_neg hr, if_pos rfl]
          unfold qX8_added_256
          rw [ltt_e, nI_1]
      have b9 : ∀ fu, qX9_added_135 (nI a) (nI b) k120 (fu + 1) y f u9 d9 best (nI p) (nI q) = if (Rch (2 ^ (W + 1) - 1) w' (W + 1) (2 ^ b)).testBit a = true then (if f = (0 : Int32) then qX9_added_135 (nI a) (nI b) k120 fu y2 1 (m_up y2) (m_down y2) (nI (10 * p + q)) (nI p) (nI (q + 1)) else (fX9_isLess (m_up y2) (m_down y2) u9 d9).bind fun o7 => (if o7 = (0 : Int32) then qX9_added_135 (nI a) (nI b) k120 fu y2 f u9 d9 best (nI p) (nI (q + 1)) else qX9_added_135 (nI a) (nI b) k120 fu y2 1 (m_up y2) (m_down y2) (nI (10 * p + q)) (nI p) (nI (q + 1)))) else qX9_added_135 (nI a) (nI b) k120 fu y2 f u9 d9 best (nI p) (nI (q + 1)) := by
        intro fu
        rw [qX9_added_135, hY.2.1.1, if_neg hne, hY.2.1.2.1, ga_ok (by omega) (by decide), ltt_e, show m_many (m_first_s y (upd (m_first y) W (nI p))) = nI W from hY.2.1.2.1, ga_ok (by omega) (by decide), ltt_e, show m_second (m_first_s y (upd (m_first y) W (nI p))) = m_second y from rfl, ← hy1, k2, bind_s]
        have e10 : (10 : Int32) * nI p + nI q = nI (10 * p + q) := by rw [show (10 : Int32) = nI 10 from rfl, pk_mul, nI_add]
        unfold qX9_added_201 qX9_added_225
        rw [e10]
        by_cases hr : (Rch (2 ^ (W + 1) - 1) w' (W + 1) (2 ^ b)).testBit a = true
        · rw [if_pos hr, if_pos hr, if_neg n1]
          simp only [ltt, nI_1]
        · rw [if_neg hr, if_neg hr, if_pos rfl]
          simp only [ltt, nI_1]
      rw [b8, b9]
      by_cases hr : (Rch (2 ^ (W + 1) - 1) w' (W + 1) (2 ^ b)).testBit a = true
      · rw [if_pos hr, if_pos hr]
        obtain ⟨E1, q1, q2, q3⟩ := times8T hGV l3 hBd hone hb E
        obtain ⟨v1, v2⟩ := k3 hr
        rw [if_neg hab] at v2
        have hup : eq_above E1 a = m_up y2 := by rw [q3 a ha hr, v1]
        have hdn : eq_below E1 = m_down y2 := by rw [q2, v2]
        have hd0 : m_down y2 ≠ 0 := by rw [v2]; exact bD_ne hGV hBd hb
        rw [q1, bind_s]
        have t224 : qX8_added_224 (nI a) (nI b) (qX8_added_256 (nI a) (nI b) (qX8_added_121 (nI a) (nI b) k103 fu)) (S8 x E1 N1) (nI W) (nI p) (nI q) = qX8_added_121 (nI a) (nI b) k103 fu (S8 x E1 N1) 1 (m_up y2) (m_down y2) (nI (10 * p + q)) (nI W) (nI p) (nI (q + 1)) := by
          have e10 : (10 : Int32) * nI p + nI q = nI (10 * p + q) := by rw [show (10 : Int32) = nI 10 from rfl, pk_mul, nI_add]
          unfold qX8_added_224 qX8_added_256
          rw [ga_ok (by omega) (by decide), ltt_e, ltt_e, ltt_e, ltt_e, nI_1, e10, show eq_above (w_equations (S8 x E1 N1)) a = eq_above E1 a from rfl, show eq_below (w_equations (S8 x E1 N1)) = eq_below E1 from rfl, hup, hdn]
        have t256 : qX8_added_256 (nI a) (nI b) (qX8_added_121 (nI a) (nI b) k103 fu) (S8 x E1 N1) f u8 d8 best (nI W) (nI p) (nI q) = qX8_added_121 (nI a) (nI b) k103 fu (S8 x E1 N1) f u8 d8 best (nI W) (nI p) (nI (q + 1)) := by
          unfold qX8_added_256
          rw [ltt_e, nI_1]
        rw [t224, t256, hup, hdn]
        have hAn : AI 1 (m_up y2) (m_down y2) (m_up y2) (m_down y2) := ⟨Or.inr rfl, fun _ => ⟨rfl, rfl, hd0⟩⟩
        by_cases hf : f = 0
        · rw [if_pos hf, if_pos hf]
          exact ih fu (q + 1) 1 _ _ _ _ _ E1 N1 y2 (by omega) (by omega) (by omega) hAn l2 hY2
        · rw [if_neg hf, if_neg hf]
          have hf1 : f = 1 := hA.1.resolve_left hf
          obtain ⟨c1, c2, c3⟩ := hA.2 hf1
          obtain ⟨r, r1, r2, r3⟩ := comp8 (a := m_up y2) (b := m_down y2) (c := u8) (d := d8) hd0 c3
          rw [r1, bind_s]
          rw [← c1, ← c2]
          rcases less9 (a := m_up y2) (b := m_down y2) (c := u8) (d := d8) hd0 c3 with ⟨s1, s2⟩ | ⟨s1, s2⟩
          · rw [s1, bind_s, if_neg n1, if_neg (fun z => (r3.mp z) s2)]
            exact ih fu (q + 1) 1 _ _ _ _ _ E1 N1 y2 (by omega) (by omega) (by omega) hAn l2 hY2
          · rw [s1, bind_s, if_pos rfl, if_pos (r3.mpr s2)]
            exact ih fu (q + 1) f u8 d8 u8 d8 best E1 N1 y2 (by omega) (by omega) (by omega) ⟨hA.1, fun _ => ⟨rfl, rfl, c3⟩⟩ l2 hY2
      · rw [if_neg hr, if_neg hr]
        exact ih fu (q + 1) f u8 d8 u9 d9 best E N1 y2 (by omega) (by omega) (by omega) hA l2 hY2
theorem add_out {x : SX8} {P W : Nat} {w : Nat → Wy} (hV : NV P W w) (hN : NE (w_net x) P W w) {a b : Nat} (ha : a < P) (hb : b < P) (hab : a ≠ b) : ∀ (d fu p : Nat) (f : Int32) (u8 d8 u9 d9 : Int64) (best : Int32) (E : SX0) (N : SX3) (y : SX9), p + d = P → d < fu → AI f u8 d8 u9 d9 → TN N P W w → TY x y P W w → ∃ best' E' N' y', TY x y' P W w ∧ qX8_added_103 (nI a) (nI b) fu (S8 x E N) f u8 d8 best (nI W) (nI p) = some (best', S8 x E' N') ∧ qX9_added_120 (nI a) (nI b) fu y f u9 d9 best (nI p) = some (best', y') := by
  have hP := hV.2.1
  intro d
  induction d with
  | zero =>
    intro fu p f u8 d8 u9 d9 best E N y h1 h3 hA hT hY
    match fu, h3 with
    | fu + 1, _ =>
      have hp : p = P := by omega
      subst hp
      refine ⟨best, E, N, y, hY, ?_, ?_⟩
      · rw [qX8_added_103, show n_points (w_net (S8 x E N)) = nI p from hN.1, if_pos (nI_le (Nat.le_refl p) (by omega))]
      · rw [qX9_added_120, hY.2.1.1, if_pos (nI_le (Nat.le_refl p) (by omega))]
  | succ d ih =>
    intro fu p f u8 d8 u9 d9 best E N y h1 h3 hA hT hY
    match fu, h3 with
    | fu + 1, h3 =>
      obtain ⟨f', u8', d8', u9', d9', best', E', N', y', a1, a2, a3, a4, a5⟩ := add_in hV hN ha hb hab (show p < P by omega) (qX8_added_103 (nI a) (nI b) fu) (qX9_added_120 (nI a) (nI b) fu) (P - (p + 1)) FU (p + 1) f u8 d8 u9 d9 best E N y (by omega) (by omega) (by unfold FU; omega) hA hT hY
      obtain ⟨best2, E2, N2, y2, b1, b2, b3⟩ := ih fu (p + 1) f' u8' d8' u9' d9' best' E' N' y' (by omega) (by omega) a1 a2 a3
      refine ⟨best2, E2, N2, y2, b1, ?_, ?_⟩
      · rw [qX8_added_103, show n_points (w_net (S8 x E N)) = nI P from hN.1, if_neg (nI_ge (by omega) (by omega)), nI_1, ltt_e, a4, b2]
      · rw [qX9_added_120, hY.2.1.1, if_neg (nI_ge (by omega) (by omega)), nI_1, ltt_e, a5, b3]
theorem op_added {x : SX8} {y : SX9} (h : Rel x y) (a b : Int32) : OpI (fX8_added x a b) (fX9_added y a b) := by
  have n1 : ¬ (1 : Int32) = 0 := by decide
  obtain ⟨P, W, w, hV, hN, hM⟩ := h.1
  have hW := hV.2.2.1
  have hP := hV.2.1
  unfold fX8_added fX9_added qX9_added_21
  rw [areTwo8 hP hN, bind_s]
  by_cases hq : (0 ≤ a.toInt ∧ a.toInt < P) ∧ (0 ≤ b.toInt ∧ b.toInt < P) ∧ a ≠ b
  · obtain ⟨ha, hb, hab⟩ := hq
    rw [if_pos (show (0 ≤ a.toInt ∧ a.toInt < P) ∧ (0 ≤ b.toInt ∧ b.toInt < P) ∧ a ≠ b from ⟨ha, hb, hab⟩), if_neg n1, isPoint9 hM.1 (by omega), if_pos ha, bind_s, if_neg n1, isPoint9 hM.1 (by omega), if_pos hb, bind_s, if_neg n1, if_neg hab]
    obtain ⟨p, hp, rfl⟩ := isPt ha
    obtain ⟨q, hq, rfl⟩ := isPt hb
    have hpq : p ≠ q := fun e => hab (by rw [e])
    have hone := ones_lt (show W ≤ 11 by omega)
    obtain ⟨E1, q1, q2, q3⟩ := times8T hV.g hN hV.bd hone hq (w_equations x)
    obtain ⟨N1, c1, c2⟩ := copy8 (N := w_trial x) hW hN
    obtain ⟨y1, k1, k2, k3⟩ := find9T hV.g (at9_MA hM (2 ^ W - 1)) hone hp hq
    have hR1 := k1.rel (at9_rel h (nI W) (nI (2 ^ W - 1)))
    have hM1 : ME y1 P W w := k1.me (show ME (at9 y (nI W) (nI (2 ^ W - 1))) P W w from hM)
    have hmore := more8 c2.2.1 hW
    have hTN : TN (n_ways_s N1 (nI (W + 1))) P W w := ⟨c2.1, rfl, c2.2.2⟩
    obtain ⟨y2, hy2⟩ : ∃ z, z = at9 y1 (nI (W + 1)) (nI (2 ^ (W + 1) - 1)) := ⟨_, rfl⟩
    have hM2 : ME y2 P W w := by rw [hy2]; exact hM1
    have hR2 : Rel x y2 := by rw [hy2]; exact at9_rel hR1 _ _
    have hal : m_all y2 = nI (W + 1) := by rw [hy2]; rfl
    have hth : m_there y2 = nI (2 ^ (W + 1) - 1) := by rw [hy2]; rfl
    obtain ⟨y3, hy3⟩ : ∃ z, z = m_length_s (m_load_s (m_figure_s (m_kind_s y2 (upd (m_kind y2) W 0)) (upd (m_figure y2) W 0)) (upd (m_load y2) W 1)) (upd (m_length y2) W 1) := ⟨_, rfl⟩
    have hM3 : ME y3 P W w := by
      rw [hy3]
      exact ⟨hM2.1, hM2.2.1, fun k hk => by
        obtain ⟨a1, a2, a3, a4, a5, a6⟩ := hM2.2.2 k hk
        exact ⟨a1, a2, (upd_n (by omega)).trans a3, (upd_n (by omega)).trans a4, (upd_n (by omega)).trans a5, (upd_n (by omega)).trans a6⟩⟩
    have hTY : TY x y3 P W w := by
      refine ⟨?_, hM3, ?_, ?_, ?_, ?_, ?_, ?_⟩
      · rw [hy3] at hM3 ⊢
        exact ⟨⟨P, W, w, hV, hN, hM3⟩, hR2.2⟩
      · rw [hy3]; exact hal
      · rw [hy3]; exact hth
      · rw [hy3]; exact upd_s (α := Nat)
      · rw [hy3]; exact upd_s (α := Nat)
      · rw [hy3]; exact upd_s (α := Nat)
      · rw [hy3]; exact upd_s (α := Nat)
    have hAI : AI (if (Rch (2 ^ W - 1) w W (2 ^ q)).testBit p = true then 1 else 0) (eq_above E1 p) (eq_below E1) (m_up y1) (m_down y1) := by
      by_cases hr : (Rch (2 ^ W - 1) w W (2 ^ q)).testBit p = true
      · obtain ⟨v1, v2⟩ := k3 hr
        rw [if_neg hpq] at v2
        refine ⟨by rw [if_pos hr]; exact Or.inr rfl, fun _ => ⟨by rw [q3 p hp hr, v1], by rw [q2, v2], by rw [q2]; exact bD_ne hV.g hV.bd hq⟩⟩
      · refine ⟨by rw [if_neg hr]; exact Or.inl rfl, fun z => ?_⟩
        rw [if_neg hr] at z
        exact absurd z (by decide)
    obtain ⟨best, E', N', y', r1, r2, r3⟩ := add_out hV hN hp hq hpq P FU 0 _ _ _ _ _ (-9) E1 _ y3 (by omega) (by unfold FU; omega) hAI hTN hTY
    refine ⟨best, S8 x E' N', y', ?_, ?_, ?_⟩
    · rw [allWays8 (by omega) hN, bind_s, fin_sh1 p (by omega), reached8 hV.g hN hone (two_lt hp), bind_s, has8 (lt31 hP (Rch_lt hV.g (two_lt hp))) (by omega), bind_s, bind_s, q1, bind_s, ltt_e, ga_ok (by omega) (by decide), ltt_e, ltt_e]
      show ((fX3_copy (w_trial x) (w_net x)).bind _) = _
      rw [c1, bind_s, ltt_e, show w_trial (w_trial_s (w_equations_s x E1) N1) = N1 from rfl, hmore, bind_s, ltt_e, Rch_symb hV.g hp hq, show (0 : Int32) = nI 0 from rfl]
      exact r2
    · rw [allThere9 (by omega) hM, bind_s, k2, bind_s, ltt_e, ltt_e, hM1.2.1, nI_1, ltt_e, ltt_e, show m_all (m_all_s y1 (nI (W + 1))) = nI (W + 1) from rfl, fin_shm (W + 1) (by omega), ltt_e, ltt_e, show m_there_s (m_all_s y1 (nI (W + 1))) (nI (2 ^ (W + 1) - 1)) = y2 from hy2.symm]
      rw [hM2.2.1, ga_ok (by omega) (by decide), ltt_e, show m_many (m_kind_s y2 (upd (m_kind y2) W 0)) = nI W from hM2.2.1, ga_ok (by omega) (by decide), ltt_e]
      rw [show m_many (m_figure_s (m_kind_s y2 (upd (m_kind y2) W 0)) (upd (m_figure (m_kind_s y2 (upd (m_kind y2) W 0))) W 0)) = nI W from hM2.2.1, ga_ok (by omega) (by decide), ltt_e]
      rw [show m_many (m_load_s (m_figure_s (m_kind_s y2 (upd (m_kind y2) W 0)) (upd (m_figure (m_kind_s y2 (upd (m_kind y2) W 0))) W 0)) (upd (m_load (m_figure_s (m_kind_s y2 (upd (m_kind y2) W 0)) (upd (m_figure (m_kind_s y2 (upd (m_kind y2) W 0))) W 0))) W 1)) = nI W from hM2.2.1, ga_ok (by omega) (by decide), ltt_e]
      rw [show m_length_s (m_load_s (m_figure_s (m_kind_s y2 (upd (m_kind y2) W 0)) (upd (m_figure (m_kind_s y2 (upd (m_kind y2) W 0))) W 0)) (upd (m_load (m_figure_s (m_kind_s y2 (upd (m_kind y2) W 0)) (upd (m_figure (m_kind_s y2 (upd (m_kind y2) W 0))) W 0))) W 1)) (upd (m_length (m_load_s (m_figure_s (m_kind_s y2 (upd (m_kind y2) W 0)) (upd (m_figure (m_kind_s y2 (upd (m_kind y2) W 0))) W 0)) (upd (m_load (m_figure_s (m_kind_s y2 (upd (m_kind y2) W 0)) (upd (m_figure (m_kind_s y2 (upd (m_kind y2) W 0))) W 0))) W 1))) W 1) = y3 from hy3.symm]
      rw [show (0 : Int32) = nI 0 from rfl]
      exact r3
    · have hr := r1.1
      exact ⟨hr.1, hr.2.1, hr.2.2.1, hr.2.2.2.1, hr.2.2.2.2.1, hr.2.2.2.2.2.1, hr.2.2.2.2.2.2.1, hr.2.2.2.2.2.2.2⟩
  · rw [if_neg hq, if_pos rfl]
    refine opI_no h (c := -1) (by decide) (bind_id _) ?_
    rw [isPoint9 hM.1 (by omega), bind_s]
    by_cases ha : 0 ≤ a.toInt ∧ a.toInt < P
    · rw [if_pos ha, if_neg n1, isPoint9 hM.1 (by omega), bind_s]
      by_cases hb : 0 ≤ b.toInt ∧ b.toInt < P
      · rw [if_pos hb, if_neg n1, if_pos (Classical.byContradiction fun z => hq ⟨ha, hb, z⟩)]
        exact bind_id _
      · rw [if_neg hb, if_pos rfl]
        exact bind_id _
    · rw [if_neg ha, if_pos rfl]
      exact bind_id _
