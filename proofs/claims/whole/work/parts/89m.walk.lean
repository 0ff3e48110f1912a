/-! walks by steps: sizes of the doubles on the way -/
def Gd (L n K : Nat) (v : UInt64) : Prop := Nn v ∧ zm v ≤ n * 2 ^ K ∧ (zm v = 0 ∨ 2 ^ L ≤ zm v)
theorem Rd_0 {r : UInt64} {X Y : Nat} (h : Rd r X Y) (h0 : X = 0) : Nn r ∧ zm r = 0 := by
  obtain ⟨h1, h2⟩ := h.1 0 0 (by decide) (by decide) (by omega)
  exact ⟨h1, by omega⟩
theorem Rd_up {r : UInt64} {X Y n K : Nat} (h : Rd r X Y) (hn : n < 2 ^ 53) (hK : K ≤ 2045) (h0 : X ≤ n * 2 ^ K * Y) : Nn r ∧ zm r ≤ n * 2 ^ K := h.1 n K hn hK h0
theorem Rd_dn {r : UInt64} {X Y L : Nat} (h : Rd r X Y) (hL : L ≤ 2045) (h0 : 2 ^ L * Y ≤ X) : 2 ^ L ≤ zm r := by
  have := h.2 1 L (by decide) hL (by rw [Nat.one_mul]; exact h0)
  rw [Nat.one_mul] at this
  exact this
theorem Gd_mono {L n K L' n' K' : Nat} {v : UInt64} (h : Gd L n K v) (h1 : L' ≤ L) (h2 : n * 2 ^ K ≤ n' * 2 ^ K') : Gd L' n' K' v := by
  refine ⟨h.1, Nat.le_trans h.2.1 h2, ?_⟩
  rcases h.2.2 with z | z
  · exact Or.inl z
  · exact Or.inr (Nat.le_trans (Nat.pow_le_pow_right (by decide) h1) z)
theorem Nn_0 : Nn (0 : UInt64) := Nn_of (by decide)
theorem zm_0 : zm (0 : UInt64) = 0 := by
  rw [zm_u Nn_0]
  rfl
theorem Gd_0 (L n K : Nat) : Gd L n K (0 : UInt64) := ⟨Nn_0, by rw [zm_0]; exact Nat.zero_le _, Or.inl zm_0⟩
def cb (v : UInt64) (w t : Nat) : UInt64 := FP.ddiv (FP.dmul v (FP.i2d (nI w))) (FP.i2d (nI t))
theorem cb_ok {L K : Nat} {v : UInt64} {w t : Nat} (hv : Gd L 1 K v) (hw : 1 ≤ w ∧ w ≤ 18) (ht : 1 ≤ t ∧ t < 256) (hL : 8 ≤ L) (hL2 : L ≤ 2045) (hK : K ≤ 2045) : Nn (FP.dmul v (FP.i2d (nI w))) ∧ Gd (L - 8) 18 K (cb v w t) := by
  obtain ⟨w1, w2⟩ := i2d_b hw.1 (nI_toInt (show w < 2 ^ 31 by omega))
  obtain ⟨t1, t2⟩ := i2d_b ht.1 (nI_toInt (show t < 2 ^ 31 by omega))
  have ha := dmul_b hv.1 w1
  rw [w2] at ha
  unfold cb
  generalize FP.dmul v (FP.i2d (nI w)) = a at *
  obtain ⟨a1, a2⟩ := Rd_up ha (n := w) (K := K) (by omega) hK (by
    have h1 := hv.2.1
    rw [Nat.one_mul] at h1
    rw [← Nat.mul_assoc]
    refine Nat.mul_le_mul_right _ ?_
    rw [Nat.mul_comm w]
    exact Nat.mul_le_mul_right _ h1)
  have hc := ddiv_b a1 t1 ht.1 t2
  obtain ⟨c1, c2⟩ := Rd_up hc (n := w) (K := K) (by omega) hK (Nat.le_trans a2 (Nat.le_mul_of_pos_right _ ht.1))
  refine ⟨a1, c1, Nat.le_trans c2 (Nat.mul_le_mul_right _ hw.2), ?_⟩
  rcases hv.2.2 with z | z
  · have a0 := (Rd_0 ha (by rw [z, Nat.zero_mul])).2
    exact Or.inl (Rd_0 hc a0).2
  · have a3 := Rd_dn ha (L := L) hL2 (by
      rw [← Nat.mul_assoc]
      exact Nat.mul_le_mul_right _ (Nat.le_trans z (Nat.le_mul_of_pos_right _ hw.1)))
    refine Or.inr (Rd_dn hc (by omega) (Nat.le_trans ?_ a3))
    have e : 2 ^ (L - 8) * 2 ^ 8 = 2 ^ L := p2 (by omega)
    rw [← e]
    exact Nat.mul_le_mul_left _ (by omega)
theorem Gd_add {L n m K : Nat} {g c : UInt64} (hg : Gd L n K g) (hc : Gd L m K c) (hn : n + m < 2 ^ 53) (hL2 : L ≤ 2045) (hK : K ≤ 2045) : Gd L (n + m) K (FP.dadd g c) := by
  have ha := dadd_b hg.1 hc.1
  obtain ⟨a1, a2⟩ := Rd_up ha (n := n + m) (K := K) hn hK (by
    rw [Nat.mul_one, Nat.add_mul]
    exact Nat.add_le_add hg.2.1 hc.2.1)
  refine ⟨a1, a2, ?_⟩
  have hg3 := hg.2.2
  have hc3 := hc.2.2
  by_cases h0 : zm g = 0 ∧ zm c = 0
  · exact Or.inl (Rd_0 ha (by omega)).2
  · refine Or.inr (Rd_dn ha hL2 ?_)
    rw [Nat.mul_one]
    rcases hg3 with z | z
    · rcases hc3 with z2 | z2
      · exact absurd ⟨z, z2⟩ h0
      · exact Nat.le_trans z2 (Nat.le_add_left _ _)
    · exact Nat.le_trans z (Nat.le_add_right _ _)
theorem add_0 {L n K : Nat} {v : UInt64} (h : Gd L n K v) : FP.dadd 0 v = v := by
  have h1 := Nn_ne h.1
  have h2 := Nn_lt h.1
  have e : FP.dadd v (0 : UInt64) = v := FP.Core.dadd_zero h1 (by
    intro z
    rw [z] at h2
    revert h2
    decide)
  have e2 : FP.dadd 0 v = FP.dadd v 0 := FP.Core.dadd_comm _ _
  rw [e2, e]
theorem vu_s {f : Nat → UInt64} {k : Nat} {v : UInt64} : vf_upd f k v k = v := by unfold vf_upd; rw [if_pos rfl]
theorem vu_n {f : Nat → UInt64} {k j : Nat} {v : UInt64} (h : j ≠ k) : vf_upd f k v j = f j := by unfold vf_upd; rw [if_neg h]
def dn9 (y : SX9) (F G : Nat → UInt64) : SX9 := m_then_s (m_now_s y F) G
theorem dn9_then (y : SX9) (F G G' : Nat → UInt64) : m_then_s (dn9 y F G) G' = dn9 y F G' := by
  obtain ⟨a1, a2, a3, a4, a5, a6, a7, a8, a9, a10, a11, a12, a13, a14, a15, a16, a17, a18, a19, a20, a21, a22, a23, a24, a25, a26, a27, a28, a29, a30, a31, a32, a33, a34, a35, a36, a37, a38, a39, a40, a41, a42, a43, a44, a45, a46, a47, a48⟩ := y
  exact (show _ = ((a1, a2, a3, a4, a5, a6, a7, a8, a9, a10, a11, a12, a13, a14, a15, a16, a17, a18, a19, a20, a21, a22, a23, a24, a25, a26, a27, a28, a29, a30, F, G', a33, a34, a35, a36, a37, a38, a39, a40, a41, a42, a43, a44, a45, a46, a47, a48) : SX9) from rfl).trans rfl
theorem dn9_now (y : SX9) (F G F' : Nat → UInt64) : m_now_s (dn9 y F G) F' = dn9 y F' G := by
  obtain ⟨a1, a2, a3, a4, a5, a6, a7, a8, a9, a10, a11, a12, a13, a14, a15, a16, a17, a18, a19, a20, a21, a22, a23, a24, a25, a26, a27, a28, a29, a30, a31, a32, a33, a34, a35, a36, a37, a38, a39, a40, a41, a42, a43, a44, a45, a46, a47, a48⟩ := y
  exact (show _ = ((a1, a2, a3, a4, a5, a6, a7, a8, a9, a10, a11, a12, a13, a14, a15, a16, a17, a18, a19, a20, a21, a22, a23, a24, a25, a26, a27, a28, a29, a30, F', G, a33, a34, a35, a36, a37, a38, a39, a40, a41, a42, a43, a44, a45, a46, a47, a48) : SX9) from rfl).trans rfl
theorem dn9_id (y : SX9) : y = dn9 y (m_now y) (m_then y) := by
  obtain ⟨a1, a2, a3, a4, a5, a6, a7, a8, a9, a10, a11, a12, a13, a14, a15, a16, a17, a18, a19, a20, a21, a22, a23, a24, a25, a26, a27, a28, a29, a30, a31, a32, a33, a34, a35, a36, a37, a38, a39, a40, a41, a42, a43, a44, a45, a46, a47, a48⟩ := y
  rfl
theorem dn9_n (y : SX9) (F G : Nat → UInt64) : m_now (dn9 y F G) = F := rfl
theorem dn9_t (y : SX9) (F G : Nat → UInt64) : m_then (dn9 y F G) = G := rfl
theorem dn9_p (y : SX9) (F G : Nat → UInt64) : m_points (dn9 y F G) = m_points y := rfl
theorem dn9_m (y : SX9) (F G : Nat → UInt64) : m_many (dn9 y F G) = m_many y := rfl
theorem dn9_f (y : SX9) (F G : Nat → UInt64) : m_first (dn9 y F G) = m_first y := rfl
theorem dn9_s (y : SX9) (F G : Nat → UInt64) : m_second (dn9 y F G) = m_second y := rfl
theorem dn9_W {y : SX9} {k : Nat} {w : Wy} (h : MWat y k w) (F G : Nat → UInt64) : MWat (dn9 y F G) k w := h
theorem dn9_MA {y : SX9} {P A t : Nat} {w : Nat → Wy} (h : MA y P A t w) (F G : Nat → UInt64) : MA (dn9 y F G) P A t w := h
theorem dn9_rel {x : SX8} {y : SX9} (h : Rel x y) (F G : Nat → UInt64) : Rel x (dn9 y F G) := ⟨h.1, h.2.1, h.2.2.1, h.2.2.2.1, h.2.2.2.2.1, h.2.2.2.2.2.1, h.2.2.2.2.2.2.1, h.2.2.2.2.2.2.2⟩
theorem rel_spread {x : SX8} {y : SX9} (h : Rel x y) (S : SX6) : Rel (w_spread_s x S) y := ⟨h.1, h.2.1, h.2.2.1, h.2.2.2.1, h.2.2.2.2.1, h.2.2.2.2.2.1, h.2.2.2.2.2.2.1, h.2.2.2.2.2.2.2⟩
/-- the other end of way k from p -/
def oth (w : Nat → Wy) (k p : Nat) : Nat := if wF (w k) = p then wS (w k) else wF (w k)
theorem dg_pos {P A o k : Nat} {w : Nat → Wy} (hV : GV P A w) (hk : k < A) (h : wF (w k) = o ∨ wS (w k) = o) : 0 < dg (2 ^ A - 1) w o A := by
  have h1 := dg_mono (t := 2 ^ A - 1) (x := o) (w := w) (k + 1) (A - (k + 1))
  rw [show k + 1 + (A - (k + 1)) = A by omega] at h1
  have h2 := (wtw_b (hV.2.2.2 k hk)).1
  have hb : (2 ^ A - 1).testBit k = true := by rw [ones_bit, decide_eq_true (by omega)]
  have h3 : dg (2 ^ A - 1) w o (k + 1) = dg (2 ^ A - 1) w o k + wtw (w k) := by
    rw [dg, if_pos ⟨hb, h⟩]
  omega
theorem oth_end {w : Nat → Wy} {k p : Nat} (h : wF (w k) = p ∨ wS (w k) = p) : wF (w k) = oth w k p ∨ wS (w k) = oth w k p := by
  unfold oth
  split
  · exact Or.inr rfl
  · exact Or.inl rfl
theorem go9_213 {y : SX9} {P A : Nat} {w : Nat → Wy} (hV : GV P A w) (hM : ME y P A w) {p i t : Nat} (hp : p < P) (hi : i < A) (ht : wF (w i) = p ∨ wS (w i) = p) (F G : Nat → UInt64) {c : UInt64} (hc : c = cb (F p) (wtw (w i)) t) (n1 : Nn (FP.dmul (F p) (FP.i2d (nI (wtw (w i)))))) (n2 : Nn c) (n3 : Nn (FP.dadd (G (oth w i p)) c)) (pa pb pc_ pd l5 : Int32) (kk : SX9 → Int32 → Int32 → Int32 → Int32 → Option (Int64 × SX9)) : qX9_bySteps_213 pa pb pc_ pd kk (dn9 y F G) l5 (nI p) (nI t) (nI i) = kk (dn9 y F (vf_upd G (oth w i p) (FP.dadd (G (oth w i p)) c))) l5 (nI p) (nI t) (nI i) := by
  have hA := hV.2.2.1
  have hP := hV.2.1
  have hOk := hV.2.2.2 i hi
  have hF := hOk.1
  have hS := hOk.2.1
  have hw := hM.2.2 i hi
  have ho : oth w i p < P := wk_b hV hi
  have e242 : qX9_bySteps_242 pa pb pc_ pd kk (dn9 y F G) l5 (nI p) (nI t) (nI i) (nI (oth w i p)) = kk (dn9 y F (vf_upd G (oth w i p) (FP.dadd (G (oth w i p)) c))) l5 (nI p) (nI t) (nI i) := by
    unfold cb at hc
    unfold qX9_bySteps_242
    rw [ga_ok (by omega) (by decide), ga_ok (by omega) (by decide), weight9 (by omega) (dn9_W hw F G) hOk, bind_s, dn9_n, dn9_t, gn_ok n1, ← hc, gn_ok n2, gn_ok n3, ltt_e, ga_ok (by omega) (by decide), ltt_e, dn9_then]
  rw [← e242]
  unfold qX9_bySteps_213
  rw [ga_ok (by omega) (by decide), dn9_f, hw.1]
  by_cases h : wF (w i) = p
  · rw [if_pos (by rw [h]), ga_ok (by omega) (by decide), dn9_s, hw.2.1]
    rw [show oth w i p = wS (w i) by unfold oth; rw [if_pos h]]
  · rw [if_neg (fun z => h ((nI_eq (by omega) (by omega)).mp z)), ga_ok (by omega) (by decide), hw.1]
    rw [show oth w i p = wF (w i) by unfold oth; rw [if_neg h]]
theorem go9_no {y : SX9} {P A : Nat} {w : Nat → Wy} (hV : GV P A w) (hM : ME y P A w) {p i fu : Nat} (hp : p < P) (hi : i < A) (ht : ¬ (wF (w i) = p ∨ wS (w i) = p)) (F G : Nat → UInt64) (pa pb pc_ pd l5 l7 : Int32) (k138 : SX9 → Int32 → Int32 → Option (Int64 × SX9)) : qX9_bySteps_177 pa pb pc_ pd k138 (fu + 1) (dn9 y F G) l5 (nI p) l7 (nI i) = qX9_bySteps_177 pa pb pc_ pd k138 fu (dn9 y F G) l5 (nI p) l7 (nI (i + 1)) := by
  have hA := hV.2.2.1
  have hP := hV.2.1
  have hOk := hV.2.2.2 i hi
  have hF := hOk.1
  have hS := hOk.2.1
  have hw := hM.2.2 i hi
  rw [qX9_bySteps_177]
  rw [dn9_m, hM.2.1, if_neg (nI_ge (by omega) (by omega)), ga_ok (by omega) (by decide), dn9_f, hw.1, if_neg (fun z => ht (Or.inl ((nI_eq (by omega) (by omega)).mp z))), ga_ok (by omega) (by decide), dn9_s, hw.2.1, if_neg (fun z => ht (Or.inr ((nI_eq (by omega) (by omega)).mp z)))]
  unfold qX9_bySteps_273
  rw [nI_1, ltt_e]
theorem go9_yes {y : SX9} {P A : Nat} {w : Nat → Wy} (hV : GV P A w) (hM : ME y P A w) {p i t fu : Nat} (hp : p < P) (hi : i < A) (ht : wF (w i) = p ∨ wS (w i) = p) (F G : Nat → UInt64) {c : UInt64} (hc : c = cb (F p) (wtw (w i)) t) (n1 : Nn (FP.dmul (F p) (FP.i2d (nI (wtw (w i)))))) (n2 : Nn c) (n3 : Nn (FP.dadd (G (oth w i p)) c)) (pa pb pc_ pd l5 : Int32) (k138 : SX9 → Int32 → Int32 → Option (Int64 × SX9)) : qX9_bySteps_177 pa pb pc_ pd k138 (fu + 1) (dn9 y F G) l5 (nI p) (nI t) (nI i) = qX9_bySteps_177 pa pb pc_ pd k138 fu (dn9 y F (vf_upd G (oth w i p) (FP.dadd (G (oth w i p)) c))) l5 (nI p) (nI t) (nI (i + 1)) := by
  have hA := hV.2.2.1
  have hP := hV.2.1
  have hOk := hV.2.2.2 i hi
  have hF := hOk.1
  have hS := hOk.2.1
  have hw := hM.2.2 i hi
  rw [qX9_bySteps_177]
  rw [dn9_m, hM.2.1, if_neg (nI_ge (by omega) (by omega)), ga_ok (by omega) (by decide), dn9_f, hw.1, go9_213 hV hM hp hi ht F G hc n1 n2 n3]
  have e : qX9_bySteps_273 pa pb pc_ pd (qX9_bySteps_177 pa pb pc_ pd k138 fu) (dn9 y F (vf_upd G (oth w i p) (FP.dadd (G (oth w i p)) c))) l5 (nI p) (nI t) (nI i) = qX9_bySteps_177 pa pb pc_ pd k138 fu (dn9 y F (vf_upd G (oth w i p) (FP.dadd (G (oth w i p)) c))) l5 (nI p) (nI t) (nI (i + 1)) := by
    unfold qX9_bySteps_273
    rw [nI_1, ltt_e]
  rw [e]
  by_cases h : wF (w i) = p
  · rw [if_pos (by rw [h])]
  · rw [if_neg (fun z => h ((nI_eq (by omega) (by omega)).mp z)), ga_ok (by omega) (by decide), dn9_s, hw.2.1, if_pos (by rw [ht.resolve_left h])]
theorem go9_end {y : SX9} {P A : Nat} {w : Nat → Wy} (hV : GV P A w) (hM : ME y P A w) {p fu : Nat} (F G : Nat → UInt64) (pa pb pc_ pd l5 l7 : Int32) (k138 : SX9 → Int32 → Int32 → Option (Int64 × SX9)) : qX9_bySteps_177 pa pb pc_ pd k138 (fu + 1) (dn9 y F G) l5 (nI p) l7 (nI A) = k138 (dn9 y F G) l5 (nI (p + 1)) := by
  have hA := hV.2.2.1
  rw [qX9_bySteps_177]
  rw [dn9_m, hM.2.1, if_pos (nI_le (Nat.le_refl A) (by omega)), nI_1, ltt_e]
theorem go9_skip {y : SX9} {P A : Nat} {w : Nat → Wy} (hV : GV P A w) (hM : ME y P A w) {p : Nat} (hp : p < P) (h0 : dg (2 ^ A - 1) w p A = 0) (F G : Nat → UInt64) (pa pb pc_ pd l5 l7 : Int32) (k138 : SX9 → Int32 → Int32 → Option (Int64 × SX9)) : ∀ (d fu i : Nat), i + d = A → d < fu → qX9_bySteps_177 pa pb pc_ pd k138 fu (dn9 y F G) l5 (nI p) l7 (nI i) = k138 (dn9 y F G) l5 (nI (p + 1)) := by
  intro d
  induction d with
  | zero =>
    intro fu i h1 h2
    match fu, h2 with
    | fu + 1, _ =>
      have hi : i = A := by omega
      subst hi
      exact go9_end hV hM F G pa pb pc_ pd l5 l7 k138
  | succ d ih =>
    intro fu i h1 h2
    match fu, h2 with
    | fu + 1, h2 =>
      rw [go9_no hV hM hp (by omega) (fun z => by
        have := dg_pos hV (show i < A by omega) z
        omega)]
      exact ih fu (i + 1) (by omega) (by omega)
theorem go8_no {N : SX3} {P A : Nat} {w : Nat → Wy} (hV : GV P A w) (hN : NE N P A w) {p i fu : Nat} (hp : p < P) (hi : i < A) (ht : ¬ (wF (w i) = p ∨ wS (w i) = p)) (S : SX6) : qX6_goOnFrom_27 N (nI p) (fu + 1) S (nI i) = qX6_goOnFrom_27 N (nI p) fu S (nI (i + 1)) := by
  have hA := hV.2.2.1
  have hP := hV.2.1
  have hOk := hV.2.2.2 i hi
  have hF := hOk.1
  have hS := hOk.2.1
  have hw := hN.2.2 i hi
  rw [qX6_goOnFrom_27]
  rw [hN.2.1, if_neg (nI_ge (by omega) (by omega)), touches8 (by omega) hw (by omega) (by omega) (by omega), if_neg ht, bind_s, if_pos rfl]
  unfold qX6_goOnFrom_79
  rw [nI_1, ltt_e]
theorem go8_yes {N : SX3} {P A : Nat} {w : Nat → Wy} (hV : GV P A w) (hN : NE N P A w) {p i t fu : Nat} (hp : p < P) (hi : i < A) (ht : wF (w i) = p ∨ wS (w i) = p) (a b : Nat) (F G : Nat → UInt64) (H : Nat → Int32) (hH : H p = nI t) {c : UInt64} (hc : c = cb (F p) (wtw (w i)) t) (n1 : Nn (FP.dmul (F p) (FP.i2d (nI (wtw (w i)))))) (n2 : Nn c) (n3 : Nn (FP.dadd (G (oth w i p)) c)) : qX6_goOnFrom_27 N (nI p) (fu + 1) (a, b, F, G, H) (nI i) = qX6_goOnFrom_27 N (nI p) fu (a, b, F, vf_upd G (oth w i p) (FP.dadd (G (oth w i p)) c), H) (nI (i + 1)) := by
  have hA := hV.2.2.1
  have hP := hV.2.1
  have hOk := hV.2.2.2 i hi
  have hF := hOk.1
  have hS := hOk.2.1
  have hw := hN.2.2 i hi
  have ho : oth w i p < P := wk_b hV hi
  have n0 : ¬ (1 : Int32) = 0 := by decide
  unfold cb at hc
  rw [qX6_goOnFrom_27]
  rw [hN.2.1, if_neg (nI_ge (by omega) (by omega)), touches8 (by omega) hw (by omega) (by omega) (by omega), if_pos ht, bind_s, if_neg n0, other8 (by omega) hw (by omega) (by omega), bind_s]
  rw [show (if wF (w i) = p then wS (w i) else wF (w i)) = oth w i p from rfl, ga_ok (by omega) (by decide), ga_ok (by omega) (by decide), weight8 (by omega) hw hOk, bind_s]
  rw [show sp_now (a, b, F, G, H) = F from rfl, show sp_then (a, b, F, G, H) = G from rfl, show sp_weights (a, b, F, G, H) = H from rfl, gn_ok n1, ga_ok (by omega) (by decide), hH, ← hc, gn_ok n2, gn_ok n3, ltt_e, ga_ok (by omega) (by decide), ltt_e]
  unfold qX6_goOnFrom_79
  rw [nI_1, ltt_e]
theorem go8_end {N : SX3} {P A : Nat} {w : Nat → Wy} (hV : GV P A w) (hN : NE N P A w) {p fu : Nat} (S : SX6) : qX6_goOnFrom_27 N (nI p) (fu + 1) S (nI A) = some S := by
  have hA := hV.2.2.1
  rw [qX6_goOnFrom_27]
  rw [hN.2.1, if_pos (nI_le (Nat.le_refl A) (by omega))]
def Ag (f g : Nat → UInt64) : Prop := ∀ j, j < 6 → f j = g j
theorem Ag_u {f g : Nat → UInt64} (h : Ag f g) (k : Nat) (v : UInt64) : Ag (vf_upd f k v) (vf_upd g k v) := by
  intro j hj
  unfold vf_upd
  split
  · rfl
  · exact h j hj
/-- a least step of rounding below 512, in least units -/
def DE : Nat := 2 ^ 1030
theorem DE_p : 0 < DE := Nat.two_pow_pos _
theorem DE_e : DE = 2 ^ 1030 := by unfold DE; rfl
theorem DE_44 : 2 ^ 44 * DE = 2 ^ 1074 := by
  rw [DE_e]
  exact p2 (by omega)
theorem DE_45 : 2 ^ 45 * DE = 2 ^ 1075 := by
  rw [DE_e]
  exact p2 (by omega)
/-- sum of sizes -/
def zs (F : Nat → UInt64) : Nat → Nat
  | 0 => 0
  | n + 1 => zs F n + zm (F n)
theorem zs_cg {F G : Nat → UInt64} : ∀ n, (∀ j, j < n → F j = G j) → zs F n = zs G n
  | 0, _ => rfl
  | n + 1, h => by
    rw [zs, zs, zs_cg n (fun j hj => h j (by omega)), h n (by omega)]
theorem zs_le {F : Nat → UInt64} {k : Nat} : ∀ n, k < n → zm (F k) ≤ zs F n
  | 0, h => by omega
  | n + 1, h => by
    rw [zs]
    by_cases e : k = n
    · rw [e]
      omega
    · have := zs_le (F := F) (k := k) n (by omega)
      omega
theorem zs_mono {F : Nat → UInt64} (n : Nat) : ∀ d, zs F n ≤ zs F (n + d)
  | 0 => Nat.le_refl _
  | d + 1 => by
    rw [show n + (d + 1) = n + d + 1 by omega, zs]
    have := zs_mono (F := F) n d
    omega
theorem zs_u {F : Nat → UInt64} {k : Nat} (v : UInt64) : ∀ n, k < n → zs (vf_upd F k v) n + zm (F k) = zs F n + zm v
  | 0, h => by omega
  | n + 1, h => by
    rw [zs, zs]
    by_cases e : k = n
    · rw [zs_cg (F := vf_upd F k v) (G := F) n (fun j hj => vu_n (by omega)), ← e, vu_s]
      omega
    · have := zs_u (F := F) (k := k) v n (by omega)
      rw [vu_n (show n ≠ k by omega)]
      omega
theorem zs_0 {F : Nat → UInt64} : ∀ n, (∀ j, j < n → F j = 0) → zs F n = 0
  | 0, _ => rfl
  | n + 1, h => by
    rw [zs, zs_0 n (fun j hj => h j (by omega)), h n (by omega), zm_0]
/-- a rounded result is at most a least step above the exact one -/
theorem Rd_e {r : UInt64} {X Y : Nat} (h : Rd r X Y) (hY : 0 < Y) (hX : X ≤ 9007199254740990 * (DE * Y)) : zm r * Y ≤ X + DE * Y := by
  have hD : 0 < DE * Y := Nat.mul_pos DE_p hY
  have h1 : X / (DE * Y) < 9007199254740991 := by
    rw [Nat.div_lt_iff_lt_mul hD]
    refine Nat.lt_of_le_of_lt hX ?_
    exact Nat.mul_lt_mul_of_pos_right (by decide) hD
  have h2 : X < (X / (DE * Y) + 1) * (DE * Y) := by
    have := Nat.lt_div_mul_add (a := X) hD
    rw [Nat.add_mul, Nat.one_mul]
    exact this
  have h3 := (h.1 (X / (DE * Y) + 1) 1030 (by omega) (by decide) (by
    rw [Nat.mul_assoc]
    exact Nat.le_of_lt h2)).2
  have h4 := Nat.mul_le_mul_right Y h3
  refine Nat.le_trans h4 ?_
  rw [Nat.mul_assoc, ← DE_e, Nat.add_mul, Nat.one_mul]
  exact Nat.add_le_add_right (Nat.div_mul_le_self _ _) _
theorem add_z {g c : UInt64} (hg : Nn g) (hc : Nn c) (h : zm g + zm c ≤ 9007199254740990 * DE) : zm (FP.dadd g c) ≤ zm g + zm c + DE := by
  have := Rd_e (dadd_b hg hc) (by decide) (by rw [Nat.mul_one]; exact h)
  rw [Nat.mul_one, Nat.mul_one] at this
  exact this
theorem cb_z {v : UInt64} {w t : Nat} (hv : Nn v) (hz : zm v ≤ 2 ^ 45 * DE) (hw : 1 ≤ w ∧ w ≤ 18) (ht : 1 ≤ t ∧ t < 256) (hn : Nn (FP.dmul v (FP.i2d (nI w)))) : zm (cb v w t) * t ≤ zm v * w + (1 + t) * DE := by
  obtain ⟨w1, w2⟩ := i2d_b hw.1 (nI_toInt (show w < 2 ^ 31 by omega))
  obtain ⟨t1, t2⟩ := i2d_b ht.1 (nI_toInt (show t < 2 ^ 31 by omega))
  have ha := dmul_b hv w1
  rw [w2] at ha
  unfold cb
  generalize FP.dmul v (FP.i2d (nI w)) = a at *
  have o1 := FP.Core.one64_pos
  have hm : zm v * w ≤ 2 ^ 45 * DE * 18 := Nat.mul_le_mul hz hw.2
  have b1 : zm a ≤ zm v * w + DE := by
    have := Rd_e ha o1 (by
      rw [← Nat.mul_assoc, ← Nat.mul_assoc]
      refine Nat.mul_le_mul_right _ ?_
      omega)
    rw [← Nat.mul_assoc, ← Nat.add_mul] at this
    exact Nat.le_of_mul_le_mul_right this o1
  have hc := ddiv_b hn t1 ht.1 t2
  have hDt : DE ≤ DE * t := Nat.le_mul_of_pos_right _ ht.1
  have b2 := Rd_e hc ht.1 (by omega)
  rw [Nat.add_mul, Nat.one_mul, Nat.mul_comm t DE]
  omega
theorem st_z {t S B v g i : Nat} (ht : 1 ≤ t) (hg : g ≤ t) (hi : i ≤ 11) (h : t * S ≤ t * B + v * g + i * ((1 + 2 * t) * DE)) : S ≤ B + v + 33 * DE := by
  have h1 : v * g ≤ t * v := by
    rw [Nat.mul_comm t v]
    exact Nat.mul_le_mul_left _ hg
  have h2 : i * ((1 + 2 * t) * DE) ≤ t * (33 * DE) := by
    rw [← Nat.mul_assoc, ← Nat.mul_assoc]
    refine Nat.mul_le_mul_right _ ?_
    have := Nat.mul_le_mul hi (show 1 + 2 * t ≤ 3 * t by omega)
    omega
  refine Nat.le_of_mul_le_mul_left (c := t) ?_ (by omega)
  rw [Nat.mul_add, Nat.mul_add]
  omega
theorem st_n {t S S' B v g W c i : Nat} (h : t * S ≤ t * B + v * g + i * ((1 + 2 * t) * DE)) (hc : c * t ≤ v * W + (1 + t) * DE) (hS : S' ≤ S + c + DE) : t * S' ≤ t * B + v * (g + W) + (i + 1) * ((1 + 2 * t) * DE) := by
  have h1 := Nat.mul_le_mul_left t hS
  rw [Nat.mul_add, Nat.mul_add, Nat.mul_comm t c] at h1
  have e1 : (1 + t) * DE = DE + t * DE := by rw [Nat.add_mul, Nat.one_mul]
  have e2 : (1 + 2 * t) * DE = DE + 2 * (t * DE) := by rw [Nat.add_mul, Nat.one_mul, Nat.mul_assoc]
  have e3 : (i + 1) * ((1 + 2 * t) * DE) = i * ((1 + 2 * t) * DE) + (1 + 2 * t) * DE := by rw [Nat.add_mul i, Nat.one_mul]
  rw [e3, Nat.mul_add]
  rw [e1] at hc
  generalize i * ((1 + 2 * t) * DE) = I at *
  omega
theorem go_loop {N : SX3} {y : SX9} {P A : Nat} {w : Nat → Wy} (hV : GV P A w) (hN : NE N P A w) (hM : ME y P A w) {p t L K n : Nat} (hp : p < P) (ht : t = dg (2 ^ A - 1) w p A) (ht0 : 0 < t) (a b : Nat) {F8 F9 : Nat → UInt64} {H : Nat → Int32} (hF : F8 p = F9 p) (hg : Gd L 1 K (F8 p)) (hH : H p = nI t) (hL : 8 ≤ L) (hL2 : L ≤ 2045) (hK : K ≤ 2045) (hn : n ≤ 2000) {B : Nat} (hz1 : zm (F8 p) ≤ 2 ^ 45 * DE) (hz2 : B ≤ 2 ^ 46 * DE) : ∀ (d f8 f9 i : Nat) (G8 G9 : Nat → UInt64), i + d = A → d < f8 → d < f9 → Ag G8 G9 → (∀ j, j < 6 → Gd (L - 8) (n + 18 * i) K (G8 j)) → t * zs G8 6 ≤ t * B + zm (F8 p) * dg (2 ^ A - 1) w p i + i * ((1 + 2 * t) * DE) → ∃ G8' G9', Ag G8' G9' ∧ (∀ j, j < 6 → Gd (L - 8) (n + 18 * A) K (G8' j)) ∧ zs G8' 6 ≤ B + zm (F8 p) + 33 * DE ∧ (∀ j, dg (2 ^ A - 1) w j A = 0 → G8' j = G8 j) ∧ qX6_goOnFrom_27 N (nI p) f8 (a, b, F8, G8, H) (nI i) = some (a, b, F8, G8', H) ∧ ∀ (pa pb pc_ pd l5 : Int32) (k138 : SX9 → Int32 → Int32 → Option (Int64 × SX9)), qX9_bySteps_177 pa pb pc_ pd k138 f9 (dn9 y F9 G9) l5 (nI p) (nI t) (nI i) = k138 (dn9 y F9 G9') l5 (nI (p + 1)) := by
  have hA := hV.2.2.1
  have hP := hV.2.1
  intro d
  induction d with
  | zero =>
    intro f8 f9 i G8 G9 h1 h2 h3 hG hb hs
    match f8, h2, f9, h3 with
    | f8 + 1, _, f9 + 1, _ =>
      have hi : i = A := by omega
      subst hi
      exact ⟨G8, G9, hG, hb, st_z ht0 (Nat.le_of_eq ht.symm) (by omega) hs, fun _ _ => rfl, go8_end hV hN _, fun pa pb pc_ pd l5 k138 => go9_end hV hM _ _ _ _ _ _ _ _ _⟩
  | succ d ih =>
    intro f8 f9 i G8 G9 h1 h2 h3 hG hb hs
    match f8, h2, f9, h3 with
    | f8 + 1, h2, f9 + 1, h3 =>
      have hi : i < A := by omega
      have hdt : dg (2 ^ A - 1) w p i ≤ t := by
        have := dg_mono (t := 2 ^ A - 1) (x := p) (w := w) i (A - i)
        rw [show i + (A - i) = A by omega] at this
        omega
      have hS := st_z ht0 hdt (by omega) hs
      by_cases hT : wF (w i) = p ∨ wS (w i) = p
      · have hOk := hV.2.2.2 i hi
        have hwb := wtw_b hOk
        have htb := dg_b hV (t := 2 ^ A - 1) (x := p) A (Nat.le_refl A)
        have ho : oth w i p < P := wk_b hV hi
        obtain ⟨c, hc⟩ : ∃ c, c = cb (F8 p) (wtw (w i)) t := ⟨_, rfl⟩
        obtain ⟨c1, c2⟩ := cb_ok (t := t) hg hwb ⟨ht0, by omega⟩ hL hL2 hK
        rw [← hc] at c2
        have c3 := Gd_add (hb (oth w i p) (by omega)) c2 (by omega) (by omega) hK
        obtain ⟨v, hv⟩ : ∃ v, v = FP.dadd (G8 (oth w i p)) c := ⟨_, rfl⟩
        have hv9 : v = FP.dadd (G9 (oth w i p)) c := by rw [hv, hG _ (by omega)]
        have cz := cb_z hg.1 hz1 hwb ⟨ht0, by omega⟩ c1
        rw [← hc] at cz
        have gz := zs_le (F := G8) 6 (show oth w i p < 6 by omega)
        have cz2 : zm c ≤ zm c * t := Nat.le_mul_of_pos_right _ ht0
        have cz3 : zm (F8 p) * wtw (w i) ≤ 2 ^ 45 * DE * 18 := Nat.mul_le_mul hz1 hwb.2
        have cz4 : (1 + t) * DE ≤ 256 * DE := Nat.mul_le_mul_right _ (by omega)
        have vz := add_z (hb (oth w i p) (by omega)).1 c2.1 (by omega)
        have uz := zs_u (F := G8) v 6 (show oth w i p < 6 by omega)
        rw [← hv] at vz
        have hdg : dg (2 ^ A - 1) w p (i + 1) = dg (2 ^ A - 1) w p i + wtw (w i) := by
          have hbt : (2 ^ A - 1).testBit i = true := by rw [ones_bit, decide_eq_true (by omega)]
          rw [dg, if_pos ⟨hbt, hT⟩]
        obtain ⟨G8', G9', g1, g2, g2z, g3, g4, g5⟩ := ih f8 f9 (i + 1) (vf_upd G8 (oth w i p) v) (vf_upd G9 (oth w i p) v) (by omega) (by omega) (by omega) (Ag_u hG _ _) (fun j hj => by
          by_cases e : j = oth w i p
          · rw [e, vu_s, hv]
            rw [show n + 18 * (i + 1) = n + 18 * i + 18 by omega]
            exact c3
          · rw [vu_n e]
            exact Gd_mono (hb j hj) (Nat.le_refl _) (Nat.mul_le_mul_right _ (by omega))) (by
          rw [hdg]
          exact st_n hs cz (by omega))
        refine ⟨G8', G9', g1, g2, g2z, fun j hj => ?_, ?_, fun pa pb pc_ pd l5 k138 => ?_⟩
        · rw [g3 j hj, vu_n]
          intro e
          have := dg_pos hV hi (oth_end hT)
          rw [← e] at this
          omega
        · rw [go8_yes hV hN hp hi hT a b F8 G8 H hH hc c1 c2.1 c3.1, ← hv, g4]
        · rw [go9_yes hV hM hp hi hT F9 G9 (c := c) (by rw [hc, hF]) (by rw [← hF]; exact c1) c2.1 (by rw [← hG _ (by omega)]; exact c3.1), ← hv9, g5]
      · have hdg : dg (2 ^ A - 1) w p (i + 1) = dg (2 ^ A - 1) w p i := by
          rw [dg, if_neg (fun z => hT z.2), Nat.add_zero]
        obtain ⟨G8', G9', g1, g2, g2z, g3, g4, g5⟩ := ih f8 f9 (i + 1) G8 G9 (by omega) (by omega) (by omega) hG (fun j hj => Gd_mono (hb j hj) (Nat.le_refl _) (Nat.mul_le_mul_right _ (by omega))) (by
          rw [hdg]
          refine Nat.le_trans hs (Nat.add_le_add_left (Nat.mul_le_mul_right _ (by omega)) _))
        refine ⟨G8', G9', g1, g2, g2z, g3, ?_, fun pa pb pc_ pd l5 k138 => ?_⟩
        · rw [go8_no hV hN hp hi hT, g4]
        · rw [go9_no hV hM hp hi hT, g5]
