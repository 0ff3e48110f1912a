/-! doubles: finite numbers from 0 up, measured in least units -/
def Nn (v : UInt64) : Prop := ∃ c q, FP.Core.val64 v = FP.Core.Datum.fin false c q
def zm (v : UInt64) : Nat := FP.Core.zmag FP.Core.b64 (FP.Core.val64 v)
theorem Nn_ne {v : UInt64} (h : Nn v) : FP.Core.val64 v ≠ .nan := by
  obtain ⟨c, q, e⟩ := h
  rw [e]
  exact FP.Core.Datum.noConfusion
theorem Nn_lt {v : UInt64} (h : Nn v) : v.toNat < 9218868437227405312 := by
  obtain ⟨c, q, e⟩ := h
  have h1 := (FP.Core.fin_bits v).mp ⟨false, c, q, e⟩
  have h2 := FP.Core.sign_bits (a := v) (s := false) (Or.inl ⟨c, q, e⟩)
  have h3 : ¬ 2 ^ 63 ≤ v.toNat := fun z => by
    have := h2.mpr z
    exact Bool.noConfusion this
  omega
theorem Nn_of {v : UInt64} (h : v.toNat < 9218868437227405312) : Nn v := by
  obtain ⟨s, c, q, e⟩ := (FP.Core.fin_bits v).mpr (by omega)
  have h2 := FP.Core.sign_bits (a := v) (s := s) (Or.inl ⟨c, q, e⟩)
  cases s with
  | true =>
    have := h2.mp rfl
    omega
  | false => exact ⟨c, q, e⟩
theorem zm_u {v : UInt64} (h : Nn v) : zm v = FP.Core.unitsOf FP.Core.b64 v.toNat := by
  have h1 := FP.Core.zmag_bits (Nn_ne h)
  have h2 := Nn_lt h
  rw [Nat.mod_eq_of_lt (by omega)] at h1
  exact h1
theorem zm_inj {a b : UInt64} (ha : Nn a) (hb : Nn b) (h : zm a = zm b) : a = b := by
  rw [zm_u ha, zm_u hb] at h
  have h1 := (FP.Core.unitsOf_le_iff (f := FP.Core.b64)).mp (Nat.le_of_eq h)
  have h2 := (FP.Core.unitsOf_le_iff (f := FP.Core.b64)).mp (Nat.le_of_eq h.symm)
  exact UInt64.toNat.inj (by omega)
theorem gn_ok {α : Type} {v : UInt64} (h : Nn v) (k : Option α) : gn v k = k := by
  unfold gn
  rw [if_pos]
  rw [UInt64.le_iff_toNat_le, FP.Core.mask_toNat]
  have := Nn_lt h
  show v.toNat % 2 ^ 63 ≤ 9218868437227405312
  omega
theorem Vn {n K : Nat} (hn : n < 2 ^ 53) (hK : K ≤ 2045) : ∃ c q, FP.Core.fits FP.Core.b64 (.fin false c q) ∧ FP.Core.zmag FP.Core.b64 (.fin false c q) = n * 2 ^ K := by
  have hq : FP.Core.b64.qmax = 971 := by decide
  obtain ⟨c', q', h1, h2⟩ := FP.Core.round_exact FP.Core.good_b64 false (c := n) (q := (K : Int) - 1074) hn (by rw [FP.Core.qmin_b64]; omega) (by rw [hq]; omega)
  refine ⟨c', q', h1 ▸ FP.Core.round_fits FP.Core.good_b64 _, ?_⟩
  show FP.Core.inUnits c' q' FP.Core.b64.qmin = _
  rw [h2]
  unfold FP.Core.inUnits
  rw [FP.Core.qmin_b64, show ((K : Int) - 1074 - -1074).toNat = K by omega]
theorem rr_up {A B : Nat} {e e0 : Int} {n K : Nat} (hB : 0 < B) (hn : n < 2 ^ 53) (hK : K ≤ 2045) (h0 : e0 ≤ FP.Core.b64.qmin) (h0e : e0 ≤ e) (h : FP.Core.inUnits A e e0 ≤ n * 2 ^ K * 2 ^ (FP.Core.b64.qmin - e0).toNat * B) : ∃ c q, FP.Core.roundRatio FP.Core.b64 false A B e = .fin false c q ∧ FP.Core.zmag FP.Core.b64 (FP.Core.roundRatio FP.Core.b64 false A B e) ≤ n * 2 ^ K := by
  obtain ⟨c, q, h1, h2⟩ := Vn hn hK
  have h3 := FP.Core.zmag_roundRatio_le FP.Core.good_b64 (s := false) (A := A) (B := B) (e := e) (e0 := e0) hB h1 (by exact FP.Core.Datum.noConfusion) h0 h0e (by rw [h2]; exact h)
  have h4 := FP.Core.zmag_lt_top FP.Core.good_b64 h1
  have h5 : FP.Core.zmag FP.Core.b64 (.fin false c q) < FP.Core.b64.tails * 2 ^ (FP.Core.b64.exps - 2) := h4
  rcases FP.Core.roundRatio_cases FP.Core.b64 false A B e with ⟨c', q', z⟩ | z
  · exact ⟨c', q', z, by rw [h2] at h3; exact h3⟩
  · rw [z] at h3
    have h6 : FP.Core.b64.tails * 2 ^ (FP.Core.b64.exps - 2) ≤ FP.Core.zmag FP.Core.b64 (.fin false c q) := h3
    exact absurd h5 (Nat.not_lt.mpr h6)
theorem rr_dn {A B : Nat} {e e0 : Int} {n K : Nat} (hB : 0 < B) (hn : n < 2 ^ 53) (hK : K ≤ 2045) (h0 : e0 ≤ FP.Core.b64.qmin) (h0e : e0 ≤ e) (h : n * 2 ^ K * 2 ^ (FP.Core.b64.qmin - e0).toNat * B ≤ FP.Core.inUnits A e e0) : n * 2 ^ K ≤ FP.Core.zmag FP.Core.b64 (FP.Core.roundRatio FP.Core.b64 false A B e) := by
  obtain ⟨c, q, h1, h2⟩ := Vn hn hK
  have h3 := FP.Core.zmag_roundRatio_ge FP.Core.good_b64 (s := false) (A := A) (B := B) (e := e) (e0 := e0) hB h1 h0 h0e (by rw [h2]; exact h)
  rw [h2] at h3
  exact h3
/-- what a rounded result r of the exact size X (over Y) tells -/
def Rd (r : UInt64) (X Y : Nat) : Prop := (∀ n K, n < 2 ^ 53 → K ≤ 2045 → X ≤ n * 2 ^ K * Y → Nn r ∧ zm r ≤ n * 2 ^ K) ∧ ∀ n K, n < 2 ^ 53 → K ≤ 2045 → n * 2 ^ K * Y ≤ X → n * 2 ^ K ≤ zm r
theorem Rd_of {r : UInt64} {A B X Y F : Nat} {e e0 : Int} (hr : FP.Core.val64 r = FP.Core.roundRatio FP.Core.b64 false A B e) (hB : 0 < B) (hF : 0 < F) (h0 : e0 ≤ FP.Core.b64.qmin) (h0e : e0 ≤ e) (h1 : FP.Core.inUnits A e e0 = X * F) (h2 : 2 ^ (FP.Core.b64.qmin - e0).toNat * B = Y * F) : Rd r X Y := by
  refine ⟨fun n K hn hK h => ?_, fun n K hn hK h => ?_⟩
  · obtain ⟨c, q, z1, z2⟩ := rr_up (A := A) (B := B) (e := e) (e0 := e0) hB hn hK h0 h0e (by
      rw [h1, Nat.mul_assoc _ _ B, h2, ← Nat.mul_assoc]
      exact Nat.mul_le_mul_right F h)
    refine ⟨⟨c, q, by rw [hr, z1]⟩, ?_⟩
    unfold zm
    rw [hr]
    exact z2
  · unfold zm
    rw [hr]
    refine rr_dn (e0 := e0) hB hn hK h0 h0e ?_
    rw [h1, Nat.mul_assoc _ _ B, h2, ← Nat.mul_assoc]
    exact Nat.mul_le_mul_right F h
theorem Nn_fit {a : UInt64} {c : Nat} {q : Int} (h : FP.Core.val64 a = .fin false c q) : FP.Core.fits FP.Core.b64 (.fin false c q) := h ▸ FP.Core.val64_fits a
theorem dadd_b {a b : UInt64} (ha : Nn a) (hb : Nn b) : Rd (FP.dadd a b) (zm a + zm b) 1 := by
  obtain ⟨c, q, ea⟩ := ha
  obtain ⟨d, r, eb⟩ := hb
  have fa := Nn_fit ea
  have fb := Nn_fit eb
  have hs : FP.Core.exactSum (.fin false c q) (.fin false d r) = .fin false (FP.Core.inUnits c q (min q r) + FP.Core.inUnits d r (min q r)) (min q r) := by
    have hv : FP.Core.sumUnits false c q false d r (min q r) = ((FP.Core.inUnits c q (min q r) + FP.Core.inUnits d r (min q r) : Nat) : Int) := by
      unfold FP.Core.sumUnits FP.Core.signed
      simp
    have hg : FP.Core.sumSign false false ((FP.Core.inUnits c q (min q r) + FP.Core.inUnits d r (min q r) : Nat) : Int) = false := by
      unfold FP.Core.sumSign
      split
      · rfl
      · exact decide_eq_false (by omega)
    show FP.Core.Datum.fin _ _ _ = _
    rw [hv, hg, Int.natAbs_natCast]
  have hval : FP.Core.val64 (FP.dadd a b) = FP.Core.roundRatio FP.Core.b64 false (FP.Core.inUnits c q (min q r) + FP.Core.inUnits d r (min q r)) 1 (min q r) := by
    rw [show FP.dadd a b = FP.Core.dadd a b from rfl, FP.Core.val64_dadd, ea, eb, hs]
    rfl
  have hq := fa.2.1
  have hr := fb.2.1
  refine Rd_of (F := 1) (e0 := FP.Core.b64.qmin) hval (by decide) (by decide) (Int.le_refl _) (by omega) ?_ (by simp)
  have e1 : zm a = FP.Core.inUnits c q FP.Core.b64.qmin := by unfold zm; rw [ea]; rfl
  have e2 : zm b = FP.Core.inUnits d r FP.Core.b64.qmin := by unfold zm; rw [eb]; rfl
  rw [e1, e2, FP.Core.inUnits_move c (q := q) (r := min q r) (e := FP.Core.b64.qmin) (by omega) (by omega), FP.Core.inUnits_move d (q := r) (r := min q r) (e := FP.Core.b64.qmin) (by omega) (by omega), ← Nat.add_mul, Nat.mul_one]
  rfl
theorem dmul_b {a b : UInt64} (ha : Nn a) (hb : Nn b) : Rd (FP.dmul a b) (zm a * zm b) FP.Core.one64 := by
  obtain ⟨c, q, ea⟩ := ha
  obtain ⟨d, r, eb⟩ := hb
  have fa := Nn_fit ea
  have fb := Nn_fit eb
  obtain ⟨p1, p2, p3⟩ := FP.Core.product_units fa fb
  have hval : FP.Core.val64 (FP.dmul a b) = FP.Core.roundRatio FP.Core.b64 false (c * d) 1 (q + r) := by
    rw [show FP.dmul a b = FP.Core.dmul a b from rfl, FP.Core.val64_dmul, ea, eb, p1]
    rfl
  have e1 : zm a = FP.Core.zmag FP.Core.b64 (.fin false c q) := by unfold zm; rw [ea]
  have e2 : zm b = FP.Core.zmag FP.Core.b64 (.fin false d r) := by unfold zm; rw [eb]
  refine Rd_of (F := 1) (e0 := 2 * FP.Core.b64.qmin) hval (by decide) (by decide) (by rw [FP.Core.qmin_b64]; decide) p2 (by rw [p3, e1, e2, Nat.mul_one]) ?_
  rw [show (FP.Core.b64.qmin - 2 * FP.Core.b64.qmin) = -FP.Core.b64.qmin by omega, FP.Core.pow_qmin64]
theorem ddiv_b {a b : UInt64} {t : Nat} (ha : Nn a) (hb : Nn b) (ht : 1 ≤ t) (e : zm b = t * FP.Core.one64) : Rd (FP.ddiv a b) (zm a) t := by
  obtain ⟨c, q, ea⟩ := ha
  obtain ⟨d, r, eb⟩ := hb
  have fa := Nn_fit ea
  have fb := Nn_fit eb
  have hq := fa.2.1
  have hr := fb.2.1
  rw [FP.Core.qmin_b64] at hq hr
  have o1 := FP.Core.one64_pos
  have e1 : zm a = c * 2 ^ (q - FP.Core.b64.qmin).toNat := by unfold zm; rw [ea]; rfl
  have e2 : zm b = d * 2 ^ (r - FP.Core.b64.qmin).toNat := by unfold zm; rw [eb]; rfl
  have hd : d ≠ 0 := by
    intro z
    rw [z, Nat.zero_mul, e] at e2
    have := Nat.mul_pos (show 0 < t by omega) o1
    omega
  have hval : FP.Core.val64 (FP.ddiv a b) = FP.Core.roundRatio FP.Core.b64 false c d (q - r) := by
    rw [show FP.ddiv a b = FP.Core.ddiv a b from rfl, FP.Core.val64_ddiv, ea, eb]
    show (if d = 0 then _ else _) = _
    rw [if_neg hd]
    rfl
  refine Rd_of (F := FP.Core.one64) (e0 := -r - 2148) hval (by omega) o1 (by rw [FP.Core.qmin_b64]; omega) (by omega) ?_ ?_
  · unfold FP.Core.inUnits
    rw [e1, ← FP.Core.pow_qmin64, FP.Core.qmin_b64, Nat.mul_assoc, ← Nat.pow_add]
    congr 2
    omega
  · rw [← e, e2, FP.Core.qmin_b64, Nat.mul_comm]
    congr 2
    omega
theorem dsub_b {a b : UInt64} {n K : Nat} (ha : Nn a) (hb : Nn b) (hn : n < 2 ^ 53) (hK : K ≤ 2045) (e : zm a = zm b + n * 2 ^ K) : Nn (FP.dsub a b) ∧ zm (FP.dsub a b) = n * 2 ^ K := by
  obtain ⟨c, q, ea⟩ := ha
  obtain ⟨d, r, eb⟩ := hb
  have fa := Nn_fit ea
  have fb := Nn_fit eb
  have hq := fa.2.1
  have hr := fb.2.1
  have e1 : zm a = FP.Core.inUnits c q FP.Core.b64.qmin := by unfold zm; rw [ea]; rfl
  have e2 : zm b = FP.Core.inUnits d r FP.Core.b64.qmin := by unfold zm; rw [eb]; rfl
  have m1 := FP.Core.inUnits_move c (q := q) (r := min q r) (e := FP.Core.b64.qmin) (by omega) (by omega)
  have m2 := FP.Core.inUnits_move d (q := r) (r := min q r) (e := FP.Core.b64.qmin) (by omega) (by omega)
  have hp : 0 < 2 ^ (min q r - FP.Core.b64.qmin).toNat := Nat.two_pow_pos _
  have hle : FP.Core.inUnits d r (min q r) ≤ FP.Core.inUnits c q (min q r) := by
    apply Nat.le_of_mul_le_mul_right _ hp
    rw [← m1, ← m2, ← e1, ← e2]
    omega
  obtain ⟨g, hg⟩ : ∃ g, FP.Core.inUnits c q (min q r) = FP.Core.inUnits d r (min q r) + g := ⟨_, (Nat.add_sub_cancel' hle).symm⟩
  have hs : FP.Core.exactSum (.fin false c q) (.fin true d r) = .fin false g (min q r) := by
    have hv : FP.Core.sumUnits false c q true d r (min q r) = ((g : Nat) : Int) := by
      unfold FP.Core.sumUnits FP.Core.signed
      rw [hg]
      simp
      omega
    have hgg : FP.Core.sumSign false true ((g : Nat) : Int) = false := by
      unfold FP.Core.sumSign
      split
      · rfl
      · exact decide_eq_false (by omega)
    show FP.Core.Datum.fin _ _ _ = _
    rw [hv, hgg, Int.natAbs_natCast]
  have hval : FP.Core.val64 (FP.dsub a b) = FP.Core.roundRatio FP.Core.b64 false g 1 (min q r) := by
    rw [show FP.dsub a b = FP.Core.dsub a b from rfl, FP.Core.val64_dsub, ea, eb, show FP.Core.negate (.fin false d r) = .fin true d r from rfl, hs]
    rfl
  have hR : Rd (FP.dsub a b) (n * 2 ^ K) 1 := by
    refine Rd_of (F := 1) (e0 := FP.Core.b64.qmin) hval (by decide) (by decide) (Int.le_refl _) (by omega) ?_ (by simp)
    rw [hg, Nat.add_mul] at m1
    show g * 2 ^ (min q r - FP.Core.b64.qmin).toNat = _
    omega
  have u := hR.1 n K hn hK (by omega)
  have l := hR.2 n K hn hK (by omega)
  exact ⟨u.1, by omega⟩
theorem i2d_b {v : Int32} {t : Nat} (ht : 1 ≤ t) (e : v.toInt = t) : Nn (FP.i2d v) ∧ zm (FP.i2d v) = t * FP.Core.one64 := by
  have o1 := FP.Core.one64_pos
  have h1 := FP.Core.DInt_zval (FP.Core.i2d_int v)
  obtain ⟨s, c, q, h2⟩ := FP.Core.i2d_fin v
  have hp := Nat.mul_pos (show 0 < t by omega) o1
  have h3 : FP.Core.signed s (FP.Core.zmag FP.Core.b64 (.fin s c q)) = ((t * FP.Core.one64 : Nat) : Int) := by
    have : FP.Core.zval FP.Core.b64 (FP.Core.val64 (FP.Core.i2d v)) = ((t * FP.Core.one64 : Nat) : Int) := by rw [h1, e, Int.natCast_mul]
    rw [h2] at this
    exact this
  obtain ⟨z1, z2⟩ := FP.Core.signed_pos (s := s) (by rw [h3]; omega)
  have hs : s = false := by
    cases s with
    | false => rfl
    | true =>
      unfold FP.Core.signed at h3
      simp at h3
      generalize FP.Core.zmag FP.Core.b64 (.fin true c q) = Z at *
      generalize FP.Core.one64 = O at *
      omega
  subst hs
  refine ⟨⟨c, q, h2⟩, ?_⟩
  unfold zm
  rw [show FP.i2d v = FP.Core.i2d v from rfl, h2]
  rw [z1] at h3
  exact Int.natCast_inj.mp h3
