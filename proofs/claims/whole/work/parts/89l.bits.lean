/-! the bits of a double -/
theorem cmp_b {a b : UInt64} (ha : Nn a) (hb : Nn b) (o : CmpOp) : Op.cmpValue (FP.dcmp a b) o = if a.toNat < b.toNat then -1 else if a.toNat = b.toNat then 0 else 1 := by
  have h1 := FP.Core.dcmp_key (Nn_ne ha) (Nn_ne hb)
  have ka : FP.Core.dkey a = (a.toNat : Int) := by
    unfold FP.Core.dkey
    rw [if_neg]
    have := Nn_lt ha
    omega
  have kb : FP.Core.dkey b = (b.toNat : Int) := by
    unfold FP.Core.dkey
    rw [if_neg]
    have := Nn_lt hb
    omega
  rw [show FP.dcmp a b = FP.Core.dcmp a b from rfl, h1, ka, kb, FP.Core.compare_ite]
  by_cases h2 : a.toNat < b.toNat
  · rw [if_pos h2, if_pos (show (a.toNat : Int) < b.toNat by omega)]
    rfl
  · rw [if_neg h2, if_neg (show ¬ (a.toNat : Int) < b.toNat by omega)]
    by_cases h3 : a.toNat = b.toNat
    · rw [if_pos h3, if_pos (show (a.toNat : Int) = b.toNat by omega)]
      rfl
    · rw [if_neg h3, if_neg (show ¬ (a.toNat : Int) = b.toNat by omega)]
      rfl
def D6 (E m : Nat) : UInt64 := UInt64.ofNat (E * 2 ^ 52 + m)
theorem D6_n {E m : Nat} (hE : E < 2047) (hm : m < 2 ^ 52) : (D6 E m).toNat = E * 2 ^ 52 + m := by
  unfold D6
  exact UInt64.toNat_ofNat_of_lt' (by show _ < 2 ^ 64; omega)
theorem D6_N {E m : Nat} (hE : E < 2047) (hm : m < 2 ^ 52) : Nn (D6 E m) := Nn_of (by rw [D6_n hE hm]; omega)
theorem D6_z {E m : Nat} (h1 : 1 ≤ E) (hE : E < 2047) (hm : m < 2 ^ 52) : zm (D6 E m) = (2 ^ 52 + m) * 2 ^ (E - 1) := by
  rw [zm_u (D6_N hE hm), D6_n hE hm]
  unfold FP.Core.unitsOf
  rw [FP.Core.tails_b64, if_neg (by omega), show (E * 2 ^ 52 + m) % 2 ^ 52 = m by omega, show (E * 2 ^ 52 + m) / 2 ^ 52 = E by omega]
theorem two6 : (4611686018427387904 : UInt64) = D6 1024 0 := by decide
theorem one6 : (4607182418800017408 : UInt64) = D6 1023 0 := by decide
theorem mil6 : (4841369599423283200 : UInt64) = D6 1075 0 := by decide
theorem p2 {a b c : Nat} (h : a + b = c) : 2 ^ a * 2 ^ b = 2 ^ c := by
  subst h
  exact (Nat.pow_add 2 a b).symm
theorem z_two : zm (4611686018427387904 : UInt64) = 2 * FP.Core.one64 := by
  rw [two6, D6_z (by decide) (by decide) (by decide)]
  unfold FP.Core.one64
  rw [Nat.add_zero, ← Nat.pow_succ', p2 (show 52 + (1024 - 1) = 1074 + 1 by decide)]
theorem z_mil : zm (4841369599423283200 : UInt64) = 2 ^ 52 * FP.Core.one64 := by
  rw [mil6, D6_z (by decide) (by decide) (by decide), Nat.add_zero]
  unfold FP.Core.one64
  rw [show 1075 - 1 = 1074 by decide]
theorem N_two : Nn (4611686018427387904 : UInt64) := by rw [two6]; exact D6_N (by decide) (by decide)
theorem N_one : Nn (4607182418800017408 : UInt64) := by rw [one6]; exact D6_N (by decide) (by decide)
theorem N_mil : Nn (4841369599423283200 : UInt64) := by rw [mil6]; exact D6_N (by decide) (by decide)
theorem mul2 {E m : Nat} (h1 : 1 ≤ E) (hE : E + 1 < 2047) (hm : m < 2 ^ 52) : FP.dmul (D6 E m) 4611686018427387904 = D6 (E + 1) m := by
  have R := dmul_b (D6_N (show E < 2047 by omega) hm) N_two
  rw [D6_z h1 (by omega) hm, z_two] at R
  have e : (2 ^ 52 + m) * 2 ^ (E - 1) * (2 * FP.Core.one64) = (2 ^ 52 + m) * 2 ^ E * FP.Core.one64 := by
    obtain ⟨k, rfl⟩ : ∃ k, E = k + 1 := ⟨E - 1, by omega⟩
    rw [show k + 1 - 1 = k by omega, show 2 ^ (k + 1) = 2 ^ k * 2 from Nat.pow_succ _ _]
    generalize 2 ^ 52 + m = A
    generalize FP.Core.one64 = O
    generalize 2 ^ k = B
    simp only [Nat.mul_assoc]
  have u := R.1 (2 ^ 52 + m) E (by omega) (by omega) (Nat.le_of_eq e)
  have l := R.2 (2 ^ 52 + m) E (by omega) (by omega) (Nat.le_of_eq e.symm)
  refine zm_inj u.1 (D6_N hE hm) ?_
  rw [D6_z (by omega) hE hm, show E + 1 - 1 = E by omega]
  exact Nat.le_antisymm u.2 l
theorem b18_0 (pa : UInt64) {E m fu : Nat} (h1 : 1023 ≤ E) (hE : E < 2047) (hm : m < 2 ^ 52) (l4 l5 : Int32) : qX8_bitsOf_18 pa (fu + 1) (D6 E m) l4 l5 = qX8_bitsOf_47 pa (D6 E m) l4 := by
  rw [qX8_bitsOf_18]
  by_cases h : (1100 : Int32) ≤ l5
  · rw [if_pos h]
  · rw [if_neg h, if_pos]
    rw [cmp_b (D6_N hE hm) N_one, D6_n hE hm, show (4607182418800017408 : UInt64).toNat = 4607182418800017408 from rfl, if_neg (by omega)]
    split <;> decide
theorem b18 (pa : UInt64) {m : Nat} (hm : m < 2 ^ 52) (e : Nat) : ∀ d fu E j : Nat, E + d = 1023 → 1 ≤ E → d < fu → j + d < 1100 → qX8_bitsOf_18 pa fu (D6 E m) (nI (e + d)) (nI j) = qX8_bitsOf_47 pa (D6 1023 m) (nI e) := by
  intro d
  induction d with
  | zero =>
    intro fu E j h1 h2 h3 h4
    match fu, h3 with
    | fu + 1, _ =>
      have : E = 1023 := by omega
      subst this
      exact b18_0 pa (Nat.le_refl _) (by decide) hm _ _
  | succ d ih =>
    intro fu E j h1 h2 h3 h4
    match fu, h3 with
    | fu + 1, h3 =>
      rw [qX8_bitsOf_18, if_neg (show ¬ (1100 : Int32) ≤ nI j from nI_ge (b := 1100) (by omega) (by decide)), if_neg, mul2 h2 (by omega) hm, gn_ok (D6_N (by omega) hm), ltt_e, ltt_e, ltt_e, nI_1, show e + (d + 1) = e + d + 1 by omega, pk_m1, ih fu (E + 1) (j + 1) (by omega) (by omega) (by omega) (by omega)]
      rw [cmp_b (D6_N (by omega) hm) N_one, D6_n (by omega) hm, show (4607182418800017408 : UInt64).toNat = 4607182418800017408 from rfl, if_pos (by omega)]
      decide
theorem fin_shl : ∀ E, E < 2047 → (nI E).toInt64 <<< ((52 : Int32).toInt64 &&& 63) = lN (E * 2 ^ 52) := by decide +kernel
theorem b47 (pa : UInt64) {E m : Nat} (hE : E < 2047) (hm : m < 2 ^ 52) : qX8_bitsOf_47 pa (D6 1023 m) (nI E) = some (D6 E m).toInt64 := by
  have z1 := D6_z (show 1 ≤ 1023 by decide) (by decide) hm
  have z0 : zm (4607182418800017408 : UInt64) = 2 ^ 52 * 2 ^ 1022 := by
    rw [one6, D6_z (by decide) (by decide) (by decide)]
  obtain ⟨s1, s2⟩ := dsub_b (n := m) (K := 1022) (D6_N (E := 1023) (by decide) hm) N_one (by omega) (by decide) (by
    rw [z1, z0, show 1023 - 1 = 1022 by decide, Nat.add_mul])
  have R := dmul_b s1 N_mil
  rw [s2, z_mil] at R
  have e : m * 2 ^ 1022 * (2 ^ 52 * FP.Core.one64) = m * 2 ^ 1074 * FP.Core.one64 := by
    rw [← p2 (show 1022 + 52 = 1074 by decide)]
    generalize FP.Core.one64 = O
    generalize 2 ^ 1022 = B
    generalize 2 ^ 52 = C
    simp only [Nat.mul_assoc]
  have u := R.1 m 1074 (by omega) (by decide) (Nat.le_of_eq e)
  have l := R.2 m 1074 (by omega) (by decide) (Nat.le_of_eq e.symm)
  have hz : zm (FP.dmul (FP.dsub (D6 1023 m) 4607182418800017408) 4841369599423283200) = m * FP.Core.one64 := Nat.le_antisymm u.2 l
  have hd : FP.d2l (FP.dmul (FP.dsub (D6 1023 m) 4607182418800017408) 4841369599423283200) = lN m := by
    apply Int64.toInt.inj
    have h1 := FP.Core.d2l_val (Nn_ne u.1)
    obtain ⟨c, q, ev⟩ := u.1
    have hs : FP.Core.sgn (FP.Core.val64 (FP.dmul (FP.dsub (D6 1023 m) 4607182418800017408) 4841369599423283200)) = false := by rw [ev]; rfl
    unfold zm at hz
    rw [hs, hz, Nat.mul_div_cancel _ FP.Core.one64_pos] at h1
    rw [show FP.d2l = FP.Core.d2l from rfl, h1, pk_lT (by omega)]
    show max (-2 ^ 63) (min (2 ^ 63 - 1) (m : Int)) = m
    omega
  unfold qX8_bitsOf_47
  rw [gn_ok s1, gn_ok u.1, hd, fin_shl E hE, lN_zI (by omega), lN_zI (by omega), zI_add, ← Int.natCast_add, ← lN_zI (by omega)]
  rfl
theorem bits8 {E m : Nat} (h1 : 1 ≤ E) (hE : E < 1024) (hm : m < 2 ^ 52) : fX8_bitsOf (D6 E m) = some (D6 E m).toInt64 := by
  have N0 : Nn (0 : UInt64) := Nn_of (by decide)
  have hc : Op.cmpValue (FP.dcmp (D6 E m) 0) CmpOp.l = 1 := by
    rw [cmp_b (D6_N (by omega) hm) N0, D6_n (by omega) hm, show (0 : UInt64).toNat = 0 from rfl, if_neg (by omega), if_neg (by omega)]
  unfold fX8_bitsOf
  rw [hc, if_pos (by decide)]
  have k := b18 (D6 E m) hm E (1023 - E) FU E 0 (by omega) h1 (by unfold FU; omega) (by omega)
  rw [show E + (1023 - E) = 1023 by omega] at k
  rw [show (1023 : Int32) = nI 1023 from rfl, show (0 : Int32) = nI 0 from rfl, k, b47 (D6 E m) (by omega) hm]
theorem bits8' {v : UInt64} (hv : Nn v) (h : zm v = 0 ∨ 2 ^ 52 ≤ zm v) (hu : zm v < 2 ^ 1075) : fX8_bitsOf v = some v.toInt64 := by
  have N0 : Nn (0 : UInt64) := Nn_of (by decide)
  have z0 : zm (0 : UInt64) = 0 := by
    rw [zm_u N0]
    exact FP.Core.unitsOf_zero _
  rcases h with h | h
  · have : v = 0 := zm_inj hv N0 (by rw [h, z0])
    subst this
    have hc : Op.cmpValue (FP.dcmp 0 0) CmpOp.l = 0 := by
      rw [cmp_b N0 N0, if_neg (by decide), if_pos rfl]
    unfold fX8_bitsOf
    rw [hc, if_neg (by decide)]
    rfl
  · have e := zm_u hv
    have hb : (2 : Nat) ^ 52 * 1 = 2 ^ 52 := by decide
    have l : 1 * FP.Core.b64.tails ≤ v.toNat := by
      rw [← FP.Core.unitsOf_le_iff (f := FP.Core.b64), FP.Core.unitsOf_start (by decide), ← e, FP.Core.tails_b64]
      exact h
    have r : ¬ 1024 * FP.Core.b64.tails ≤ v.toNat := by
      rw [← FP.Core.unitsOf_le_iff (f := FP.Core.b64), FP.Core.unitsOf_start (by decide), ← e, FP.Core.tails_b64, ← Nat.pow_add]
      exact Nat.not_le.mpr hu
    rw [FP.Core.tails_b64] at l r
    have hd : v = D6 (v.toNat / 2 ^ 52) (v.toNat % 2 ^ 52) := by
      apply UInt64.toNat.inj
      rw [D6_n (by omega) (by omega)]
      omega
    have := bits8 (E := v.toNat / 2 ^ 52) (m := v.toNat % 2 ^ 52) (by omega) (by omega) (by omega)
    rw [← hd] at this
    exact this
theorem bits9 {v : UInt64} (hv : Nn v) : fJxe99ae_doubleToLongBits_ccdee v = some v.toInt64 := by
  have hc : Op.cmpValue (FP.dcmp v v) CmpOp.l = 0 := by
    rw [cmp_b hv hv, if_neg (by omega), if_pos rfl]
  unfold fJxe99ae_doubleToLongBits_ccdee fJxe99ae_isNaN_b9ae7
  rw [hc, if_pos rfl, bind_s, if_pos rfl]
