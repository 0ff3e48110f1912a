/-! least terms -/
theorem lN_zI {n : Nat} (h : n < 2 ^ 63) : lN n = zI n := by
  apply Int64.toInt_inj.mp
  rw [pk_lT h, zI_t (by omega) (by omega)]
theorem half_lt {Y r k : Nat} (h : Y < 2 ^ (k + 1)) (hr0 : 0 < r) (hr : r < Y) : Y % r < 2 ^ k := by
  rw [Nat.pow_succ] at h
  have h1 := Nat.mod_lt Y hr0
  by_cases h2 : r ≤ 2 ^ k
  · omega
  · have h3 : Y % r = Y - r := by
      rw [Nat.mod_eq_sub_mod (by omega), Nat.mod_eq_of_lt (by omega)]
    omega
theorem gcd8_loop (pa pb : Int64) : ∀ (k fu i X Y : Nat), Y < 2 ^ k → k ≤ 60 → X < 2 ^ 63 → i + 2 * k ≤ 100 → 2 * k < fu → qX8_gcd_9 pa pb fu (lN X) (lN Y) (nI i) = some (lN (Nat.gcd X Y)) := by
  have z0 : ∀ fu i X, 0 < fu → qX8_gcd_9 pa pb fu (lN X) (lN 0) (nI i) = some (lN X) := by
    intro fu i X hf
    match fu, hf with
    | fu + 1, _ =>
      unfold qX8_gcd_9
      by_cases h : (100 : Int32) ≤ nI i
      · rw [if_pos h]
      · rw [if_neg h, if_pos (show lN 0 = (0 : Int64) by decide)]
  have st : ∀ fu i X Y, 0 < Y → Y < 2 ^ 63 → X < 2 ^ 63 → i < 100 → qX8_gcd_9 pa pb (fu + 1) (lN X) (lN Y) (nI i) = qX8_gcd_9 pa pb fu (lN Y) (lN (X % Y)) (nI (i + 1)) := by
    intro fu i X Y h1 h2 h3 h4
    have hne : ¬ lN Y = (0 : Int64) := by
      rw [show (0 : Int64) = lN 0 by decide, pk_lEQ h2 (by decide)]
      omega
    rw [qX8_gcd_9, if_neg (show ¬ (100 : Int32) ≤ nI i from nI_ge (b := 100) (by omega) (by decide)), if_neg hne]
    unfold gzl
    rw [if_neg hne, pk_lRem h3 h1 h2, ltt_e, ltt_e, nI_1]
  intro k
  induction k with
  | zero =>
    intro fu i X Y hY hk hX hi hf
    have : Y = 0 := by omega
    subst this
    rw [z0 fu i X (by omega), Nat.gcd_zero_right]
  | succ k ih =>
    intro fu i X Y hY hk hX hi hf
    have hY63 : Y < 2 ^ 63 := Nat.lt_of_lt_of_le hY (Nat.pow_le_pow_right (by decide) (by omega))
    by_cases h0 : Y = 0
    · subst h0
      rw [z0 fu i X (by omega), Nat.gcd_zero_right]
    · match fu, hf with
      | fu + 1, hf =>
        rw [st fu i X Y (by omega) hY63 hX (by omega)]
        have hr := Nat.mod_lt X (show 0 < Y by omega)
        have hg : Nat.gcd X Y = Nat.gcd Y (X % Y) := by
          rw [Nat.gcd_comm X Y, Nat.gcd_rec Y X, Nat.gcd_comm]
        by_cases hr0 : X % Y = 0
        · rw [hr0, z0 fu (i + 1) Y (by omega), hg, hr0, Nat.gcd_zero_right]
        · match fu, hf with
          | fu + 1, hf =>
            rw [st fu (i + 1) Y (X % Y) (by omega) (by omega) hY63 (by omega), ih fu (i + 1 + 1) (X % Y) (Y % (X % Y)) (half_lt hY (by omega) hr) (by omega) (by omega) (by omega) (by omega), hg]
            rw [Nat.gcd_comm Y (X % Y), Nat.gcd_rec (X % Y) Y, Nat.gcd_comm]
theorem gcd9_loop (pa pb : Int64) : ∀ (k fu X Y : Nat), Y < 2 ^ k → k ≤ 60 → X < 2 ^ 63 → 2 * k < fu → qX9_common_17 pa pb fu (lN X) (lN Y) = some (lN (Nat.gcd X Y)) := by
  have z0 : ∀ fu X, 0 < fu → qX9_common_17 pa pb fu (lN X) (lN 0) = some (lN X) := by
    intro fu X hf
    match fu, hf with
    | fu + 1, _ =>
      unfold qX9_common_17
      rw [if_pos (show lN 0 = (0 : Int64) by decide)]
  have st : ∀ fu X Y, 0 < Y → Y < 2 ^ 63 → X < 2 ^ 63 → qX9_common_17 pa pb (fu + 1) (lN X) (lN Y) = qX9_common_17 pa pb fu (lN Y) (lN (X % Y)) := by
    intro fu X Y h1 h2 h3
    have hne : ¬ lN Y = (0 : Int64) := by
      rw [show (0 : Int64) = lN 0 by decide, pk_lEQ h2 (by decide)]
      omega
    rw [qX9_common_17, if_neg hne]
    unfold gzl
    rw [if_neg hne, pk_lRem h3 h1 h2, ltt_e]
  intro k
  induction k with
  | zero =>
    intro fu X Y hY hk hX hf
    have : Y = 0 := by omega
    subst this
    rw [z0 fu X (by omega), Nat.gcd_zero_right]
  | succ k ih =>
    intro fu X Y hY hk hX hf
    have hY63 : Y < 2 ^ 63 := Nat.lt_of_lt_of_le hY (Nat.pow_le_pow_right (by decide) (by omega))
    by_cases h0 : Y = 0
    · subst h0
      rw [z0 fu X (by omega), Nat.gcd_zero_right]
    · match fu, hf with
      | fu + 1, hf =>
        rw [st fu X Y (by omega) hY63 hX]
        have hr := Nat.mod_lt X (show 0 < Y by omega)
        have hg : Nat.gcd X Y = Nat.gcd Y (X % Y) := by
          rw [Nat.gcd_comm X Y, Nat.gcd_rec Y X, Nat.gcd_comm]
        by_cases hr0 : X % Y = 0
        · rw [hr0, z0 fu Y (by omega), hg, hr0, Nat.gcd_zero_right]
        · match fu, hf with
          | fu + 1, hf =>
            rw [st fu Y (X % Y) (by omega) (by omega) hY63, ih fu (X % Y) (Y % (X % Y)) (half_lt hY (by omega) hr) (by omega) (by omega) (by omega), hg]
            rw [Nat.gcd_comm Y (X % Y), Nat.gcd_rec (X % Y) Y, Nat.gcd_comm]
theorem zI_lt {a b : Int} (h1 : -(2 ^ 63) ≤ a) (h2 : a < 2 ^ 63) (h3 : -(2 ^ 63) ≤ b) (h4 : b < 2 ^ 63) : zI a < zI b ↔ a < b := by rw [i64_lt, zI_t h1 h2, zI_t h3 h4]
theorem zI_le {a b : Int} (h1 : -(2 ^ 63) ≤ a) (h2 : a < 2 ^ 63) (h3 : -(2 ^ 63) ≤ b) (h4 : b < 2 ^ 63) : zI a ≤ zI b ↔ a ≤ b := by rw [i64_le, zI_t h1 h2, zI_t h3 h4]
theorem lt8 {a b : Int} (h1 : -(2 ^ 63) < a) (h2 : a < 2 ^ 63) (h3 : 0 < b) (h4 : b < 2 ^ 48) (p : Int32) : fX8_leastTerms (zI a) (zI b) p = some ((if p = 0 then zI a else zI b) / lN (Nat.gcd a.natAbs b.natAbs)) := by
  have hab : (if (0 : Int64) < zI a then zI a else - zI a) = lN a.natAbs := by
    by_cases h0 : 0 < a
    · rw [if_pos (by rw [show (0 : Int64) = zI 0 from rfl, zI_lt (by omega) (by omega) (by omega) h2]; exact h0), lN_zI (by omega)]
      congr 1
      omega
    · rw [if_neg (by rw [show (0 : Int64) = zI 0 from rfl, zI_lt (by omega) (by omega) (by omega) h2]; exact h0), zI_neg, lN_zI (by omega)]
      congr 1
      omega
  have hb : zI b = lN b.natAbs := by
    rw [lN_zI (by omega)]
    congr 1
    omega
  have hg := gcd8_loop (lN a.natAbs) (lN b.natAbs) 48 FU 0 a.natAbs b.natAbs (by omega) (by omega) (by omega) (by omega) (by unfold FU; omega)
  have hgp : 0 < Nat.gcd a.natAbs b.natAbs := Nat.gcd_pos_of_pos_right _ (by omega)
  have hgl : Nat.gcd a.natAbs b.natAbs ≤ b.natAbs := Nat.gcd_le_right _ (by omega)
  have hne : ¬ lN (Nat.gcd a.natAbs b.natAbs) = (0 : Int64) := by
    rw [show (0 : Int64) = lN 0 by decide, pk_lEQ (by omega) (by decide)]
    omega
  have h10 : ∀ t0 : Int64, qX8_leastTerms_10 (zI a) (zI b) p t0 = some (t0 / lN (Nat.gcd a.natAbs b.natAbs)) := by
    intro t0
    unfold qX8_leastTerms_10 fX8_gcd fX8_over gzl
    rw [hab, hb, show (0 : Int32) = nI 0 from rfl, hg, bind_s, if_neg hne, if_neg hne, bind_s]
  unfold fX8_leastTerms
  rw [h10, h10]
  by_cases hp : p = 0
  · rw [if_pos hp, if_pos hp]
  · rw [if_neg hp, if_neg hp]
theorem lt9 {a b : Int} (h1 : -(2 ^ 63) < a) (h2 : a < 2 ^ 63) (h3 : 0 < b) (h4 : b < 2 ^ 48) (p : Int32) : fX9_partOf (zI a) (zI b) p = some ((if p = 0 then zI a else zI b) / lN (Nat.gcd a.natAbs b.natAbs)) := by
  have hb : zI b = lN b.natAbs := by
    rw [lN_zI (by omega)]
    congr 1
    omega
  have hg := gcd9_loop (zI a) (zI b) 48 FU a.natAbs b.natAbs (by omega) (by omega) (by omega) (by unfold FU; omega)
  have hgp : 0 < Nat.gcd a.natAbs b.natAbs := Nat.gcd_pos_of_pos_right _ (by omega)
  have hgl : Nat.gcd a.natAbs b.natAbs ≤ b.natAbs := Nat.gcd_le_right _ (by omega)
  have hne : ¬ lN (Nat.gcd a.natAbs b.natAbs) = (0 : Int64) := by
    rw [show (0 : Int64) = lN 0 by decide, pk_lEQ (by omega) (by decide)]
    omega
  have hcm : fX9_common (zI a) (zI b) = some (lN (Nat.gcd a.natAbs b.natAbs)) := by
    unfold fX9_common qX9_common_12
    by_cases h0 : 0 ≤ a
    · rw [if_pos (by rw [show (0 : Int64) = zI 0 from rfl, zI_le (by omega) (by omega) (by omega) h2]; exact h0)]
      have ha : zI a = lN a.natAbs := by
        rw [lN_zI (by omega)]
        congr 1
        omega
      rw [← hg, hb, ← ha]
    · rw [if_neg (by rw [show (0 : Int64) = zI 0 from rfl, zI_le (by omega) (by omega) (by omega) h2]; exact h0)]
      have ha : - zI a = lN a.natAbs := by
        rw [zI_neg, lN_zI (by omega)]
        congr 1
        omega
      rw [← hg, hb, ← ha]
  have h10 : ∀ t0 : Int64, qX9_partOf_10 (zI a) (zI b) p t0 = some (t0 / lN (Nat.gcd a.natAbs b.natAbs)) := by
    intro t0
    unfold qX9_partOf_10 gzl
    rw [hcm, bind_s, if_neg hne]
  unfold fX9_partOf
  rw [h10, h10]
  by_cases hp : p = 0
  · rw [if_pos hp, if_pos hp]
  · rw [if_neg hp, if_neg hp]
theorem LT {a b : Int} (h1 : -(2 ^ 63) < a) (h2 : a < 2 ^ 63) (h3 : 0 < b) (h4 : b < 2 ^ 48) (p : Int32) : ∃ r, fX8_leastTerms (zI a) (zI b) p = some r ∧ fX9_partOf (zI a) (zI b) p = some r := ⟨_, lt8 h1 h2 h3 h4 p, lt9 h1 h2 h3 h4 p⟩
/-- nothing above: 0 and 1 -/
theorem LT0 {b : Int} (h3 : 0 < b) (h4 : b < 2 ^ 48) (p : Int32) : ∃ r, fX8_leastTerms 0 (zI b) p = some r ∧ fX9_partOf 0 1 p = some r := by
  have e8 := lt8 (a := 0) (b := b) (by decide) (by decide) h3 h4 p
  have e9 := lt9 (a := 0) (b := 1) (by decide) (by decide) (by decide) (by decide) p
  refine ⟨_, e8, e9.trans ?_⟩
  congr 1
  rw [show (0 : Int).natAbs = 0 from rfl, show (1 : Int).natAbs = 1 from rfl, Nat.gcd_zero_left, Nat.gcd_zero_left]
  by_cases hp : p = 0
  · rw [if_pos hp, if_pos hp]
    have hb : lN b.natAbs = zI b := by
      rw [lN_zI (by omega)]
      congr 1
      omega
    apply Int64.toInt_inj.mp
    rw [hb, Int64.toInt_div, Int64.toInt_div, zI_t (a := 0) (by decide) (by decide), Int.zero_tdiv, Int.zero_tdiv]
  · rw [if_neg hp, if_neg hp]
    have hb : lN b.natAbs = zI b := by
      rw [lN_zI (by omega)]
      congr 1
      omega
    apply Int64.toInt_inj.mp
    rw [hb, Int64.toInt_div, Int64.toInt_div, zI_t (a := b) (by omega) (by omega), zI_t (a := 1) (by decide) (by decide), Int.tdiv_self (by omega), show (lN 1).toInt = 1 by decide]
    rfl
theorem D_48 {n q G : Nat} {M : Nat → Nat → Int} (h : GL n M) (hn : n ≤ 5) (hq : sm n (fun i => M i i) ≤ (q : Int)) (hq1 : 1 ≤ q) (hq2 : q ≤ 364) : 0 < dt n M ∧ dt n M < 2 ^ 48 := by
  have hd := (Iv_all h n (Nat.le_refl n)).1
  refine ⟨hd, ?_⟩
  have q1 : (q : Int) ≤ 364 := by omega
  have q0 : (0 : Int) ≤ q := by omega
  have s2 : (q : Int) * q ≤ 364 * 364 := mm q1 q1 q0 (by decide)
  have s2n := Int.mul_nonneg q0 q0
  have s3 : (q : Int) * q * q ≤ 364 * 364 * 364 := mm s2 q1 q0 (by decide)
  have s3n := Int.mul_nonneg s2n q0
  have s4 : (q : Int) * q * q * q ≤ 364 * 364 * 364 * 364 := mm s3 q1 q0 (by decide)
  by_cases h3 : n ≤ 3
  · have := (d_bnd h hq hq1 (Nat.le_refl n)).1 h3
    omega
  · by_cases h4 : n = 4
    · have := (d_bnd h hq hq1 (Nat.le_refl n)).2 h4
      omega
    · have h5 : n = 5 := by omega
      subst h5
      have b4 := (d_bnd h hq hq1 (show 4 ≤ 5 by decide)).2 rfl
      have b5 : dt 5 M ≤ dt 4 M * M 4 4 := D_le h (by decide)
      have d4 := (Iv_all h 4 (by decide)).1
      have hA : M 4 4 ≤ q := Int.le_trans (sm_ge1 (f := fun i => M i i) (fun i hi => gl_diag h hi) (show 4 < 5 by decide)) hq
      have u := mm (show dt 4 M ≤ 68574961 by omega) (show M 4 4 ≤ 364 by omega) (gl_diag h (by decide)) (by decide)
      omega
theorem Xk_cg {A : Nat → Nat → Int} {k j : Nat} {g h : Nat → Int} (e : ∀ i, i < k → g i = h i) : Xk A k j g = Xk A k j h := by
  unfold Xk
  apply dt_cg
  intro i q hi _
  unfold rc
  by_cases hq : q = j
  · rw [if_pos hq, if_pos hq, e i hi]
  · rw [if_neg hq, if_neg hq]
