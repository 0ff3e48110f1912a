/-! walks by steps: the call -/
theorem mil_N : Nn (4696837146684686336 : UInt64) := Nn_of (by decide)
theorem mil_u : zm (4696837146684686336 : UInt64) ≤ 1 * 2 ^ 20 * FP.Core.one64 := by
  have e : (4696837146684686336 : UInt64) = D6 1042 4086334964629504 := by decide
  rw [e, D6_z (by decide) (by decide) (by decide)]
  refine Nat.le_trans (Nat.mul_le_mul_right _ (show 2 ^ 52 + 4086334964629504 ≤ 2 ^ 53 by decide)) ?_
  unfold FP.Core.one64
  rw [p2 (show 53 + (1042 - 1) = 1094 by decide), Nat.one_mul, p2 (show 20 + 1074 = 1094 by decide)]
  exact Nat.le_refl _
theorem Gd_mil {L K : Nat} {v : UInt64} (h : Gd L 1 K v) (hK : K ≤ 2000) : Nn (FP.dmul v 4696837146684686336) := by
  have ha := dmul_b h.1 mil_N
  refine (Rd_up ha (n := 1) (K := K + 20) (by decide) (by omega) ?_).1
  refine Nat.le_trans (Nat.mul_le_mul h.2.1 mil_u) ?_
  rw [← p2 (show K + 20 = K + 20 from rfl)]
  generalize FP.Core.one64 = o
  generalize 2 ^ K = u
  generalize 2 ^ 20 = v
  rw [Nat.one_mul, Nat.one_mul, Nat.one_mul, ← Nat.mul_assoc]
  exact Nat.le_refl _
theorem op_bySteps {x : SX8} {y : SX9} (h : Rel x y) (a b n c : Int32) : OpL (fX8_bySteps x a b n c) (fX9_bySteps y a b n c) := by
  have n1 : ¬ (1 : Int32) = 0 := by decide
  obtain ⟨P, W, w, hV, hN, hM⟩ := h.1
  have hW := hV.2.2.1
  have hP := hV.2.1
  by_cases hq : (0 ≤ a.toInt ∧ a.toInt < P) ∧ (0 ≤ b.toInt ∧ b.toInt < P)
  · obtain ⟨ha, hb⟩ := hq
    have e8 : fX8_bySteps x a b n c = qX8_bySteps_33 a b n c x (if (0 : Int32) ≤ n then (if n ≤ 30 then 0 else -6) else -4) := by
      unfold fX8_bySteps
      rw [isPoint8 hN.1 (by omega), if_pos ha, bind_s, if_neg n1, isPoint8 hN.1 (by omega), if_pos hb, bind_s, if_neg n1, rON, bind_s]
    rw [e8]
    unfold fX9_bySteps
    rw [isPoint9 hM.1 (by omega), if_pos ha, bind_s, if_neg n1, isPoint9 hM.1 (by omega), if_pos hb, bind_s, if_neg n1]
    by_cases h1 : (0 : Int32) ≤ n
    · rw [if_pos h1, if_pos h1]
      by_cases h30 : n ≤ 30
      · rw [if_pos h30, if_pos h30, isPart9, bind_s]
        by_cases hc : c = 0 ∨ c = 1
        · obtain ⟨p, hp, rfl, hp2⟩ := i32_nn ha.1
          obtain ⟨q, hq, rfl, hq2⟩ := i32_nn hb.1
          have hn0 : 0 ≤ n.toInt := by rw [i32_le, i32_0] at h1; omega
          obtain ⟨m, hm, rfl, hm2⟩ := i32_nn hn0
          have hm30 : m ≤ 30 := by rw [i32_le, show (30 : Int32).toInt = 30 by decide] at h30; omega
          obtain ⟨a', b', F8, F9, G8, G9, H, o1, o2, o2z, o3, o4⟩ := walk_both (y := at9 y (nI W) (nI (2 ^ W - 1))) hV.g hN hM (at9_MA hM _) hm30 (show p < P by omega) (w_spread x) (nI q) c
          have hg := o2 q (by omega)
          have he := o1 q (by omega)
          obtain ⟨y', hy'⟩ : ∃ y', y' = dn9 (at9 y (nI W) (nI (2 ^ W - 1))) F9 G9 := ⟨_, rfl⟩
          have hyn : m_now y' q = F8 q := by rw [hy', dn9_n, he]
          obtain ⟨x', hx'⟩ : ∃ x', x' = w_spread_s x (a', b', F8, G8, H) := ⟨_, rfl⟩
          have hxn : sp_now (w_spread x') q = F8 q := by rw [hx']
          have hr : Rel x' y' := by
            rw [hx', hy']
            exact rel_spread (dn9_rel (at9_rel h _ _) _ _) _
          rw [← hy'] at o4
          have e33 : qX8_bySteps_33 (nI p) (nI q) (nI m) c x 0 = qX8_bySteps_55 (nI p) (nI q) (nI m) c x 0 := by
            unfold qX8_bySteps_33
            rw [if_pos rfl]
            rcases hc with hc | hc
            · rw [if_pos hc]
            · rw [if_neg (by rw [hc]; decide), if_pos hc]
          rw [e33, if_pos hc, if_neg n1, allThere9 (by omega) hM, bind_s, o4]
          unfold qX8_bySteps_55 fin9
          rw [if_pos rfl, o3, bind_s, ← hx', ltt_e, ga_ok (by omega) (by decide), hxn, ltt_e, ga_ok (by omega) (by decide), ga_ok (by omega) (by decide), hyn]
          rcases hc with hc | hc
          · rw [if_pos hc, if_pos hc, bits8' hg.1 ?_ ?_, bits9 hg.1]
            · exact ⟨_, x', y', rfl, rfl, hr⟩
            · rcases hg.2.2 with z | z
              · exact Or.inl z
              · exact Or.inr (Nat.le_trans (Nat.pow_le_pow_right (by decide) (by omega)) z)
            · have z1 := zs_le (F := F8) 6 (show q < 6 by omega)
              have z2 : m * (198 * DE) ≤ 30 * (198 * DE) := Nat.mul_le_mul_right _ hm30
              have z3 := DE_p
              rw [← DE_45]
              omega
          · have hc0 : ¬ c = 0 := by rw [hc]; decide
            rw [if_neg hc0, if_neg hc0, gn_ok (Gd_mil hg (by omega)), gn_ok (Gd_mil hg (by omega))]
            exact ⟨_, x', y', rfl, rfl, hr⟩
        · have hc0 : ¬ c = 0 := fun e => hc (Or.inl e)
          have hc1 : ¬ c = 1 := fun e => hc (Or.inr e)
          refine opL_far h (c := -2) (by decide) ?_ ?_
          · unfold qX8_bySteps_33 qX8_bySteps_55
            rw [if_pos rfl, if_neg hc0, if_neg hc1, if_neg (by decide)]
            exact bind_id (fX8_refused x (-2))
          · rw [if_neg hc, if_pos rfl]
            exact bind_id (fX9_far y (-2))
      · rw [if_neg h30, if_neg h30]
        refine opL_far h (c := -6) (by decide) ?_ (bind_id (fX9_far y (-6)))
        unfold qX8_bySteps_33 qX8_bySteps_55
        rw [if_neg (by decide), if_neg (by decide)]
        exact bind_id (fX8_refused x (-6))
    · rw [if_neg h1, if_neg h1]
      refine opL_far h (c := -4) (by decide) ?_ (bind_id (fX9_far y (-4)))
      unfold qX8_bySteps_33 qX8_bySteps_55
      rw [if_neg (by decide), if_neg (by decide)]
      exact bind_id (fX8_refused x (-4))
  · refine opL_far h (c := -1) (by decide) ?_ ?_
    · have e : qX8_bySteps_22 a b n c (qX8_bySteps_33 a b n c) x = fX8_refused x (-1) := by
        unfold qX8_bySteps_22 qX8_bySteps_33 qX8_bySteps_55
        rw [if_neg (by decide), if_neg (by decide)]
        exact bind_id (fX8_refused x (-1))
      unfold fX8_bySteps
      rw [isPoint8 hN.1 (by omega), bind_s, e]
      by_cases ha : 0 ≤ a.toInt ∧ a.toInt < P
      · rw [if_pos ha, if_neg n1, isPoint8 hN.1 (by omega), bind_s, if_neg (fun z => hq ⟨ha, z⟩), if_pos rfl]
      · rw [if_neg ha, if_pos rfl]
    · have e : qX9_bySteps_16 a b n c y = fX9_far y (-1) := by
        unfold qX9_bySteps_16
        exact bind_id (fX9_far y (-1))
      unfold fX9_bySteps
      rw [isPoint9 hM.1 (by omega), bind_s, e]
      by_cases ha : 0 ≤ a.toInt ∧ a.toInt < P
      · rw [if_pos ha, if_neg n1, isPoint9 hM.1 (by omega), bind_s, if_neg (fun z => hq ⟨ha, z⟩), if_pos rfl]
      · rw [if_neg ha, if_pos rfl]
