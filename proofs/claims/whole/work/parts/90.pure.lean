/-! the law -/
theorem stI {sx : Nat → Int32} {r8 : Option (Int32 × SX8)} {r9 : Option (Int32 × SX9)} (h : OpI r8 r9) {K : SX8 → SX9 → Option Int32} (hK : ∀ x y, Rel x y → K x y = some 1) : (r8.bind fun o => r9.bind fun o' => if o.1 = o'.1 then K o.2 o'.2 else some 0) = some 1 := by
  obtain ⟨r, x, y, e8, e9, hR⟩ := h
  rw [e8, e9, bind_s, bind_s, if_pos rfl]
  exact hK x y hR
theorem stL {sx : Nat → Int32} {r8 : Option (Int64 × SX8)} {r9 : Option (Int64 × SX9)} (h : OpL r8 r9) {K : SX8 → SX9 → Option Int32} (hK : ∀ x y, Rel x y → K x y = some 1) : (r8.bind fun o => r9.bind fun o' => if o.1 = o'.1 then K o.2 o'.2 else some 0) = some 1 := by
  obtain ⟨r, x, y, e8, e9, hR⟩ := h
  rw [e8, e9, bind_s, bind_s, if_pos rfl]
  exact hK x y hR
theorem law_loop (sL : Nat) (sx : Nat → Int32) (hL : sL ≤ 3072) : ∀ (d fu i : Nat) (xs : SX8) (xt : SX9), sL ≤ 6 * d + i → d < fu → i ≤ 6000 → Rel xs xt → qL_law_18 sL sx fu xs xt (nI i) = some 1 := by
  have i6 : (6 : Int32).toInt = 6 := by decide
  have hcond : ∀ i, i ≤ 6000 → (((Int32.ofNat sL) - (6 : Int32)) < nI i ↔ sL < i + 6) := by
    intro i hi
    have e : (Int32.ofNat sL - (6 : Int32)).toInt = (sL : Int) - 6 := by
      have := pk_sub_toInt (a := sL) (b := 6) (by omega) (by decide)
      exact this
    rw [i32_lt, e, nI_toInt (by omega)]
    omega
  intro d
  induction d with
  | zero =>
    intro fu i xs xt h1 h2 h3 hR
    match fu, h2 with
    | fu + 1, _ =>
      rw [qL_law_18, if_pos ((hcond i h3).mpr (by omega))]
  | succ d ih =>
    intro fu i xs xt h1 h2 h3 hR
    match fu, h2 with
    | fu + 1, h2 =>
      by_cases hend : sL < i + 6
      · rw [qL_law_18, if_pos ((hcond i h3).mpr hend)]
      · have hK : ∀ x y, Rel x y → qL_law_1763 sL sx (qL_law_18 sL sx fu) x y (nI i) = some 1 := by
          intro x y hxy
          unfold qL_law_1763
          rw [ltt_e, show (6 : Int32) = nI 6 from rfl, nI_add]
          exact ih fu (i + 6) x y (by omega) (by omega) (by omega) hxy
        have g0 : ∀ K : Nat → Option Int32, ga sL (nI i) K = K i := fun K => ga_ok (by omega) (by omega)
        have g1 : ∀ K : Nat → Option Int32, ga sL (nI i + 1) K = K (i + 1) := fun K => by rw [nI_1]; exact ga_ok (by omega) (by omega)
        have g2 : ∀ K : Nat → Option Int32, ga sL (nI i + 2) K = K (i + 2) := fun K => by rw [show (2 : Int32) = nI 2 from rfl, nI_add]; exact ga_ok (by omega) (by omega)
        have g3 : ∀ K : Nat → Option Int32, ga sL (nI i + 3) K = K (i + 3) := fun K => by rw [show (3 : Int32) = nI 3 from rfl, nI_add]; exact ga_ok (by omega) (by omega)
        have g4 : ∀ K : Nat → Option Int32, ga sL (nI i + 4) K = K (i + 4) := fun K => by rw [show (4 : Int32) = nI 4 from rfl, nI_add]; exact ga_ok (by omega) (by omega)
        have g5 : ∀ K : Nat → Option Int32, ga sL (nI i + 5) K = K (i + 5) := fun K => by rw [show (5 : Int32) = nI 5 from rfl, nI_add]; exact ga_ok (by omega) (by omega)
        rw [qL_law_18, if_neg (fun z => hend ((hcond i h3).mp z)), g0]
        generalize sx i &&& 63 = c
        by_cases c0 : c = 0
        · rw [if_pos c0]
          simp only [g1]
          exact stI (sx := sx) (op_letter hR (sx (i + 1))) hK
        rw [if_neg c0]
        by_cases c1 : c = 1
        · rw [if_pos c1]
          exact stI (sx := sx) (op_tells hR) hK
        rw [if_neg c1]
        by_cases c2 : c = 2
        · rw [if_pos c2]
          simp only [g1]
          exact stI (sx := sx) (op_points hR (sx (i + 1))) hK
        rw [if_neg c2]
        by_cases c3 : c = 3
        · rw [if_pos c3]
          simp only [g1, g2, g3, g4]
          exact stI (sx := sx) (op_way hR (sx (i + 1)) (sx (i + 2)) (sx (i + 3)) (sx (i + 4))) hK
        rw [if_neg c3]
        by_cases c4 : c = 4
        · rw [if_pos c4]
          simp only [g1, g2, g3]
          exact stI (sx := sx) (op_kind hR (sx (i + 1)) (sx (i + 2)) (sx (i + 3))) hK
        rw [if_neg c4]
        by_cases c5 : c = 5
        · rw [if_pos c5]
          simp only [g1, g2]
          exact stI (sx := sx) (op_load hR (sx (i + 1)) (sx (i + 2))) hK
        rw [if_neg c5]
        by_cases c6 : c = 6
        · rw [if_pos c6]
          simp only [g1, g2]
          exact stI (sx := sx) (op_length hR (sx (i + 1)) (sx (i + 2))) hK
        rw [if_neg c6]
        by_cases c7 : c = 7
        · rw [if_pos c7]
          simp only [g1]
          exact stI (sx := sx) (op_lose hR (sx (i + 1))) hK
        rw [if_neg c7]
        by_cases c8 : c = 8
        · rw [if_pos c8]
          simp only [g1, g2]
          exact stI (sx := sx) (op_of hR (sx (i + 1)) (sx (i + 2))) hK
        rw [if_neg c8]
        by_cases c9 : c = 9
        · rw [if_pos c9]
          simp only [g1]
          exact stI (sx := sx) (op_reaches hR (sx (i + 1))) hK
        rw [if_neg c9]
        by_cases c10 : c = 10
        · rw [if_pos c10]
          simp only [g1, g2, g3]
          exact stL (sx := sx) (op_time hR (sx (i + 1)) (sx (i + 2)) (sx (i + 3))) hK
        rw [if_neg c10]
        by_cases c11 : c = 11
        · rw [if_pos c11]
          simp only [g1, g2, g3]
          exact stL (sx := sx) (op_steps hR (sx (i + 1)) (sx (i + 2)) (sx (i + 3))) hK
        rw [if_neg c11]
        by_cases c12 : c = 12
        · rw [if_pos c12]
          simp only [g1, g2, g3]
          exact stL (sx := sx) (op_commute hR (sx (i + 1)) (sx (i + 2)) (sx (i + 3))) hK
        rw [if_neg c12]
        by_cases c13 : c = 13
        · rw [if_pos c13]
          simp only [g1, g2, g3, g4]
          exact stL (sx := sx) (op_visits hR (sx (i + 1)) (sx (i + 2)) (sx (i + 3)) (sx (i + 4))) hK
        rw [if_neg c13]
        by_cases c14 : c = 14
        · rw [if_pos c14]
          simp only [g1, g2, g3]
          exact stL (sx := sx) (op_resistance hR (sx (i + 1)) (sx (i + 2)) (sx (i + 3))) hK
        rw [if_neg c14]
        by_cases c15 : c = 15
        · rw [if_pos c15]
          simp only [g1, g2, g3, g4]
          exact stL (sx := sx) (op_ahead hR (sx (i + 1)) (sx (i + 2)) (sx (i + 3)) (sx (i + 4))) hK
        rw [if_neg c15]
        by_cases c16 : c = 16
        · rw [if_pos c16]
          simp only [g1, g2, g3, g4]
          exact stL (sx := sx) (op_flow hR (sx (i + 1)) (sx (i + 2)) (sx (i + 3)) (sx (i + 4))) hK
        rw [if_neg c16]
        by_cases c17 : c = 17
        · rw [if_pos c17]
          simp only [g1, g2]
          exact stI (sx := sx) (op_added hR (sx (i + 1)) (sx (i + 2))) hK
        rw [if_neg c17]
        by_cases c18 : c = 18
        · rw [if_pos c18]
          simp only [g1, g2]
          exact stI (sx := sx) (op_missed hR (sx (i + 1)) (sx (i + 2))) hK
        rw [if_neg c18]
        by_cases c19 : c = 19
        · rw [if_pos c19]
          simp only [g1, g2]
          exact stI (sx := sx) (op_bridges hR (sx (i + 1)) (sx (i + 2))) hK
        rw [if_neg c19]
        by_cases c20 : c = 20
        · rw [if_pos c20]
          simp only [g1]
          exact stI (sx := sx) (op_farthest hR (sx (i + 1))) hK
        rw [if_neg c20]
        by_cases c21 : c = 21
        · rw [if_pos c21]
          exact stI (sx := sx) (op_middle hR) hK
        rw [if_neg c21]
        by_cases c22 : c = 22
        · rw [if_pos c22]
          simp only [g1, g2, g3, g4]
          exact stL (sx := sx) (op_sure hR (sx (i + 1)) (sx (i + 2)) (sx (i + 3)) (sx (i + 4))) hK
        rw [if_neg c22]
        by_cases c23 : c = 23
        · rw [if_pos c23]
          simp only [g1, g2, g3, g4, g5]
          exact stL (sx := sx) (op_fast hR (sx (i + 1)) (sx (i + 2)) (sx (i + 3)) (sx (i + 4)) (sx (i + 5))) hK
        rw [if_neg c23]
        by_cases c24 : c = 24
        · rw [if_pos c24]
          simp only [g1, g2, g3, g4]
          exact stL (sx := sx) (op_bySteps hR (sx (i + 1)) (sx (i + 2)) (sx (i + 3)) (sx (i + 4))) hK
        rw [if_neg c24]
        by_cases c25 : c = 25
        · rw [if_pos c25]
          simp only [g1, g2, g3, g4, g5]
          exact stI (sx := sx) (op_lots hR (sx (i + 1)) (sx (i + 2)) (sx (i + 3)) (sx (i + 4)) (sx (i + 5))) hK
        rw [if_neg c25]
        by_cases c26 : c = 26
        · rw [if_pos c26]
          simp only [g1, g2, g3]
          exact stI (sx := sx) (op_says hR (sx (i + 1)) (sx (i + 2)) (sx (i + 3))) hK
        rw [if_neg c26]
        by_cases c27 : c = 27
        · rw [if_pos c27]
          simp only [g1, g2]
          exact stI (sx := sx) (op_whatIs hR (sx (i + 1)) (sx (i + 2))) hK
        rw [if_neg c27]
        by_cases c28 : c = 28
        · rw [if_pos c28]
          simp only [g1]
          exact stI (sx := sx) (op_row hR (sx (i + 1))) hK
        rw [if_neg c28]
        by_cases c29 : c = 29
        · rw [if_pos c29]
          exact stI (sx := sx) (op_clear hR) hK
        rw [if_neg c29]
        by_cases c30 : c = 30
        · rw [if_pos c30]
          simp only [g1, g2]
          exact stI (sx := sx) (op_list hR (sx (i + 1)) (sx (i + 2))) hK
        rw [if_neg c30]
        by_cases c31 : c = 31
        · rw [if_pos c31]
          simp only [g1, g2, g3, g4]
          exact stI (sx := sx) (op_put hR (sx (i + 1)) (sx (i + 2)) ((((sx (i + 3)).toInt64) <<< ((32 : Int32).toInt64 &&& 63)) ||| (((sx (i + 4)).toInt64) &&& (4294967295 : Int64)))) hK
        rw [if_neg c31]
        by_cases c32 : c = 32
        · rw [if_pos c32]
          simp only [g1, g2]
          exact stL (sx := sx) (op_look hR (sx (i + 1)) (sx (i + 2))) hK
        rw [if_neg c32]
        by_cases c33 : c = 33
        · rw [if_pos c33]
          simp only [g1, g2, g3]
          exact stI (sx := sx) (op_lays hR (sx (i + 1)) (sx (i + 2)) (sx (i + 3))) hK
        rw [if_neg c33]
        by_cases c34 : c = 34
        · rw [if_pos c34]
          simp only [g1, g2]
          exact stI (sx := sx) (op_judge hR (sx (i + 1)) (sx (i + 2))) hK
        rw [if_neg c34]
        by_cases c35 : c = 35
        · rw [if_pos c35]
          simp only [g1, g2, g3]
          exact stI (sx := sx) (op_slot hR (sx (i + 1)) (sx (i + 2)) (sx (i + 3))) hK
        rw [if_neg c35]
        by_cases c36 : c = 36
        · rw [if_pos c36]
          simp only [g1, g2, g3]
          exact stI (sx := sx) (op_slots hR (sx (i + 1)) (sx (i + 2)) (sx (i + 3))) hK
        rw [if_neg c36]
        by_cases c37 : c = 37
        · rw [if_pos c37]
          simp only [g1, g2, g3]
          exact stI (sx := sx) (op_slotted hR (sx (i + 1)) (sx (i + 2)) (sx (i + 3))) hK
        rw [if_neg c37]
        by_cases c38 : c = 38
        · rw [if_pos c38]
          simp only [g1, g2]
          exact stI (sx := sx) (op_like hR (sx (i + 1)) (sx (i + 2))) hK
        rw [if_neg c38]
        by_cases c39 : c = 39
        · rw [if_pos c39]
          exact stI (sx := sx) (op_image hR) hK
        rw [if_neg c39]
        by_cases c40 : c = 40
        · rw [if_pos c40]
          exact stI (sx := sx) (op_on hR) hK
        rw [if_neg c40]
        by_cases c41 : c = 41
        · rw [if_pos c41]
          simp only [g1]
          obtain ⟨r, y2, e8, e9, hR2⟩ := op_count hR (sx (i + 1))
          rw [e8, bind_s, e9, bind_s, if_pos rfl]
          exact hK xs y2 hR2
        rw [if_neg c41]
        exact hK xs xt hR
theorem rel_start (ad : Nat → Nat) : Rel (iX8 ad) iX9 := by
  refine ⟨⟨4, 0, fun _ => (0, 0, 0, 0, 0, 0), ⟨by decide, by decide, by decide, fun k hk => by omega⟩, ⟨rfl, rfl, fun k hk => by omega⟩, ⟨rfl, rfl, fun k hk => by omega⟩⟩, Or.inl ⟨rfl, rfl⟩, ⟨0, by decide, rfl, rfl, fun k hk => by omega⟩, ⟨0, by decide, rfl, rfl, fun k hk => by omega⟩, fun q hq => Or.inl ?_, fun q hq => Or.inl ?_, fun k hk => ?_, rfl, rfl, rfl, rfl, rfl, rfl, rfl⟩
  · have h : ∀ q, q < 3 → li_sizes iX1 q = -1 ∧ m_listMany iX9 q = -1 := by decide +kernel
    exact h q hq
  · have h : ∀ q, q < 3 → sl_sizes iX5 q = -1 ∧ m_slotMany iX9 q = -1 := by decide +kernel
    exact h q hq
  · have h : ∀ k, k < 7 → (0 : Int32) = m_refusals iX9 k := by decide +kernel
    exact h k hk
theorem law_ok : law_pure := by
  intro sL sx ad hL
  have := law_loop sL sx hL 512 FU 0 (iX8 ad) iX9 (by omega) (by unfold FU; omega) (by omega) (rel_start ad)
  rw [show (0 : Int32) = nI 0 from rfl, this]
