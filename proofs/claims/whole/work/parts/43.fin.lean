/-! finite facts -/
def wt (k g l : Nat) : Nat := if k = 1 then (l + 1) / 2 else if k = 2 then 2 * l else if k = 3 then (if 2 * l ≤ g then 1 else 2 * l - g) else if k = 4 then (l + 1) / 2 + 1 else l
def mi (k g l : Nat) : Nat := if k = 2 ∨ k = 3 then (l + 1) / 2 else if k = 4 ∨ k = 5 then l + g else l
theorem fin_wt8 : ∀ k, k < 6 → ∀ g, g < 10 → ∀ l, l < 11 → fX8_weightOf (nI k) (nI g) (nI l) = some (nI (wt k g l)) := by decide +kernel
theorem fin_wt9 : ∀ k, k < 6 → ∀ g, g < 10 → ∀ l, l < 11 → fX9_weightBy (nI k) (nI g) (nI l) = some (nI (wt k g l)) := by decide +kernel
theorem fin_mi8 : ∀ k, k < 6 → ∀ g, g < 10 → ∀ l, l < 10 → fX8_minutesOf (nI k) (nI g) (nI l) = some (nI (mi k g l)) := by decide +kernel
theorem fin_under : ∀ k, k < 6 → ∀ j, j < 6 → fX8_isOfKind (nI k) (nI j) = fX9_isUnder (nI k) (nI j) := by decide +kernel
theorem fin_under01 : ∀ k, k < 6 → ∀ j, j < 6 → fX9_isUnder (nI k) (nI j) = some 0 ∨ fX9_isUnder (nI k) (nI j) = some 1 := by decide +kernel
theorem fin_31 : ∀ k, k < 32 → nI k &&& 31 = nI k := by decide +kernel
theorem fin_smod : ∀ k, k < 32 → ((nI k).toBitVec.smod 32).toNat = k := by decide +kernel
theorem bit01 (s k : Nat) : s / 2 ^ k % 2 = if s.testBit k then 1 else 0 := by
  have h := Nat.testBit_eq_decide_div_mod_eq (x := s) (i := k)
  rw [h]
  by_cases q : s / 2 ^ k % 2 = 1
  · rw [q]; simp
  · have : s / 2 ^ k % 2 = 0 := by omega
    rw [this]; simp
theorem shr_bit {s k : Nat} (hs : s < 2 ^ 31) (hk : k < 32) : (nI s >>> (nI k &&& 31)) &&& 1 = nI (if s.testBit k then 1 else 0) := by
  rw [fin_31 k hk, pk_shrN hs (nI k) k (fin_smod k hk), pk_andN (n := s / 2 ^ k) (by have := Nat.div_le_self s (2 ^ k); omega) (m := 1) 1 (by decide), bit01]
theorem has8 {s k : Nat} (hs : s < 2 ^ 31) (hk : k < 32) : fX8_has (nI s) (nI k) = some (if s.testBit k then 1 else 0) := by
  unfold fX8_has
  rw [shr_bit hs hk]
  by_cases h : s.testBit k = true
  · rw [if_pos h, if_pos h]; rfl
  · rw [if_neg h, if_neg h]; rfl
theorem has9 {s k : Nat} (hs : s < 2 ^ 31) (hk : k < 32) : fX9_has (nI s) (nI k) = some (if s.testBit k then 1 else 0) := by
  unfold fX9_has
  rw [shr_bit hs hk]
  by_cases h : s.testBit k = true
  · rw [if_pos h, if_pos h]; rfl
  · rw [if_neg h, if_neg h]; rfl
