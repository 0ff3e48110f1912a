/-! bounds -/
theorem mm {a b c d : Int} (h1 : a ≤ c) (h2 : b ≤ d) (hb : 0 ≤ b) (hc : 0 ≤ c) : a * b ≤ c * d := Int.mul_le_mul h1 h2 hb hc
theorem sq_nn (x : Int) : 0 ≤ x * x := by
  by_cases h : 0 ≤ x
  · exact Int.mul_nonneg h h
  · exact nn_mul (by omega) (by omega)
theorem am2 (a b : Int) : 4 * (a * b) ≤ (a + b) * (a + b) := by
  have h := sq_nn (a - b)
  have e : (a + b) * (a + b) = 4 * (a * b) + (a - b) * (a - b) := by grind
  omega
theorem am4 {a b c d q : Int} (ha : 0 ≤ a) (hb : 0 ≤ b) (hc : 0 ≤ c) (hd : 0 ≤ d) (hq : a + b + c + d ≤ q) : 256 * (a * b * c * d) ≤ q * q * q * q := by
  have h1 := am2 a b
  have h2 := am2 c d
  have h3 := am2 (a + b) (c + d)
  have p1 := Int.mul_nonneg ha hb
  have p2 := Int.mul_nonneg hc hd
  have h4 := mm h1 h2 (by omega) (sq_nn (a + b))
  have h5 := mm h3 h3 (by have := Int.mul_nonneg (show 0 ≤ a + b by omega) (show 0 ≤ c + d by omega); omega) (sq_nn _)
  have s1 : (a + b + (c + d)) * (a + b + (c + d)) ≤ q * q := mm (by omega) (by omega) (by omega) (by omega)
  have s2 := mm s1 s1 (sq_nn _) (by have := sq_nn q; omega)
  have e1 : 256 * (a * b * c * d) = 16 * (4 * (a * b) * (4 * (c * d))) := by grind
  have e2 : 16 * ((a + b) * (a + b) * ((c + d) * (c + d))) = 4 * ((a + b) * (c + d)) * (4 * ((a + b) * (c + d))) := by grind
  have e3 : q * q * (q * q) = q * q * q * q := by grind
  omega
theorem gl_diag {n i : Nat} {A : Nat → Nat → Int} (h : GL n A) (hi : i < n) : 0 ≤ A i i := by
  have h1 := h.2.2.1 i hi
  have h2 := sm_le1 hi (f := fun c => A i c) (fun c hc hne => h.2.1 i c hi hc (fun z => hne z.symm))
  unfold rs at h1
  omega
theorem R_diag {n k r : Nat} {A : Nat → Nat → Int} (h : GL n A) (hk : k ≤ r) (hr : r < n) : Rk A k r (fun i => A i r) ≤ dt k A * A r r := by
  have hI := Iv_all h k (by omega)
  unfold Rk
  have := sm_ge0 (n := k) (f := fun j => A r j * Xk A k j (fun i => A i r)) (fun j hj => nn_mul (h.2.1 r j hr (by omega) (by omega)) (hI.2.2.1 j r hj hk hr))
  show dt k A * A r r - _ ≤ _
  omega
theorem D_le {n k : Nat} {A : Nat → Nat → Int} (h : GL n A) (hk : k < n) : dt (k + 1) A ≤ dt k A * A k k := by
  rw [D_next]
  exact R_diag h (Nat.le_refl k) hk
theorem R_off {n k r c : Nat} {A : Nat → Nat → Int} (h : GL n A) (hk : k ≤ r) (hr : r < n) (hc : k ≤ c) (hcn : c < n) (hne : r ≠ c) : - Rk A k r (fun i => A i c) ≤ dt k A * A r r := by
  have hI := Iv_all h k (by omega)
  have hS := h.1.lo (show k ≤ n by omega)
  have hD : dt k A ≠ 0 := by have := hI.1; omega
  have h0 := (hI.2.2.2.1 (rs n A) (fun i hi => h.2.2.1 i hi)).1 r hk hr
  rw [rs_R hS hD] at h0
  have := sm_le2 hr hcn hne (f := fun c => Rk A k r (fun i => A i c)) (fun c hc' hne' => by
    by_cases e : c < k
    · simp only [Rk_own hS hD e]; exact Int.le_refl 0
    · exact hI.2.1 r c hk hr (by omega) hc' (fun z => hne' z.symm))
  have := R_diag h hk hr
  omega
theorem X_off {n k j c : Nat} {A : Nat → Nat → Int} (h : GL n A) (hj : j < k) (hc : k ≤ c) (hcn : c < n) : - Xk A k j (fun i => A i c) ≤ dt k A := by
  have hI := Iv_all h k (by omega)
  have hS := h.1.lo (show k ≤ n by omega)
  have hD : dt k A ≠ 0 := by have := hI.1; omega
  have h0 := (hI.2.2.2.1 (rs n A) (fun i hi => h.2.2.1 i hi)).2 j hj
  rw [rs_X hS hD hj] at h0
  have := sm_le2 (show j < n by omega) hcn (by omega) (f := fun c => Xk A k j (fun i => A i c)) (fun c hc' hne' => by
    by_cases e : c < k
    · simp only [Xk_own hS hD e hj, if_neg (fun z => hne' (Eq.symm z) : ¬ j = c)]; exact Int.le_refl 0
    · exact hI.2.2.1 j c hj (by omega) hc')
  simp only [Xk_own hS hD hj hj, if_true] at this
  omega
theorem X_un {k j : Nat} {A : Nat → Nat → Int} (hS : Sy k A) (hD : dt k A ≠ 0) (g : Nat → Int) (hj : j < k) : Xk A k j g = sm k (fun i => g i * Xk A k j (un i)) := by
  refine Xk_sum (m := k) hS hD (fun i => un i) g (fun l hl => ?_) hj
  have := sm_un hl g
  rw [← this]
  refine sm_cg fun i _ => ?_
  unfold un
  by_cases e : i = l
  · rw [if_pos e, if_pos e.symm]
  · rw [if_neg e, if_neg (fun z => e z.symm)]
theorem R_col {n k r : Nat} {A : Nat → Nat → Int} (h : GL n A) (hk : k ≤ r) (hr : r < n) {g : Nat → Int} (hg : ∀ i, i < n → 0 ≤ g i) : Rk A k r g ≤ dt k A * (g r + sm k g) := by
  have hI := Iv_all h k (by omega)
  have hS := h.1.lo (show k ≤ n by omega)
  have hD : dt k A ≠ 0 := by have := hI.1; omega
  have e : sm k (fun j => A r j * Xk A k j g) = sm k (fun i => g i * Xk A k i (fun i => A i r)) := by
    rw [sm_cg (n := k) (g := fun j => sm k (fun i => A r j * (g i * Xk A k j (un i)))) (fun j hj => by rw [X_un hS hD g hj, ← sm_ml]), sm_swap]
    refine sm_cg fun i hi => ?_
    rw [X_un hS hD (fun i => A i r) hi, ← sm_ml]
    refine sm_cg fun j hj => ?_
    rw [adj_sym hS hD hj hi, h.1 j r (by omega) hr]
    grind
  unfold Rk
  rw [e, Int.mul_add]
  have : sm k (fun i => - (g i * Xk A k i (fun i => A i r))) ≤ sm k (fun i => dt k A * g i) := sm_le fun i hi => by
    have := mm (Int.le_refl (g i)) (X_off h hi hk hr) (by have := hI.2.2.1 i r hi hk hr; omega) (hg i (by omega))
    rw [Int.mul_neg] at this
    rw [Int.mul_comm (dt k A)]
    exact this
  rw [sm_neg, sm_ml] at this
  omega
theorem X_max {m j i : Nat} {A : Nat → Nat → Int} (h : GL (m + 1) A) (hj : j ≤ m) (hi : i ≤ m) : Xk A (m + 1) i (un j) ≤ Xk A (m + 1) j (un j) := by
  by_cases e : i = j
  · rw [e]; exact Int.le_refl _
  have hB := GL_del h hj
  have hIB := Iv_all hB m (Nat.le_refl m)
  have hIA := Iv_all h (m + 1) (Nat.le_refl _)
  have hu : 0 ≤ Xk A (m + 1) j (un j) := (hIA.2.2.2.1 (un j) (fun l _ => by unfold un; split <;> omega)).2 j (by omega)
  obtain ⟨l, l1, l2⟩ : ∃ l, l < m ∧ (if l < j then l else l + 1) = i := by
    by_cases e2 : i < j
    · exact ⟨i, by omega, if_pos e2⟩
    · exact ⟨i - 1, by omega, by rw [if_neg (by omega)]; omega⟩
  have hsol : ∀ l, l < m → sm m (fun c => dr j (dc j A) l c * (Xk A (m + 1) j (un j) - Xk A (m + 1) (if c < j then c else c + 1) (un j))) = 1 * (Xk A (m + 1) j (un j) * rs (m + 1) A (if l < j then l else l + 1)) := by
    intro l hl
    have hsl : (if l < j then l else l + 1) < m + 1 := by split <;> omega
    have hne : (if l < j then l else l + 1) ≠ j := by split <;> omega
    have e1 := sm_skip hj (fun c => A (if l < j then l else l + 1) c * (Xk A (m + 1) j (un j) - Xk A (m + 1) c (un j)))
    have e2 : sm m (fun c => dr j (dc j A) l c * (Xk A (m + 1) j (un j) - Xk A (m + 1) (if c < j then c else c + 1) (un j))) = sm m (fun q => A (if l < j then l else l + 1) (if q < j then q else q + 1) * (Xk A (m + 1) j (un j) - Xk A (m + 1) (if q < j then q else q + 1) (un j))) := sm_cg fun c _ => rfl
    have e3 : sm (m + 1) (fun c => A (if l < j then l else l + 1) c * (Xk A (m + 1) j (un j) - Xk A (m + 1) c (un j))) = Xk A (m + 1) j (un j) * rs (m + 1) A (if l < j then l else l + 1) - dt (m + 1) A * un j (if l < j then l else l + 1) := by
      rw [sm_cg (n := m + 1) (g := fun c => Xk A (m + 1) j (un j) * A (if l < j then l else l + 1) c - A (if l < j then l else l + 1) c * Xk A (m + 1) c (un j)) (fun c _ => by grind), sm_sub, sm_ml, Xk_c hsl]
      rfl
    rw [show un j (if l < j then l else l + 1) = 0 from if_neg hne, Int.mul_zero] at e3
    rw [e2]
    rw [e3, Int.sub_self, Int.mul_zero] at e1
    omega
  have hr := ratio hB.1 (by have := hIB.1; omega) hsol l1
  have hn := (hIB.2.2.2.1 (fun l => Xk A (m + 1) j (un j) * rs (m + 1) A (if l < j then l else l + 1)) (fun l hl => Int.mul_nonneg hu (h.2.2.1 _ (by split <;> omega)))).2 l l1
  have := ge0_of hIB.1 (x := Xk A (m + 1) j (un j) - Xk A (m + 1) (if l < j then l else l + 1) (un j)) (by rw [hr, Int.one_mul]; exact hn)
  rw [l2] at this
  omega
theorem un_rc {m j : Nat} {A : Nat → Nat → Int} (hj : j ≤ m) : Xk A (m + 1) j (un j) = dt m (dr j (dc j A)) := by
  unfold Xk
  rw [dt_uc m j j (rc j (un j) A) hj hj (fun i _ => by unfold rc un; rw [if_pos rfl]), sg_2, Int.one_mul]
  apply dt_cg
  intro i q hi hq
  simp only [dr, dc, rc]
  grind
theorem X_col {m j : Nat} {A : Nat → Nat → Int} (h : GL (m + 1) A) (hj : j ≤ m) {g : Nat → Int} (hg : ∀ i, i < m + 1 → 0 ≤ g i) : Xk A (m + 1) j g ≤ sm (m + 1) g * dt m (dr j (dc j A)) := by
  have hIA := Iv_all h (m + 1) (Nat.le_refl _)
  have hD : dt (m + 1) A ≠ 0 := by have := hIA.1; omega
  rw [X_un h.1 hD g (by omega), ← sm_mr, ← un_rc hj]
  refine sm_le fun i hi => ?_
  rw [adj_sym h.1 hD hi (by omega)]
  exact mm (Int.le_refl _) (X_max h hj (by omega)) ((hIA.2.2.2.1 (un j) (fun l _ => by unfold un; split <;> omega)).2 i hi) (hg i hi)
theorem d_bnd {n q : Nat} {A : Nat → Nat → Int} (h : GL n A) (hq : sm n (fun i => A i i) ≤ (q : Int)) (h1 : 1 ≤ q) {k : Nat} (hk : k ≤ n) : (k ≤ 3 → dt k A ≤ (q : Int) * q * q) ∧ (k = 4 → 256 * dt k A ≤ (q : Int) * q * q * q) := by
  have hq1 : (1 : Int) ≤ q := by omega
  have hpos : ∀ k, k ≤ n → 0 < dt k A := fun k hk => (Iv_all h k hk).1
  have hd : ∀ i, i < n → 0 ≤ A i i := fun i hi => gl_diag h hi
  have hdq : ∀ i, i < n → A i i ≤ q := fun i hi => Int.le_trans (sm_ge1 (f := fun i => A i i) hd hi) hq
  have hqq : (1 : Int) ≤ (q : Int) * q := by have := mm hq1 hq1 (by omega) (by omega); omega
  have b0 : dt 0 A = 1 := rfl
  have b1 : 0 < n → dt 1 A ≤ A 0 0 := fun hn => by have h' : dt 1 A ≤ dt 0 A * A 0 0 := D_le h hn; rw [b0, Int.one_mul] at h'; exact h'
  have b2 : 1 < n → dt 2 A ≤ A 0 0 * A 1 1 := fun hn => Int.le_trans (D_le h hn) (mm (b1 (by omega)) (Int.le_refl _) (hd 1 hn) (hd 0 (by omega)))
  have b3 : 2 < n → dt 3 A ≤ A 0 0 * A 1 1 * A 2 2 := fun hn => Int.le_trans (D_le h hn) (mm (b2 (by omega)) (Int.le_refl _) (hd 2 hn) (Int.mul_nonneg (hd 0 (by omega)) (hd 1 (by omega))))
  have b4 : 3 < n → dt 4 A ≤ A 0 0 * A 1 1 * A 2 2 * A 3 3 := fun hn => Int.le_trans (D_le h hn) (mm (b3 (by omega)) (Int.le_refl _) (hd 3 hn) (Int.mul_nonneg (Int.mul_nonneg (hd 0 (by omega)) (hd 1 (by omega))) (hd 2 (by omega))))
  have q3 : (q : Int) ≤ q * q * q := by have := mm hqq (Int.le_refl (q : Int)) (by omega) (by omega); omega
  have q2 : (q : Int) * q ≤ q * q * q := by have := mm (Int.le_refl ((q : Int) * q)) hq1 (by omega) (by omega); omega
  constructor
  · intro h3
    have hc : k = 0 ∨ k = 1 ∨ k = 2 ∨ k = 3 := by omega
    rcases hc with rfl | rfl | rfl | rfl
    · rw [b0]; omega
    · have := b1 (by omega); have := hdq 0 (by omega); omega
    · have := b2 (by omega)
      have := mm (hdq 0 (by omega)) (hdq 1 (by omega)) (hd 1 (by omega)) (by omega)
      omega
    · have := b3 (by omega)
      have h2 := mm (hdq 0 (by omega)) (hdq 1 (by omega)) (hd 1 (by omega)) (by omega)
      have := mm h2 (hdq 2 (by omega)) (hd 2 (by omega)) (by omega)
      omega
  · intro h4
    subst h4
    have := b4 (by omega)
    have hs : A 0 0 + A 1 1 + A 2 2 + A 3 3 ≤ q := by
      have : sm 4 (fun i => A i i) ≤ sm n (fun i => A i i) := by
        have hmono : ∀ d, 4 + d ≤ n → sm 4 (fun i => A i i) ≤ sm (4 + d) (fun i => A i i) := by
          intro d
          induction d with
          | zero => intro _; exact Int.le_refl _
          | succ d ih =>
            intro hd'
            have := ih (by omega)
            have := hd (4 + d) (by omega)
            rw [← Nat.add_assoc, sm_s (4 + d)]
            omega
        have := hmono (n - 4) (by omega)
        rw [show 4 + (n - 4) = n by omega] at this
        exact this
      have e : sm 4 (fun i => A i i) = A 0 0 + A 1 1 + A 2 2 + A 3 3 := by
        rw [sm_s, sm_s, sm_s, sm_s, sm_0]; omega
      omega
    have := am4 (hd 0 (by omega)) (hd 1 (by omega)) (hd 2 (by omega)) (hd 3 (by omega)) hs
    omega
