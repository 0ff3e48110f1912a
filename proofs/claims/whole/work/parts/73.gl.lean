/-! systems that join an end -/
theorem ge0_of {d x : Int} (h : 0 < d) (h2 : 0 ≤ d * x) : 0 ≤ x := by
  apply Classical.byContradiction
  intro hx
  have := Int.mul_pos h (show 0 < -x by omega)
  rw [Int.mul_neg] at this
  omega
theorem le0_of {d x : Int} (h : 0 < d) (h2 : d * x ≤ 0) : x ≤ 0 := by
  have := ge0_of (x := -x) h (by rw [Int.mul_neg]; omega)
  omega
theorem nn_mul {a b : Int} (ha : a ≤ 0) (hb : b ≤ 0) : 0 ≤ a * b := by
  have := Int.mul_nonneg (show 0 ≤ -a by omega) (show 0 ≤ -b by omega)
  rw [Int.neg_mul_neg] at this
  exact this
theorem np_mul {a b : Int} (ha : a ≤ 0) (hb : 0 ≤ b) : a * b ≤ 0 := by
  have := Int.mul_nonneg (show 0 ≤ -a by omega) hb
  rw [Int.neg_mul] at this
  omega
theorem pn_mul {a b : Int} (ha : 0 ≤ a) (hb : b ≤ 0) : a * b ≤ 0 := by
  rw [Int.mul_comm]
  exact np_mul hb ha
theorem sm_le1 {n a : Nat} (ha : a < n) {f : Nat → Int} (h : ∀ i, i < n → i ≠ a → f i ≤ 0) : sm n f ≤ f a := by
  rw [sm_one ha f]
  have := sm_ge0 (n := n) (f := fun i => - (if i = a then 0 else f i)) (fun i hi => by
    by_cases e : i = a
    · rw [if_pos e]; omega
    · rw [if_neg e]; have := h i hi e; omega)
  rw [sm_neg] at this
  omega
theorem sm_le2 {n a b : Nat} (ha : a < n) (hb : b < n) (hab : a ≠ b) {f : Nat → Int} (h : ∀ i, i < n → i ≠ a → f i ≤ 0) : sm n f ≤ f a + f b := by
  rw [sm_one ha f]
  have := sm_le1 hb (f := fun i => if i = a then 0 else f i) (fun i hi e => by
    show (if i = a then 0 else f i) ≤ 0
    by_cases e2 : i = a
    · rw [if_pos e2]; omega
    · rw [if_neg e2]; exact h i hi e2)
  simp only [if_neg (fun z => hab (Eq.symm z) : ¬ b = a)] at this
  omega
def rs (n : Nat) (A : Nat → Nat → Int) : Nat → Int := fun i => sm n (fun c => A i c)
def GL (n : Nat) (A : Nat → Nat → Int) : Prop := Sy n A ∧ (∀ i j, i < n → j < n → i ≠ j → A i j ≤ 0) ∧ (∀ i, i < n → 0 ≤ rs n A i) ∧ ∀ S : Nat → Prop, (∃ r, r < n ∧ S r) → ∃ r, r < n ∧ S r ∧ (rs n A r ≠ 0 ∨ ∃ c, c < n ∧ ¬ S c ∧ A r c ≠ 0)
def Iv (n : Nat) (A : Nat → Nat → Int) (k : Nat) : Prop := 0 < dt k A ∧ (∀ r c, k ≤ r → r < n → k ≤ c → c < n → r ≠ c → Rk A k r (fun i => A i c) ≤ 0) ∧ (∀ j c, j < k → k ≤ c → c < n → Xk A k j (fun i => A i c) ≤ 0) ∧ (∀ g : Nat → Int, (∀ i, i < n → 0 ≤ g i) → (∀ r, k ≤ r → r < n → 0 ≤ Rk A k r g) ∧ ∀ j, j < k → 0 ≤ Xk A k j g) ∧ ∀ S : Nat → Prop, (∃ r, k ≤ r ∧ r < n ∧ S r) → ∃ r, k ≤ r ∧ r < n ∧ S r ∧ (Rk A k r (rs n A) ≠ 0 ∨ ∃ c, k ≤ c ∧ c < n ∧ ¬ S c ∧ Rk A k r (fun i => A i c) ≠ 0)
theorem Sy.lo {n k : Nat} {A : Nat → Nat → Int} (h : Sy n A) (hk : k ≤ n) : Sy k A := fun i j hi hj => h i j (by omega) (by omega)
theorem rs_R {n k r : Nat} {A : Nat → Nat → Int} (hS : Sy k A) (hD : dt k A ≠ 0) : Rk A k r (rs n A) = sm n (fun c => Rk A k r (fun i => A i c)) := by
  rw [Rk_sum (m := n) hS hD (fun c i => A i c) (fun _ => 1) (g := rs n A) (fun i _ => by unfold rs; exact sm_cg fun c _ => (Int.one_mul _).symm) (by unfold rs; exact sm_cg fun c _ => (Int.one_mul _).symm)]
  exact sm_cg fun c _ => Int.one_mul _
theorem rs_X {n k j : Nat} {A : Nat → Nat → Int} (hS : Sy k A) (hD : dt k A ≠ 0) (hj : j < k) : Xk A k j (rs n A) = sm n (fun c => Xk A k j (fun i => A i c)) := by
  rw [Xk_sum (m := n) hS hD (fun c i => A i c) (fun _ => 1) (g := rs n A) (fun i _ => by unfold rs; exact sm_cg fun c _ => (Int.one_mul _).symm) hj]
  exact sm_cg fun c _ => Int.one_mul _
theorem Rk_0 (A : Nat → Nat → Int) (r : Nat) (g : Nat → Int) : Rk A 0 r g = g r := by
  unfold Rk
  rw [sm_0, show dt 0 A = 1 from rfl]
  omega
theorem Iv_0 {n : Nat} {A : Nat → Nat → Int} (h : GL n A) : Iv n A 0 := by
  refine ⟨Int.zero_lt_one, fun r c _ hr _ hc hne => ?_, fun j c hj => by omega, fun g hg => ⟨fun r _ hr => ?_, fun j hj => by omega⟩, fun S ⟨r, _, hr, hs⟩ => ?_⟩
  · rw [Rk_0]; exact h.2.1 r c hr hc hne
  · rw [Rk_0]; exact hg r hr
  · obtain ⟨r', q1, q2, q3⟩ := h.2.2.2 S ⟨r, hr, hs⟩
    refine ⟨r', by omega, q1, q2, ?_⟩
    rcases q3 with q3 | ⟨c, c1, c2, c3⟩
    · left; rw [Rk_0]; exact q3
    · right; exact ⟨c, by omega, c1, c2, by rw [Rk_0]; exact c3⟩
theorem Iv_p {n k : Nat} {A : Nat → Nat → Int} (h : GL n A) (hk : k < n) (hI : Iv n A k) : 0 < dt (k + 1) A := by
  have hS := h.1.lo (show k ≤ n by omega)
  have hD : dt k A ≠ 0 := by have := hI.1; omega
  rw [D_next]
  have hsum := rs_R (n := n) (r := k) hS hD
  have hle : ∀ c, c < n → c ≠ k → Rk A k k (fun i => A i c) ≤ 0 := fun c hc hne => by
    by_cases e : c < k
    · rw [Rk_own hS hD e]; exact Int.le_refl 0
    · exact hI.2.1 k c (by omega) hk (by omega) hc (fun z => hne z.symm)
  have h0 := (hI.2.2.2.1 (rs n A) (fun i hi => h.2.2.1 i hi)).1 k (Nat.le_refl k) hk
  obtain ⟨r, q1, q2, q3, q4⟩ := hI.2.2.2.2 (fun r => r = k) ⟨k, Nat.le_refl k, hk, rfl⟩
  subst q3
  rcases q4 with q4 | ⟨c, c1, c2, c3, c4⟩
  · have := sm_le1 hk hle
    omega
  · have := sm_le2 hk c2 (fun z => c3 z.symm) hle
    have := hle c c2 c3
    omega
theorem Iv_s {n k : Nat} {A : Nat → Nat → Int} (h : GL n A) (hk : k < n) (hI : Iv n A k) : Iv n A (k + 1) := by
  have hp := Iv_p h hk hI
  have hS1 := h.1.lo (show k + 1 ≤ n by omega)
  have hd := hI.1
  have hst := fun g => step_all hS1 (show dt k A ≠ 0 by omega) (show dt (k + 1) A ≠ 0 by omega) g
  have hcol : ∀ r, k + 1 ≤ r → r < n → Rk A k r (fun i => A i k) ≤ 0 := fun r h1 h2 => hI.2.1 r k (by omega) h2 (Nat.le_refl k) hk (by omega)
  have hrow : ∀ c, k + 1 ≤ c → c < n → Rk A k k (fun i => A i c) ≤ 0 := fun c h1 h2 => hI.2.1 k c (Nat.le_refl k) hk (by omega) h2 (by omega)
  have hrs := hI.2.2.2.1 (rs n A) (fun i hi => h.2.2.1 i hi)
  refine ⟨hp, fun r c h1 h2 h3 h4 hne => ?_, fun j c hj h3 h4 => ?_, fun g hg => ⟨fun r h1 h2 => ?_, fun j hj => ?_⟩, fun S ⟨r0, a1, a2, a3⟩ => ?_⟩
  · refine le0_of hd ?_
    rw [(hst _).2.2 r]
    have := pn_mul (Int.le_of_lt hp) (hI.2.1 r c (by omega) h2 (by omega) h4 hne)
    have := nn_mul (hcol r h1 h2) (hrow c h3 h4)
    omega
  · by_cases e : j = k
    · rw [e, (hst _).1]
      exact hrow c h3 h4
    · refine le0_of hd ?_
      rw [(hst _).2.1 j (by omega)]
      have := pn_mul (Int.le_of_lt hp) (hI.2.2.1 j c (by omega) (by omega) h4)
      have := nn_mul (hI.2.2.1 j k (by omega) (Nat.le_refl k) hk) (hrow c h3 h4)
      omega
  · refine ge0_of hd ?_
    rw [(hst g).2.2 r]
    have hg' := hI.2.2.2.1 g hg
    have := Int.mul_nonneg (Int.le_of_lt hp) (hg'.1 r (by omega) h2)
    have := np_mul (hcol r h1 h2) (hg'.1 k (Nat.le_refl k) hk)
    omega
  · have hg' := hI.2.2.2.1 g hg
    by_cases e : j = k
    · rw [e, (hst g).1]
      exact hg'.1 k (Nat.le_refl k) hk
    · refine ge0_of hd ?_
      rw [(hst g).2.1 j (by omega)]
      have := Int.mul_nonneg (Int.le_of_lt hp) (hg'.2 j (by omega))
      have := np_mul (hI.2.2.1 j k (by omega) (Nat.le_refl k) hk) (hg'.1 k (Nat.le_refl k) hk)
      omega
  · apply Classical.byContradiction
    intro hno
    have hall : ∀ r, k + 1 ≤ r → r < n → S r → Rk A (k + 1) r (rs n A) = 0 ∧ ∀ c, k + 1 ≤ c → c < n → ¬ S c → Rk A (k + 1) r (fun i => A i c) = 0 := fun r b1 b2 b3 => ⟨Classical.byContradiction fun z => hno ⟨r, b1, b2, b3, Or.inl z⟩, fun c c1 c2 c3 => Classical.byContradiction fun z => hno ⟨r, b1, b2, b3, Or.inr ⟨c, c1, c2, c3, z⟩⟩⟩
    have hr1 : ∀ r, k + 1 ≤ r → r < n → S r → Rk A k r (rs n A) = 0 ∧ Rk A k r (fun i => A i k) * Rk A k k (rs n A) = 0 := fun r b1 b2 b3 => by
      have e := (hst (rs n A)).2.2 r
      rw [(hall r b1 b2 b3).1, Int.mul_zero] at e
      have u1 := Int.mul_nonneg (Int.le_of_lt hp) (hrs.1 r (by omega) b2)
      have u2 := np_mul (hcol r b1 b2) (hrs.1 k (Nat.le_refl k) hk)
      have u3 : dt (k + 1) A * Rk A k r (rs n A) = 0 := by omega
      refine ⟨?_, by omega⟩
      rcases Int.mul_eq_zero.mp u3 with z | z
      · omega
      · exact z
    have hr2 : ∀ r c, k + 1 ≤ r → r < n → S r → k + 1 ≤ c → c < n → ¬ S c → Rk A k r (fun i => A i c) = 0 ∧ Rk A k r (fun i => A i k) * Rk A k k (fun i => A i c) = 0 := fun r c b1 b2 b3 c1 c2 c3 => by
      have e := (hst (fun i => A i c)).2.2 r
      rw [(hall r b1 b2 b3).2 c c1 c2 c3, Int.mul_zero] at e
      have u1 := pn_mul (Int.le_of_lt hp) (hI.2.1 r c (by omega) b2 (by omega) c2 (fun z => c3 (z ▸ b3)))
      have u2 := nn_mul (hcol r b1 b2) (hrow c c1 c2)
      have u3 : dt (k + 1) A * Rk A k r (fun i => A i c) = 0 := by omega
      refine ⟨?_, by omega⟩
      rcases Int.mul_eq_zero.mp u3 with z | z
      · omega
      · exact z
    by_cases hB : ∃ r, k + 1 ≤ r ∧ r < n ∧ S r ∧ Rk A k r (fun i => A i k) ≠ 0
    · obtain ⟨r1, b1, b2, b3, b4⟩ := hB
      have g1 : Rk A k k (rs n A) = 0 := by
        rcases Int.mul_eq_zero.mp (hr1 r1 b1 b2 b3).2 with z | z
        · exact absurd z b4
        · exact z
      have g2 : ∀ c, k + 1 ≤ c → c < n → ¬ S c → Rk A k k (fun i => A i c) = 0 := fun c c1 c2 c3 => by
        rcases Int.mul_eq_zero.mp (hr2 r1 c b1 b2 b3 c1 c2 c3).2 with z | z
        · exact absurd z b4
        · exact z
      obtain ⟨r, q1, q2, q3, q4⟩ := hI.2.2.2.2 (fun r => r = k ∨ (k + 1 ≤ r ∧ S r)) ⟨k, Nat.le_refl k, hk, Or.inl rfl⟩
      rcases q3 with rfl | ⟨q5, q3⟩
      · rcases q4 with q4 | ⟨c, c1, c2, c3, c4⟩
        · exact q4 g1
        · have hck : c ≠ r := fun z => c3 (Or.inl z)
          exact c4 (g2 c (by omega) c2 (fun z => c3 (Or.inr ⟨by omega, z⟩)))
      · rcases q4 with q4 | ⟨c, c1, c2, c3, c4⟩
        · exact q4 (hr1 r q5 q2 q3).1
        · have hck : c ≠ k := fun z => c3 (Or.inl z)
          exact c4 (hr2 r c q5 q2 q3 (by omega) c2 (fun z => c3 (Or.inr ⟨by omega, z⟩))).1
    · obtain ⟨r, q1, q2, q3, q4⟩ := hI.2.2.2.2 (fun r => k + 1 ≤ r ∧ S r) ⟨r0, by omega, a2, a1, a3⟩
      rcases q4 with q4 | ⟨c, c1, c2, c3, c4⟩
      · exact q4 (hr1 r q3.1 q2 q3.2).1
      · by_cases e : c = k
        · rw [e] at c4
          exact hB ⟨r, q3.1, q2, q3.2, c4⟩
        · exact c4 (hr2 r c q3.1 q2 q3.2 (by omega) c2 (fun z => c3 ⟨by omega, z⟩)).1
theorem Iv_all {n : Nat} {A : Nat → Nat → Int} (h : GL n A) : ∀ k, k ≤ n → Iv n A k := by
  intro k
  induction k with
  | zero => intro _; exact Iv_0 h
  | succ k ih => intro hk; exact Iv_s h (by omega) (ih (by omega))
theorem GL_del {n r : Nat} {A : Nat → Nat → Int} (h : GL (n + 1) A) (hr : r ≤ n) : GL n (dr r (dc r A)) := by
  have hB : ∀ i j, dr r (dc r A) i j = A (if i < r then i else i + 1) (if j < r then j else j + 1) := fun i j => rfl
  have hlt : ∀ i, i < n → (if i < r then i else i + 1) < n + 1 := fun i hi => by split <;> omega
  have hne : ∀ i, (if i < r then i else i + 1) ≠ r := fun i => by split <;> omega
  have hinj : ∀ i j, i ≠ j → (if i < r then i else i + 1) ≠ (if j < r then j else j + 1) := fun i j hij => by split <;> split <;> omega
  have hrs : ∀ i, i < n → rs n (dr r (dc r A)) i = rs (n + 1) A (if i < r then i else i + 1) - A (if i < r then i else i + 1) r := fun i hi => by
    unfold rs
    rw [sm_skip hr (fun c => A (if i < r then i else i + 1) c)]
    simp only [hB]
    omega
  refine ⟨fun i j hi hj => ?_, fun i j hi hj hij => ?_, fun i hi => ?_, fun S ⟨i, hi, hs⟩ => ?_⟩
  · rw [hB, hB]; exact h.1 _ _ (hlt i hi) (hlt j hj)
  · rw [hB]; exact h.2.1 _ _ (hlt i hi) (hlt j hj) (hinj i j hij)
  · rw [hrs i hi]
    have := h.2.2.1 _ (hlt i hi)
    have := h.2.1 _ r (hlt i hi) (by omega) (hne i)
    omega
  · obtain ⟨x, x1, ⟨i', i1, i2, i3⟩, x3⟩ := h.2.2.2 (fun x => ∃ i, i < n ∧ (if i < r then i else i + 1) = x ∧ S i) ⟨_, hlt i hi, i, hi, rfl, hs⟩
    subst i2
    have hA := h.2.1 _ r (hlt i' i1) (by omega) (hne i')
    have hs0 := h.2.2.1 _ (hlt i' i1)
    refine ⟨i', i1, i3, ?_⟩
    rw [hrs i' i1]
    rcases x3 with x3 | ⟨c, c1, c2, c3⟩
    · left; omega
    · by_cases e : c = r
      · left
        rw [e] at c3
        omega
      · right
        have hex : ∃ c', c' < n ∧ (if c' < r then c' else c' + 1) = c := by
          by_cases e2 : c < r
          · exact ⟨c, by omega, if_pos e2⟩
          · exact ⟨c - 1, by omega, by rw [if_neg (by omega)]; omega⟩
        obtain ⟨c', d1, d2⟩ := hex
        refine ⟨c', d1, fun z => c2 ⟨c', d1, d2, z⟩, ?_⟩
        rw [hB, d2]
        exact c3
theorem GL_cg {n : Nat} {A B : Nat → Nat → Int} (h : GL n A) (e : ∀ i j, i < n → j < n → B i j = A i j) : GL n B := by
  have hrs : ∀ i, i < n → rs n B i = rs n A i := fun i hi => sm_cg fun c hc => e i c hi hc
  refine ⟨fun i j hi hj => by rw [e i j hi hj, e j i hj hi]; exact h.1 i j hi hj, fun i j hi hj hij => by rw [e i j hi hj]; exact h.2.1 i j hi hj hij, fun i hi => by rw [hrs i hi]; exact h.2.2.1 i hi, fun S hS => ?_⟩
  obtain ⟨r, q1, q2, q3⟩ := h.2.2.2 S hS
  refine ⟨r, q1, q2, ?_⟩
  rcases q3 with q3 | ⟨c, c1, c2, c3⟩
  · left; rw [hrs r q1]; exact q3
  · right; exact ⟨c, c1, c2, by rw [e r c q1 c1]; exact c3⟩
theorem GL_lo {n : Nat} {A : Nat → Nat → Int} (h : GL n A) : ∀ d k, k + d = n → GL k A := by
  intro d
  induction d with
  | zero => intro k hk; rw [show k = n by omega]; exact h
  | succ d ih =>
    intro k hk
    have h1 := ih (k + 1) (by omega)
    exact GL_cg (GL_del h1 (Nat.le_refl k)) (fun i j hi hj => by
      show A i j = A (if i < k then i else i + 1) (if j < k then j else j + 1)
      rw [if_pos hi, if_pos hj])
