/-! what stands in the rows fits -/
theorem sm_part {n k : Nat} {f : Nat → Int} (h : ∀ i, i < n → 0 ≤ f i) : ∀ d, k + d = n → sm k f ≤ sm n f := by
  intro d
  induction d generalizing k with
  | zero => intro e; rw [show k = n by omega]; exact Int.le_refl _
  | succ d ih =>
    intro e
    have h1 := ih (k := k + 1) (by omega)
    rw [sm_s] at h1
    have := h k (by omega)
    omega
theorem sm_part2 {n k r : Nat} {f : Nat → Int} (h : ∀ i, i < n → 0 ≤ f i) (hk : k ≤ r) (hr : r < n) : f r + sm k f ≤ sm n f := by
  have h1 := sm_part h (n - (r + 1)) (k := r + 1) (by omega)
  have h2 := sm_part (n := r) (k := k) (fun i hi => h i (by omega)) (r - k) (by omega)
  rw [sm_s] at h1
  omega
def En (A : Nat → Nat → Int) (k r : Nat) (g : Nat → Int) : Int := if r < k then Xk A k r g else Rk A k r g
theorem En_0 (A : Nat → Nat → Int) (r : Nat) (g : Nat → Int) : En A 0 r g = g r := by
  unfold En
  rw [if_neg (by omega), Rk_0]
theorem En_kk (A : Nat → Nat → Int) (k : Nat) : En A k k (fun i => A i k) = dt (k + 1) A := by
  unfold En
  rw [if_neg (by omega), D_next]
theorem En_n {A : Nat → Nat → Int} {n r : Nat} (hr : r < n) (g : Nat → Int) : En A n r g = Xk A n r g := if_pos hr
theorem En_st {n k r : Nat} {A : Nat → Nat → Int} (h : GL n A) (hk : k < n) (hr : r ≠ k) (g : Nat → Int) : dt k A * En A (k + 1) r g = dt (k + 1) A * En A k r g - En A k r (fun i => A i k) * En A k k g := by
  have hI := Iv_all h k (by omega)
  have hp := Iv_p h hk hI
  have hst := step_all (h.1.lo (show k + 1 ≤ n by omega)) (by have := hI.1; omega) (by omega) g
  unfold En
  rw [if_neg (show ¬ k < k by omega)]
  by_cases e : r < k
  · rw [if_pos (by omega), if_pos e, if_pos e]
    exact hst.2.1 r e
  · rw [if_neg (by omega), if_neg e, if_neg e]
    exact hst.2.2 r
theorem En_sk {n k : Nat} {A : Nat → Nat → Int} (h : GL n A) (hk : k < n) (g : Nat → Int) : En A (k + 1) k g = En A k k g := by
  have hI := Iv_all h k (by omega)
  have hp := Iv_p h hk hI
  have hst := step_all (h.1.lo (show k + 1 ≤ n by omega)) (by have := hI.1; omega) (by omega) g
  unfold En
  rw [if_pos (by omega), if_neg (by omega)]
  exact hst.1
def NC (q G : Nat) : Prop := 1 ≤ q ∧ 1 ≤ G ∧ (q : Int) * q * q * q * (q * q * q * q) * G < 2 ^ 79 ∧ (q : Int) * q * q * (q * q * q * q) * G < 2 ^ 71 ∧ (q : Int) * q * q * (q * q * q) * G < 2 ^ 63 ∧ (q : Int) * q * q * (q * q * q * q) * q < 2 ^ 71 ∧ (q : Int) * q * q * (q * q * q) * q < 2 ^ 63
theorem num_X {n q G k r : Nat} {A : Nat → Nat → Int} {g : Nat → Int} (h : GL n A) (hn : n ≤ 5) (hq : sm n (fun i => A i i) ≤ (q : Int)) (hg : ∀ i, i < n → 0 ≤ g i) (hG : sm n g ≤ (G : Int)) (hC : NC q G) (hk : k < n) (hr : r ≤ k) : 0 ≤ Xk A (k + 1) r g ∧ dt k A * Xk A (k + 1) r g < 2 ^ 63 := by
  obtain ⟨q1, G1, c1, c2, c3, c4, c5⟩ := hC
  have hI1 := Iv_all h (k + 1) (by omega)
  have hI := Iv_all h k (by omega)
  have hGk := GL_lo h (n - (k + 1)) (k + 1) (by omega)
  have hB := GL_del hGk hr
  have hx0 := (hI1.2.2.2.1 g hg).2 r (by omega)
  have hdg : ∀ i, i < n → 0 ≤ A i i := fun i hi => gl_diag h hi
  have hqB : sm k (fun i => dr r (dc r A) i i) ≤ (q : Int) := by
    have e := sm_skip hr (fun i => A i i)
    have e2 := sm_part (f := fun i => A i i) hdg (n - (k + 1)) (k := k + 1) (by omega)
    have e3 : sm k (fun i => dr r (dc r A) i i) = sm k (fun q => A (if q < r then q else q + 1) (if q < r then q else q + 1)) := rfl
    have := hdg r (by omega)
    omega
  have hX := X_col hGk hr (g := g) (fun i hi => hg i (by omega))
  have hs := sm_part hg (n - (k + 1)) (k := k + 1) (by omega)
  have hs0 := sm_ge0 (n := k + 1) (f := g) (fun i hi => hg i (by omega))
  have hdB := (Iv_all hB k (Nat.le_refl k)).1
  have hd := hI.1
  refine ⟨hx0, ?_⟩
  have hX2 : Xk A (k + 1) r g ≤ G * dt k (dr r (dc r A)) := Int.le_trans hX (mm (by omega) (Int.le_refl _) (by omega) (by omega))
  have b1 := d_bnd h hq q1 (show k ≤ n by omega)
  have b2 := d_bnd hB hqB q1 (Nat.le_refl k)
  have hG0 : (0 : Int) ≤ G := by omega
  by_cases hk3 : k ≤ 3
  · have u1 := mm (b1.1 hk3) (b2.1 hk3) (by omega) (by have := b1.1 hk3; omega)
    have u2 := mm u1 (Int.le_refl (G : Int)) hG0 (by have := Int.mul_nonneg (Int.le_of_lt hd) (Int.le_of_lt hdB); omega)
    have u3 := mm (Int.le_refl (dt k A)) hX2 hx0 (Int.le_of_lt hd)
    have e : dt k A * (G * dt k (dr r (dc r A))) = dt k A * dt k (dr r (dc r A)) * G := by grind
    omega
  · have hk4 : k = 4 := by omega
    have u1 := mm (b1.2 hk4) (b2.2 hk4) (by omega) (by have := b1.2 hk4; omega)
    have u2 := mm u1 (Int.le_refl (G : Int)) hG0 (by have := Int.mul_nonneg (show 0 ≤ 256 * dt k A by omega) (show 0 ≤ 256 * dt k (dr r (dc r A)) by omega); omega)
    have u3 := mm (Int.le_refl (dt k A)) hX2 hx0 (Int.le_of_lt hd)
    have e : 256 * dt k A * (256 * dt k (dr r (dc r A))) * G = 65536 * (dt k A * (G * dt k (dr r (dc r A)))) := by grind
    omega
theorem dd_bnd {n q k : Nat} {A : Nat → Nat → Int} (h : GL n A) (hn : n ≤ 5) (hq : sm n (fun i => A i i) ≤ (q : Int)) (q1 : 1 ≤ q) (hk : k + 1 < n) (G : Int) (hG : 0 ≤ G) (c2 : (q : Int) * q * q * (q * q * q * q) * G < 2 ^ 71) (c3 : (q : Int) * q * q * (q * q * q) * G < 2 ^ 63) : dt k A * (dt (k + 1) A * G) < 2 ^ 63 := by
  have hd := (Iv_all h k (by omega)).1
  have hd1 := (Iv_all h (k + 1) (by omega)).1
  have b1 := (d_bnd h hq q1 (show k ≤ n by omega)).1 (by omega)
  have b2 := d_bnd h hq q1 (show k + 1 ≤ n by omega)
  by_cases h3 : k + 1 ≤ 3
  · have u1 := mm b1 (b2.1 h3) (by omega) (by omega)
    have u2 := mm u1 (Int.le_refl G) hG (by have := Int.mul_nonneg (Int.le_of_lt hd) (Int.le_of_lt hd1); omega)
    have e : dt k A * (dt (k + 1) A * G) = dt k A * dt (k + 1) A * G := by grind
    omega
  · have h4 : k + 1 = 4 := by omega
    have u1 := mm b1 (b2.2 h4) (by omega) (by omega)
    have u2 := mm u1 (Int.le_refl G) hG (by have := Int.mul_nonneg (Int.le_of_lt hd) (show 0 ≤ 256 * dt (k + 1) A by omega); omega)
    have e : dt k A * (256 * dt (k + 1) A) * G = 256 * (dt k A * (dt (k + 1) A * G)) := by grind
    omega
theorem num_g {n q G k r : Nat} {A : Nat → Nat → Int} {g : Nat → Int} (h : GL n A) (hn : n ≤ 5) (hq : sm n (fun i => A i i) ≤ (q : Int)) (hg : ∀ i, i < n → 0 ≤ g i) (hG : sm n g ≤ (G : Int)) (hC : NC q G) (hk : k < n) (hr : r < n) : 0 ≤ En A (k + 1) r g ∧ dt k A * En A (k + 1) r g < 2 ^ 63 := by
  unfold En
  by_cases e : r < k + 1
  · rw [if_pos e]
    exact num_X h hn hq hg hG hC hk (by omega)
  · rw [if_neg e]
    obtain ⟨q1, G1, c1, c2, c3, c4, c5⟩ := hC
    have hI1 := Iv_all h (k + 1) (by omega)
    have h0 := (hI1.2.2.2.1 g hg).1 r (by omega) hr
    refine ⟨h0, ?_⟩
    have hR := R_col h (show k + 1 ≤ r by omega) hr hg
    have hp := sm_part2 hg (show k + 1 ≤ r by omega) hr
    have hR2 : Rk A (k + 1) r g ≤ dt (k + 1) A * G := Int.le_trans hR (mm (Int.le_refl _) (by omega) (by have := hg r hr; have := sm_ge0 (n := k + 1) (f := g) (fun i hi => hg i (by omega)); omega) (Int.le_of_lt hI1.1))
    have hd := (Iv_all h k (by omega)).1
    have u := mm (Int.le_refl (dt k A)) hR2 h0 (Int.le_of_lt hd)
    have := dd_bnd h hn hq q1 (show k + 1 < n by omega) (G : Int) (by omega) c2 c3
    omega
theorem num_c {n q G k r c : Nat} {A : Nat → Nat → Int} (h : GL n A) (hn : n ≤ 5) (hq : sm n (fun i => A i i) ≤ (q : Int)) (hC : NC q G) (hk : k < n) (hr : r < n) (hc : k < c) (hcn : c < n) : -(2 ^ 63) < dt k A * En A (k + 1) r (fun i => A i c) ∧ dt k A * En A (k + 1) r (fun i => A i c) < 2 ^ 63 := by
  obtain ⟨q1, G1, c1, c2, c3, c4, c5⟩ := hC
  have hI1 := Iv_all h (k + 1) (by omega)
  have hd := (Iv_all h k (by omega)).1
  have hd1 := hI1.1
  have hA0 := gl_diag h hr
  have hAq : A r r ≤ q := Int.le_trans (sm_ge1 (f := fun i => A i i) (fun i hi => gl_diag h hi) hr) hq
  have hb := dd_bnd h hn hq q1 (show k + 1 < n by omega) (q : Int) (by omega) c4 c5
  have hq1 : (1 : Int) ≤ q := by omega
  have key : ∀ v, - (dt (k + 1) A * q) ≤ v → v ≤ dt (k + 1) A * q → -(2 ^ 63) < dt k A * v ∧ dt k A * v < 2 ^ 63 := by
    intro v v1 v2
    by_cases h0 : 0 ≤ v
    · have := mm (Int.le_refl (dt k A)) v2 h0 (Int.le_of_lt hd)
      have := Int.mul_nonneg (Int.le_of_lt hd) h0
      constructor <;> omega
    · have := mm (Int.le_refl (dt k A)) (show -v ≤ dt (k + 1) A * q by omega) (by omega) (Int.le_of_lt hd)
      have := Int.mul_nonneg (Int.le_of_lt hd) (show 0 ≤ -v by omega)
      rw [Int.mul_neg] at *
      constructor <;> omega
  unfold En
  by_cases e : r < k + 1
  · rw [if_pos e]
    have := X_off h e (show k + 1 ≤ c by omega) hcn
    have := hI1.2.2.1 r c e (by omega) hcn
    have := mm (Int.le_refl (dt (k + 1) A)) hq1 (by omega) (Int.le_of_lt hd1)
    exact key _ (by omega) (by omega)
  · rw [if_neg e]
    have hDA : dt (k + 1) A * A r r ≤ dt (k + 1) A * q := mm (Int.le_refl _) hAq hA0 (Int.le_of_lt hd1)
    by_cases e2 : r = c
    · subst e2
      have := R_diag h (show k + 1 ≤ r by omega) hr
      have hr0 : 0 < Rk A (k + 1) r (fun i => A i r) := by
        have hS := h.1.lo (show k + 1 ≤ n by omega)
        have hD : dt (k + 1) A ≠ 0 := by omega
        apply Classical.byContradiction
        intro hno
        have h0 := (hI1.2.2.2.1 (rs n A) (fun i hi => h.2.2.1 i hi)).1 r (by omega) hr
        have hsum := rs_R (n := n) (r := r) hS hD
        have hle : ∀ c, c < n → c ≠ r → Rk A (k + 1) r (fun i => A i c) ≤ 0 := fun c hc' hne => by
          by_cases e3 : c < k + 1
          · rw [Rk_own hS hD e3]; exact Int.le_refl 0
          · exact hI1.2.1 r c (by omega) hr (by omega) hc' (fun z => hne z.symm)
        obtain ⟨x, x1, x2, x3, x4⟩ := hI1.2.2.2.2 (fun x => x = r) ⟨r, by omega, hr, rfl⟩
        subst x3
        rcases x4 with x4 | ⟨c', y1, y2, y3, y4⟩
        · have := sm_le1 hr hle
          omega
        · have := sm_le2 hr y2 (fun z => y3 z.symm) hle
          have := hle c' y2 y3
          omega
      exact key _ (by omega) (by omega)
    · have := R_off h (show k + 1 ≤ r by omega) hr (show k + 1 ≤ c by omega) hcn e2
      have := hI1.2.1 r c (by omega) hr (by omega) hcn e2
      exact key _ (by omega) (by omega)
theorem fin_NC : ∀ W, W < 182 → (2 * (W + 1)) ^ 8 * (2 * (2349 - 8 * W) + 2) < 2 ^ 79 := by decide +kernel
