/-! symmetric systems -/
def Xk (A : Nat → Nat → Int) (k j : Nat) (g : Nat → Int) : Int := dt k (rc j g A)
def Rk (A : Nat → Nat → Int) (k r : Nat) (g : Nat → Int) : Int := dt k A * g r - sm k (fun j => A r j * Xk A k j g)
def un (i : Nat) : Nat → Int := fun l => if l = i then 1 else 0
def Sy (n : Nat) (A : Nat → Nat → Int) : Prop := ∀ i j, i < n → j < n → A i j = A j i
theorem Xk_c {A : Nat → Nat → Int} {k i : Nat} (hi : i < k) (g : Nat → Int) : sm k (fun j => A i j * Xk A k j g) = dt k A * g i := cramer hi g A
theorem Rk_d (A : Nat → Nat → Int) (k r : Nat) (g : Nat → Int) : sm k (fun j => A r j * Xk A k j g) = dt k A * g r - Rk A k r g := by unfold Rk; omega
theorem Rk_lo {A : Nat → Nat → Int} {k i : Nat} (hi : i < k) (g : Nat → Int) : Rk A k i g = 0 := by
  unfold Rk
  rw [Xk_c hi]
  omega
theorem sm_un {n i : Nat} (hi : i < n) (f : Nat → Int) : sm n (fun j => f j * un i j) = f i := by
  rw [sm_one hi, sm_z (n := n) (fun j hj => by
    unfold un
    by_cases e : j = i
    · rw [if_pos e]
    · rw [if_neg e, if_neg e, Int.mul_zero])]
  unfold un
  rw [if_pos rfl]
  omega
theorem dot_sym {n : Nat} {A : Nat → Nat → Int} (hS : Sy n A) (u y : Nat → Int) : sm n (fun l => u l * sm n (fun j => A l j * y j)) = sm n (fun j => y j * sm n (fun l => A j l * u l)) := by
  have e1 : sm n (fun l => u l * sm n (fun j => A l j * y j)) = sm n (fun l => sm n (fun j => u l * (A l j * y j))) := sm_cg fun l _ => (sm_ml _ _ _).symm
  have e2 : sm n (fun j => y j * sm n (fun l => A j l * u l)) = sm n (fun j => sm n (fun l => y j * (A j l * u l))) := sm_cg fun l _ => (sm_ml _ _ _).symm
  rw [e1, e2, sm_swap]
  exact sm_cg fun j hj => sm_cg fun l hl => by
    rw [hS l j hl hj]
    grind
theorem inj {k : Nat} {A : Nat → Nat → Int} (hS : Sy k A) (hD : dt k A ≠ 0) {y : Nat → Int} (h : ∀ i, i < k → sm k (fun j => A i j * y j) = 0) {i : Nat} (hi : i < k) : y i = 0 := by
  have e := dot_sym hS (fun l => Xk A k l (un i)) y
  rw [sm_z (f := fun l => Xk A k l (un i) * sm k (fun j => A l j * y j)) (fun l hl => by rw [h l hl, Int.mul_zero])] at e
  rw [sm_cg (n := k) (f := fun j => y j * sm k (fun l => A j l * Xk A k l (un i))) (g := fun j => dt k A * y j * un i j) (fun j hj => by rw [Xk_c hj]; grind), sm_un hi (fun j => dt k A * y j)] at e
  rcases Int.mul_eq_zero.mp e.symm with z | z
  · exact absurd z hD
  · exact z
theorem uniq {k : Nat} {A : Nat → Nat → Int} (hS : Sy k A) (hD : dt k A ≠ 0) {y g : Nat → Int} (h : ∀ i, i < k → sm k (fun j => A i j * y j) = dt k A * g i) {j : Nat} (hj : j < k) : Xk A k j g = y j := by
  have := inj hS hD (y := fun j => Xk A k j g - y j) (fun i hi => by
    rw [sm_cg (n := k) (g := fun j => A i j * Xk A k j g - A i j * y j) (fun j _ => by grind), sm_sub, Xk_c hi, h i hi]
    omega) hj
  omega
/-- solutions of two right sides of one system agree but for the factor -/
theorem ratio {k : Nat} {A : Nat → Nat → Int} (hS : Sy k A) (hD : dt k A ≠ 0) {y g : Nat → Int} {c : Int} (h : ∀ i, i < k → sm k (fun j => A i j * y j) = c * g i) {j : Nat} (hj : j < k) : dt k A * y j = c * Xk A k j g := by
  have := inj hS hD (y := fun j => dt k A * y j - c * Xk A k j g) (fun i hi => by
    rw [sm_cg (n := k) (g := fun j => dt k A * (A i j * y j) - c * (A i j * Xk A k j g)) (fun j _ => by grind), sm_sub, sm_ml, sm_ml, Xk_c hi, h i hi]
    grind) hj
  omega
theorem Xk_sum {k m : Nat} {A : Nat → Nat → Int} (hS : Sy k A) (hD : dt k A ≠ 0) (f : Nat → Nat → Int) (c : Nat → Int) {g : Nat → Int} (hg : ∀ i, i < k → g i = sm m (fun l => c l * f l i)) {j : Nat} (hj : j < k) : Xk A k j g = sm m (fun l => c l * Xk A k j (f l)) := by
  refine uniq hS hD (y := fun j => sm m (fun l => c l * Xk A k j (f l))) (fun i hi => ?_) hj
  rw [sm_cg (n := k) (g := fun j => sm m (fun l => c l * (A i j * Xk A k j (f l)))) (fun j _ => by
    rw [← sm_ml]
    exact sm_cg fun l _ => by grind), sm_swap, hg i hi, ← sm_ml]
  refine sm_cg fun l _ => ?_
  rw [sm_ml, Xk_c hi]
  grind
theorem Rk_sum {k m r : Nat} {A : Nat → Nat → Int} (hS : Sy k A) (hD : dt k A ≠ 0) (f : Nat → Nat → Int) (c : Nat → Int) {g : Nat → Int} (hg : ∀ i, i < k → g i = sm m (fun l => c l * f l i)) (hr : g r = sm m (fun l => c l * f l r)) : Rk A k r g = sm m (fun l => c l * Rk A k r (f l)) := by
  unfold Rk
  rw [hr, sm_cg (n := k) (g := fun j => sm m (fun l => c l * (A r j * Xk A k j (f l)))) (fun j hj => by
    rw [Xk_sum hS hD f c hg hj, ← sm_ml]
    exact sm_cg fun l _ => by grind), sm_swap, ← sm_ml, ← sm_sub]
  refine sm_cg fun l _ => ?_
  rw [sm_ml]
  grind
theorem Xk_own {k c : Nat} {A : Nat → Nat → Int} (hS : Sy k A) (hD : dt k A ≠ 0) (hc : c < k) {j : Nat} (hj : j < k) : Xk A k j (fun i => A i c) = if j = c then dt k A else 0 := by
  refine uniq hS hD (y := fun j => if j = c then dt k A else 0) (fun i hi => ?_) hj
  rw [sm_cg (n := k) (g := fun j => A i j * dt k A * un c j) (fun j _ => by
    unfold un
    by_cases e : j = c
    · rw [if_pos e, if_pos e, Int.mul_one]
    · rw [if_neg e, if_neg e, Int.mul_zero, Int.mul_zero]), sm_un hc (fun j => A i j * dt k A)]
  exact Int.mul_comm _ _
theorem Rk_own {k c r : Nat} {A : Nat → Nat → Int} (hS : Sy k A) (hD : dt k A ≠ 0) (hc : c < k) : Rk A k r (fun i => A i c) = 0 := by
  unfold Rk
  rw [sm_cg (n := k) (g := fun j => A r j * dt k A * un c j) (fun j hj => by
    rw [Xk_own hS hD hc hj]
    unfold un
    by_cases e : j = c
    · rw [if_pos e, if_pos e, Int.mul_one]
    · rw [if_neg e, if_neg e, Int.mul_zero, Int.mul_zero]), sm_un hc (fun j => A r j * dt k A)]
  grind
theorem adj_sym {k : Nat} {A : Nat → Nat → Int} (hS : Sy k A) (hD : dt k A ≠ 0) {i j : Nat} (hi : i < k) (hj : j < k) : Xk A k j (un i) = Xk A k i (un j) := by
  have e := dot_sym hS (fun l => Xk A k l (un i)) (fun l => Xk A k l (un j))
  rw [sm_cg (n := k) (f := fun l => Xk A k l (un i) * sm k (fun m => A l m * Xk A k m (un j))) (g := fun l => Xk A k l (un i) * dt k A * un j l) (fun l hl => by rw [Xk_c hl]; grind), sm_un hj (fun l => Xk A k l (un i) * dt k A)] at e
  rw [sm_cg (n := k) (f := fun l => Xk A k l (un j) * sm k (fun m => A l m * Xk A k m (un i))) (g := fun l => Xk A k l (un j) * dt k A * un i l) (fun l hl => by rw [Xk_c hl]; grind), sm_un hi (fun l => Xk A k l (un j) * dt k A)] at e
  exact Int.eq_of_mul_eq_mul_right hD e
theorem D_next (A : Nat → Nat → Int) (k : Nat) : dt (k + 1) A = Rk A k k (fun i => A i k) := by
  rw [dt_next]
  unfold Rk Xk
  grind
/-- the step of the elimination -/
theorem step_all {k : Nat} {A : Nat → Nat → Int} (hS : Sy (k + 1) A) (h0 : dt k A ≠ 0) (h1 : dt (k + 1) A ≠ 0) (g : Nat → Int) : Xk A (k + 1) k g = Rk A k k g ∧ (∀ j, j < k → dt k A * Xk A (k + 1) j g = dt (k + 1) A * Xk A k j g - Xk A k j (fun i => A i k) * Rk A k k g) ∧ ∀ r, dt k A * Rk A (k + 1) r g = dt (k + 1) A * Rk A k r g - Rk A k r (fun i => A i k) * Rk A k k g := by
  have hN := D_next A k
  have key : ∀ i, sm k (fun j => A i j * (dt (k + 1) A * Xk A k j g - Xk A k j (fun i => A i k) * Rk A k k g)) + A i k * (dt k A * Rk A k k g) = dt k A * (dt (k + 1) A * g i) - dt (k + 1) A * Rk A k i g + Rk A k i (fun i => A i k) * Rk A k k g := by
    intro i
    rw [sm_cg (n := k) (g := fun j => dt (k + 1) A * (A i j * Xk A k j g) - Rk A k k g * (A i j * Xk A k j (fun i => A i k))) (fun j _ => by grind), sm_sub, sm_ml, sm_ml, Rk_d, Rk_d]
    grind
  have hy := fun j (hj : j < k + 1) => inj hS h1 (y := fun j => dt k A * Xk A (k + 1) j g - (if j < k then dt (k + 1) A * Xk A k j g - Xk A k j (fun i => A i k) * Rk A k k g else dt k A * Rk A k k g)) (fun i hi => by
    rw [sm_cg (n := k + 1) (g := fun j => dt k A * (A i j * Xk A (k + 1) j g) - A i j * (if j < k then dt (k + 1) A * Xk A k j g - Xk A k j (fun i => A i k) * Rk A k k g else dt k A * Rk A k k g)) (fun j _ => by grind), sm_sub, sm_ml, Xk_c hi, sm_s, if_neg (show ¬ k < k by omega), sm_cg (n := k) (g := fun j => A i j * (dt (k + 1) A * Xk A k j g - Xk A k j (fun i => A i k) * Rk A k k g)) (fun j hj => by rw [if_pos hj]), key i]
    by_cases e : i = k
    · subst e
      rw [← hN]
      grind
    · rw [Rk_lo (show i < k by omega), Rk_lo (show i < k by omega)]
      grind) hj
  have hk : Xk A (k + 1) k g = Rk A k k g := by
    have := hy k (by omega)
    simp only [Nat.lt_irrefl, if_false] at this
    have e : dt k A * (Xk A (k + 1) k g - Rk A k k g) = 0 := by grind
    rcases Int.mul_eq_zero.mp e with z | z
    · exact absurd z h0
    · omega
  have hj : ∀ j, j < k → dt k A * Xk A (k + 1) j g = dt (k + 1) A * Xk A k j g - Xk A k j (fun i => A i k) * Rk A k k g := by
    intro j hj
    have := hy j (by omega)
    simp only [hj, if_true] at this
    omega
  refine ⟨hk, hj, fun r => ?_⟩
  have e : dt k A * sm (k + 1) (fun j => A r j * Xk A (k + 1) j g) = sm k (fun j => A r j * (dt (k + 1) A * Xk A k j g - Xk A k j (fun i => A i k) * Rk A k k g)) + A r k * (dt k A * Rk A k k g) := by
    rw [sm_s, hk, Int.mul_add, ← sm_ml]
    congr 1
    · exact sm_cg fun j h => by rw [← hj j h]; grind
    · grind
  rw [key r] at e
  unfold Rk at e ⊢
  rw [Int.mul_sub, e]
  grind
