/-! sums over Int -/
def sm : Nat → (Nat → Int) → Int
  | 0, _ => 0
  | n + 1, f => sm n f + f n
theorem sm_0 (f : Nat → Int) : sm 0 f = 0 := rfl
theorem sm_s (n : Nat) (f : Nat → Int) : sm (n + 1) f = sm n f + f n := rfl
theorem sm_cg {n : Nat} {f g : Nat → Int} (h : ∀ i, i < n → f i = g i) : sm n f = sm n g := by
  induction n with
  | zero => rfl
  | succ n ih => rw [sm_s, sm_s, ih (fun i hi => h i (by omega)), h n (by omega)]
theorem sm_z {n : Nat} {f : Nat → Int} (h : ∀ i, i < n → f i = 0) : sm n f = 0 := by
  induction n with
  | zero => rfl
  | succ n ih => rw [sm_s, ih (fun i hi => h i (by omega)), h n (by omega)]; rfl
theorem sm_add (n : Nat) (f g : Nat → Int) : sm n (fun i => f i + g i) = sm n f + sm n g := by
  induction n with
  | zero => rfl
  | succ n ih => rw [sm_s, sm_s, sm_s, ih]; omega
theorem sm_sub (n : Nat) (f g : Nat → Int) : sm n (fun i => f i - g i) = sm n f - sm n g := by
  induction n with
  | zero => rfl
  | succ n ih => rw [sm_s, sm_s, sm_s, ih]; omega
theorem sm_neg (n : Nat) (f : Nat → Int) : sm n (fun i => - f i) = - sm n f := by
  induction n with
  | zero => rfl
  | succ n ih => rw [sm_s, sm_s, ih]; omega
theorem sm_ml (n : Nat) (c : Int) (f : Nat → Int) : sm n (fun i => c * f i) = c * sm n f := by
  induction n with
  | zero => rw [sm_0, sm_0, Int.mul_zero]
  | succ n ih => rw [sm_s, sm_s, ih, Int.mul_add]
theorem sm_mr (n : Nat) (c : Int) (f : Nat → Int) : sm n (fun i => f i * c) = sm n f * c := by
  rw [Int.mul_comm, ← sm_ml]
  exact sm_cg fun i _ => Int.mul_comm _ _
theorem sm_swap (m n : Nat) (f : Nat → Nat → Int) : sm m (fun i => sm n (fun j => f i j)) = sm n (fun j => sm m (fun i => f i j)) := by
  induction m with
  | zero => rw [sm_0]; exact (sm_z fun _ _ => rfl).symm
  | succ m ih =>
    rw [sm_s, ih, ← sm_add]
    exact sm_cg fun j _ => rfl
theorem sm_ge0 {n : Nat} {f : Nat → Int} (h : ∀ i, i < n → 0 ≤ f i) : 0 ≤ sm n f := by
  induction n with
  | zero => exact Int.le_refl 0
  | succ n ih =>
    have := ih (fun i hi => h i (by omega))
    have := h n (by omega)
    rw [sm_s]; omega
theorem sm_le {n : Nat} {f g : Nat → Int} (h : ∀ i, i < n → f i ≤ g i) : sm n f ≤ sm n g := by
  have := sm_ge0 (n := n) (f := fun i => g i - f i) (fun i hi => by have := h i hi; omega)
  rw [sm_sub] at this
  omega
theorem sm_ge1 {n : Nat} {f : Nat → Int} (h : ∀ i, i < n → 0 ≤ f i) {k : Nat} (hk : k < n) : f k ≤ sm n f := by
  induction n with
  | zero => omega
  | succ n ih =>
    rw [sm_s]
    by_cases e : k = n
    · subst e
      have := sm_ge0 (n := k) (fun i hi => h i (by omega))
      omega
    · have := ih (fun i hi => h i (by omega)) (by omega)
      have := h n (by omega)
      omega
theorem sm_0of {n : Nat} {f : Nat → Int} (h : ∀ i, i < n → 0 ≤ f i) (h0 : sm n f = 0) {k : Nat} (hk : k < n) : f k = 0 := by
  have := sm_ge1 h hk
  have := h k hk
  omega
/-- one index apart -/
theorem sm_one {n k : Nat} (hk : k < n) (f : Nat → Int) : sm n f = f k + sm n (fun i => if i = k then 0 else f i) := by
  induction n with
  | zero => omega
  | succ n ih =>
    rw [sm_s, sm_s]
    by_cases e : k = n
    · subst e
      rw [if_pos rfl, sm_cg (g := f) (fun i hi => if_neg (by omega))]
      omega
    · rw [ih (by omega), if_neg (fun z => e z.symm)]
      omega
/-- an index left out -/
theorem sm_skip {m c : Nat} (hc : c ≤ m) (f : Nat → Int) : sm (m + 1) f = f c + sm m (fun q => f (if q < c then q else q + 1)) := by
  induction m with
  | zero =>
    have : c = 0 := by omega
    subst this
    rw [sm_s, sm_0, sm_0]
    omega
  | succ m ih =>
    rw [sm_s]
    by_cases e : c = m + 1
    · subst e
      rw [sm_cg (g := f) (f := fun q => f (if q < m + 1 then q else q + 1)) (fun i hi => by rw [if_pos hi])]
      omega
    · rw [ih (by omega), sm_s, if_neg (by omega)]
      omega
theorem sm_adj {a : Nat} {f g : Nat → Int} (h1 : g a = f (a + 1)) (h2 : g (a + 1) = f a) : ∀ n, a + 2 ≤ n → (∀ p, p < n → p ≠ a → p ≠ a + 1 → g p = f p) → sm n g = sm n f := by
  intro n
  induction n with
  | zero => intro h _; omega
  | succ n ih =>
    intro h h3
    by_cases e : n = a + 1
    · subst e
      rw [sm_s, sm_s, sm_s, sm_s, h1, h2, sm_cg (f := g) (g := f) (fun i hi => h3 i (by omega) (by omega) (by omega))]
      omega
    · rw [sm_s, sm_s, ih (by omega) (fun p hp => h3 p (by omega)), h3 n (by omega) (by omega) e]
theorem sm_dbl (F : Nat → Nat → Int) : ∀ m, sm (m + 1) (fun p => sm m (fun q => F p q)) = sm (m + 1) (fun b => sm b (fun a => F b a + F a (b - 1))) := by
  intro m
  induction m with
  | zero => rfl
  | succ m ih =>
    rw [sm_s (m + 1), sm_s (m + 1), ← ih]
    have h1 : sm (m + 1) (fun p => sm (m + 1) (fun q => F p q)) = sm (m + 1) (fun p => sm m (fun q => F p q)) + sm (m + 1) (fun p => F p m) := by
      rw [← sm_add]
      exact sm_cg fun i _ => rfl
    rw [h1, sm_add]
    simp only [Nat.add_sub_cancel]
    have e0 : sm (m + 1) (fun q => F (m + 1) q) = sm (m + 1) (F (m + 1)) := rfl
    omega
