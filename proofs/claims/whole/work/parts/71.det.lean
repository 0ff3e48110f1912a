/-! determinants by the last row -/
def sg (n : Nat) : Int := if n % 2 = 0 then 1 else -1
theorem sg_s (n : Nat) : sg (n + 1) = - sg n := by
  unfold sg
  by_cases h : n % 2 = 0
  · rw [if_pos h, if_neg (by omega)]
  · rw [if_neg h, if_pos (by omega)]; rfl
theorem sg_add (a b : Nat) : sg (a + b) = sg a * sg b := by
  induction b with
  | zero => rw [Nat.add_zero, show sg 0 = 1 from rfl, Int.mul_one]
  | succ b ih => rw [← Nat.add_assoc, sg_s, ih, sg_s, Int.mul_neg]
theorem sg_sq (a : Nat) : sg a * sg a = 1 := by
  unfold sg
  split <;> rfl
theorem sg_2 (a : Nat) : sg (a + a) = 1 := by rw [sg_add, sg_sq]
def dc (p : Nat) (M : Nat → Nat → Int) : Nat → Nat → Int := fun i q => M i (if q < p then q else q + 1)
def dr (r : Nat) (M : Nat → Nat → Int) : Nat → Nat → Int := fun i q => M (if i < r then i else i + 1) q
def dt : Nat → (Nat → Nat → Int) → Int
  | 0, _ => 1
  | m + 1, M => sm (m + 1) (fun p => sg (m + p) * M m p * dt m (dc p M))
theorem dt_s (m : Nat) (M : Nat → Nat → Int) : dt (m + 1) M = sm (m + 1) (fun p => sg (m + p) * M m p * dt m (dc p M)) := rfl
theorem dt_cg : ∀ (m : Nat) (M N : Nat → Nat → Int), (∀ i q, i < m → q < m → M i q = N i q) → dt m M = dt m N := by
  intro m
  induction m with
  | zero => intro M N _; rfl
  | succ m ih =>
    intro M N h
    rw [dt_s, dt_s]
    apply sm_cg
    intro p hp
    rw [h m p (by omega) hp, ih (dc p M) (dc p N) (fun i q hi hq => h i _ (by omega) (by split <;> omega))]
theorem dc_dc {a b : Nat} (h : a < b) (M : Nat → Nat → Int) : dc a (dc b M) = dc (b - 1) (dc a M) := by
  funext i q
  unfold dc
  congr 1
  by_cases h1 : q < a
  · rw [if_pos h1, if_pos (show q < b by omega), if_pos (show q < b - 1 by omega), if_pos h1]
  · rw [if_neg h1]
    by_cases h2 : q + 1 < b
    · rw [if_pos h2, if_pos (show q < b - 1 by omega), if_neg h1]
    · rw [if_neg h2, if_neg (show ¬ q < b - 1 by omega), if_neg (show ¬ q + 1 < a by omega)]
theorem dt_rep : ∀ (m i : Nat) (M : Nat → Nat → Int), i < m → sm (m + 1) (fun p => sg (m + p) * M i p * dt m (dc p M)) = 0 := by
  intro m
  induction m with
  | zero => intro i M h; omega
  | succ m ih =>
    intro i M hi
    have e1 : sm (m + 1 + 1) (fun p => sg (m + 1 + p) * M i p * dt (m + 1) (dc p M)) = sm (m + 1 + 1) (fun p => sm (m + 1) (fun q => sg (m + 1 + p) * M i p * (sg (m + q) * dc p M m q * dt m (dc q (dc p M))))) := by
      apply sm_cg
      intro p hp
      rw [dt_s, ← sm_ml]
    have e2 : sm (m + 1 + 1) (fun p => sm (m + 1) (fun q => sg (m + 1 + p) * M m p * (sg (m + q) * dc p M i q * dt m (dc q (dc p M))))) = 0 ∨ i = m := by
      by_cases h : i = m
      · exact Or.inr h
      · left
        apply sm_z
        intro p hp
        rw [sm_ml, ih i (dc p M) (by omega), Int.mul_zero]
    rw [e1, sm_dbl]
    rcases e2 with e2 | e2
    · rw [sm_dbl] at e2
      have : ∀ b, b < m + 1 + 1 → sm b (fun a => sg (m + 1 + b) * M i b * (sg (m + a) * dc b M m a * dt m (dc a (dc b M))) + sg (m + 1 + a) * M i a * (sg (m + (b - 1)) * dc a M m (b - 1) * dt m (dc (b - 1) (dc a M)))) = - sm b (fun a => sg (m + 1 + b) * M m b * (sg (m + a) * dc b M i a * dt m (dc a (dc b M))) + sg (m + 1 + a) * M m a * (sg (m + (b - 1)) * dc a M i (b - 1) * dt m (dc (b - 1) (dc a M)))) := by
        intro b hb
        rw [← sm_neg]
        apply sm_cg
        intro a ha
        obtain ⟨c, rfl⟩ : ∃ c, b = c + 1 := ⟨b - 1, by omega⟩
        rw [← dc_dc ha M]
        rw [show dc (c + 1) M m a = M m a from by unfold dc; rw [if_pos ha], show dc (c + 1) M i a = M i a from by unfold dc; rw [if_pos ha], show dc a M m (c + 1 - 1) = M m (c + 1) from by unfold dc; rw [if_neg (by omega)]; rfl, show dc a M i (c + 1 - 1) = M i (c + 1) from by unfold dc; rw [if_neg (by omega)]; rfl]
        rw [show m + 1 + (c + 1) = m + c + 1 + 1 by omega, show m + 1 + a = m + a + 1 by omega, show m + (c + 1 - 1) = m + c by omega, sg_s, sg_s, sg_s]
        generalize dt m (dc a (dc (c + 1) M)) = X
        generalize M i a = u
        generalize M i (c + 1) = v
        generalize M m a = s
        generalize M m (c + 1) = t
        generalize sg (m + c) = x
        generalize sg (m + a) = z
        grind
      rw [sm_cg this, sm_neg, e2]
      rfl
    · subst e2
      apply sm_z
      intro b hb
      apply sm_z
      intro a ha
      obtain ⟨c, rfl⟩ : ∃ c, b = c + 1 := ⟨b - 1, by omega⟩
      rw [← dc_dc ha M]
      rw [show dc (c + 1) M i a = M i a from by unfold dc; rw [if_pos ha], show dc a M i (c + 1 - 1) = M i (c + 1) from by unfold dc; rw [if_neg (by omega)]; rfl]
      rw [show i + 1 + (c + 1) = i + c + 1 + 1 by omega, show i + 1 + a = i + a + 1 by omega, show i + (c + 1 - 1) = i + c by omega, sg_s, sg_s, sg_s]
      generalize dt i (dc a (dc (c + 1) M)) = X
      generalize M i a = u
      generalize M i (c + 1) = v
      generalize sg (i + c) = x
      generalize sg (i + a) = z
      grind
def sw (a : Nat) (M : Nat → Nat → Int) : Nat → Nat → Int := fun i q => if q = a then M i (a + 1) else if q = a + 1 then M i a else M i q
theorem dt_sw : ∀ (m a : Nat) (M : Nat → Nat → Int), a + 1 < m → dt m (sw a M) = - dt m M := by
  intro m
  induction m with
  | zero => intro a M h; omega
  | succ m ih =>
    intro a M h
    rw [dt_s, dt_s, ← sm_neg]
    refine sm_adj (a := a) ?_ ?_ (m + 1) (by omega) ?_
    · have e : dc a (sw a M) = dc (a + 1) M := by
        funext i q
        simp only [dc, sw]
        grind
      rw [e, show sw a M m a = M m (a + 1) from by unfold sw; rw [if_pos rfl], ← Nat.add_assoc, sg_s]
      grind
    · have e : dc (a + 1) (sw a M) = dc a M := by
        funext i q
        simp only [dc, sw]
        grind
      rw [e, show sw a M m (a + 1) = M m a from by unfold sw; rw [if_neg (by omega), if_pos rfl], ← Nat.add_assoc, sg_s]
      grind
    · intro p hp h1 h2
      rw [show sw a M m p = M m p from by unfold sw; rw [if_neg h1, if_neg h2]]
      by_cases h3 : p < a
      · have e : dc p (sw a M) = sw (a - 1) (dc p M) := by
          funext i q
          simp only [dc, sw]
          grind
        rw [e, ih (a - 1) (dc p M) (by omega)]
        grind
      · have e : dc p (sw a M) = sw a (dc p M) := by
          funext i q
          simp only [dc, sw]
          grind
        rw [e, ih a (dc p M) (by omega)]
        grind
/-- the last of n+1 columns put at place t -/
def ins (n t : Nat) (M : Nat → Nat → Int) : Nat → Nat → Int := fun i q => if q < t then M i q else if q = t then M i n else M i (q - 1)
theorem dt_ins (n : Nat) (M : Nat → Nat → Int) : ∀ d, d ≤ n → dt (n + 1) (ins n (n - d) M) = sg d * dt (n + 1) M := by
  intro d
  induction d with
  | zero =>
    intro _
    rw [show sg 0 = 1 from rfl, Int.one_mul]
    apply dt_cg
    intro i q hi hq
    simp only [ins]
    grind
  | succ d ih =>
    intro hd
    have e : ins n (n - (d + 1)) M = sw (n - (d + 1)) (ins n (n - d) M) := by
      funext i q
      simp only [ins, sw]
      grind
    rw [e, dt_sw (n + 1) _ _ (by omega), ih (by omega), sg_s]
    grind
/-- column j replaced -/
def rc (j : Nat) (g : Nat → Int) (A : Nat → Nat → Int) : Nat → Nat → Int := fun i q => if q = j then g i else A i q
/-- g behind k columns of A -/
def ag (k : Nat) (g : Nat → Int) (A : Nat → Nat → Int) : Nat → Nat → Int := fun i q => if q < k then A i q else g i
theorem dt_mv {k j : Nat} (hj : j < k) (g : Nat → Int) (A : Nat → Nat → Int) : dt k (dc j (ag k g A)) = sg (k + 1 + j) * dt k (rc j g A) := by
  obtain ⟨n, rfl⟩ : ∃ n, k = n + 1 := ⟨k - 1, by omega⟩
  have h := dt_ins n (dc j (ag (n + 1) g A)) (n - j) (by omega)
  have e : dt (n + 1) (ins n (n - (n - j)) (dc j (ag (n + 1) g A))) = dt (n + 1) (rc j g A) := by
    apply dt_cg
    intro i q hi hq
    simp only [ins, dc, ag, rc]
    grind
  rw [e] at h
  have h2 : sg (n + 1 + 1 + j) = sg (n - j) := by
    unfold sg
    by_cases hp : (n - j) % 2 = 0
    · rw [if_pos hp, if_pos (by omega)]
    · rw [if_neg hp, if_neg (by omega)]
  rw [h2, h, ← Int.mul_assoc, sg_sq, Int.one_mul]
/-- the last row, and Cramer -/
theorem dt_last (k : Nat) (g : Nat → Int) (A : Nat → Nat → Int) (i : Nat) : sm (k + 1) (fun p => sg (k + p) * ag k g A i p * dt k (dc p (ag k g A))) = g i * dt k A - sm k (fun j => A i j * dt k (rc j g A)) := by
  rw [sm_s]
  have e1 : sm k (fun p => sg (k + p) * ag k g A i p * dt k (dc p (ag k g A))) = - sm k (fun j => A i j * dt k (rc j g A)) := by
    rw [← sm_neg]
    apply sm_cg
    intro j hj
    rw [dt_mv hj, show ag k g A i j = A i j from if_pos hj, show k + 1 + j = k + j + 1 by omega, sg_s]
    have := sg_sq (k + j)
    generalize sg (k + j) = x at *
    grind
  have e2 : dt k (dc k (ag k g A)) = dt k A := by
    apply dt_cg
    intro i q hi hq
    unfold dc ag
    rw [if_pos hq, if_pos hq]
  rw [e1, e2, show ag k g A i k = g i from if_neg (by omega), sg_2]
  grind
theorem cramer {k i : Nat} (hi : i < k) (g : Nat → Int) (A : Nat → Nat → Int) : sm k (fun j => A i j * dt k (rc j g A)) = dt k A * g i := by
  have := dt_rep k i (ag k g A) hi
  rw [dt_last] at this
  grind
theorem dt_next (k : Nat) (A : Nat → Nat → Int) : dt (k + 1) A = A k k * dt k A - sm k (fun j => A k j * dt k (rc j (fun i => A i k) A)) := by
  refine Eq.trans ?_ (dt_last k (fun i => A i k) A k)
  rw [dt_s]
  have e : ∀ p, p < k + 1 → ∀ i, ag k (fun i => A i k) A i p = A i p := by
    intro p hp i
    unfold ag
    by_cases h : p < k
    · rw [if_pos h]
    · rw [if_neg h, show p = k by omega]
  apply sm_cg
  intro p hp
  rw [e p hp]
  congr 1
  apply dt_cg
  intro i q hi hq
  unfold dc
  rw [e _ (by split <;> omega)]
theorem dt_zc : ∀ (m c : Nat) (M : Nat → Nat → Int), c < m → (∀ i, i < m → M i c = 0) → dt m M = 0 := by
  intro m
  induction m with
  | zero => intro c M h; omega
  | succ m ih =>
    intro c M h hz
    rw [dt_s]
    apply sm_z
    intro p hp
    by_cases e : p = c
    · rw [e, hz m (by omega), Int.mul_zero, Int.zero_mul]
    · rw [ih (if c < p then c else c - 1) (dc p M) (by split <;> omega) (fun i hi => by
        unfold dc
        by_cases h1 : c < p
        · rw [if_pos h1, if_pos h1]
          exact hz i (by omega)
        · rw [if_neg h1, if_neg (by omega), show c - 1 + 1 = c by omega]
          exact hz i (by omega)), Int.mul_zero]
/-- a unit column -/
theorem dt_uc : ∀ (m r c : Nat) (M : Nat → Nat → Int), r ≤ m → c ≤ m → (∀ i, i ≤ m → M i c = if i = r then 1 else 0) → dt (m + 1) M = sg (r + c) * dt m (dr r (dc c M)) := by
  intro m
  induction m with
  | zero =>
    intro r c M hr hc h
    have : r = 0 := by omega
    subst this
    have : c = 0 := by omega
    subst this
    rw [dt_s, sm_s, sm_0, h 0 (by omega), if_pos rfl]
    rfl
  | succ m ih =>
    intro r c M hr hc h
    rw [dt_s, sm_skip hc]
    by_cases e : r = m + 1
    · have z : sm (m + 1) (fun q => sg (m + 1 + (if q < c then q else q + 1)) * M (m + 1) (if q < c then q else q + 1) * dt (m + 1) (dc (if q < c then q else q + 1) M)) = 0 := by
        apply sm_z
        intro q hq
        rw [dt_zc (m + 1) (if q < c then c - 1 else c) _ (by split <;> omega) (fun i hi => by
          unfold dc
          by_cases h1 : q < c
          · rw [if_pos h1, if_pos h1, if_neg (by omega), show c - 1 + 1 = c by omega, h i (by omega), if_neg (by omega)]
          · rw [if_neg h1, if_neg h1, if_pos (by omega), h i (by omega), if_neg (by omega)]), Int.mul_zero]
      rw [z, h (m + 1) (by omega), if_pos e.symm, Int.add_zero, Int.mul_one, e]
      congr 1
      apply dt_cg
      intro i q hi hq
      unfold dr
      rw [if_pos hi]
    · rw [h (m + 1) (by omega), if_neg (fun z => e z.symm), Int.mul_zero, Int.zero_mul, Int.zero_add, dt_s, ← sm_ml]
      apply sm_cg
      intro q hq
      have hrow : dr r (dc c M) m q = M (m + 1) (if q < c then q else q + 1) := by
        unfold dr dc
        rw [if_neg (show ¬ m < r by omega)]
      have hcomm : dc q (dr r (dc c M)) = dr r (dc q (dc c M)) := rfl
      rw [hrow, hcomm]
      by_cases h1 : q < c
      · rw [if_pos h1]
        rw [ih r (c - 1) (dc q M) (by omega) (by omega) (fun i hi => by
          unfold dc
          rw [if_neg (by omega), show c - 1 + 1 = c by omega, h i (by omega)]), ← dc_dc h1]
        obtain ⟨b, rfl⟩ : ∃ b, c = b + 1 := ⟨c - 1, by omega⟩
        rw [show m + 1 + q = m + q + 1 by omega, show r + (b + 1) = r + b + 1 by omega, show b + 1 - 1 = b by omega, sg_s, sg_s]
        generalize dt m (dr r (dc q (dc (b + 1) M))) = X
        generalize M (m + 1) q = u
        generalize sg (m + q) = x
        generalize sg (r + b) = z
        grind
      · rw [if_neg h1]
        rw [ih r c (dc (q + 1) M) (by omega) (by omega) (fun i hi => by
          unfold dc
          rw [if_pos (by omega), h i (by omega)]), dc_dc (show c < q + 1 by omega), Nat.add_sub_cancel]
        rw [show m + 1 + (q + 1) = m + q + 1 + 1 by omega, sg_s, sg_s]
        generalize dt m (dr r (dc q (dc c M))) = X
        generalize M (m + 1) (q + 1) = u
        generalize sg (m + q) = x
        generalize sg (r + c) = z
        grind
