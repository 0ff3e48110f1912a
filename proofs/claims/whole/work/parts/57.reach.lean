/-! reach -/
def GV (P A : Nat) (w : Nat → Wy) : Prop := 2 ≤ P ∧ P ≤ 6 ∧ A ≤ 11 ∧ ∀ k, k < A → Wok P (w k)
theorem NV.g {P W : Nat} {w : Nat → Wy} (h : NV P W w) : GV P W w := ⟨h.1, h.2.1, by have := h.2.2.1; omega, h.2.2.2⟩
def eb (v : Wy) : Nat := 2 ^ wF v ||| 2 ^ wS v
def stp (t : Nat) (w : Nat → Wy) (s k : Nat) : Nat := if t.testBit k = true ∧ (s.testBit (wF (w k)) = true ∨ s.testBit (wS (w k)) = true) then s ||| eb (w k) else s
def swp (t : Nat) (w : Nat → Wy) (s : Nat) : Nat → Nat
  | 0 => s
  | n + 1 => stp t w (swp t w s n) n
def itr (t : Nat) (w : Nat → Wy) (A s : Nat) : Nat → Nat
  | 0 => s
  | n + 1 => swp t w (itr t w A s n) A
def Rch (t : Nat) (w : Nat → Wy) (A s : Nat) : Nat := itr t w A s 6
theorem eb_lt {P : Nat} {v : Wy} (h : Wok P v) : eb v < 2 ^ P := or_lt (two_lt h.1) (two_lt h.2.1)
theorem eb_bit (v : Wy) (k : Nat) : (eb v).testBit k = true ↔ wF v = k ∨ wS v = k := by
  unfold eb
  rw [Nat.testBit_or, two_bit, two_bit]
  simp
theorem and_eb (s : Nat) (v : Wy) : s &&& eb v = 0 ↔ ¬ (s.testBit (wF v) = true ∨ s.testBit (wS v) = true) := by
  constructor
  · intro h q
    rcases q with q | q
    · have := congrArg (fun n => n.testBit (wF v)) h
      simp only [Nat.testBit_and, q, (eb_bit v (wF v)).mpr (Or.inl rfl), Nat.zero_testBit] at this
      exact absurd this (by decide)
    · have := congrArg (fun n => n.testBit (wS v)) h
      simp only [Nat.testBit_and, q, (eb_bit v (wS v)).mpr (Or.inr rfl), Nat.zero_testBit] at this
      exact absurd this (by decide)
  · intro h
    apply bit_eq
    intro k
    rw [Nat.testBit_and, Nat.zero_testBit]
    by_cases hk : (eb v).testBit k = true
    · rcases (eb_bit v k).mp hk with q | q
      · have : s.testBit k = false := by
          rw [← q]
          exact Bool.eq_false_iff.mpr fun z => h (Or.inl z)
        rw [this]; rfl
      · have : s.testBit k = false := by
          rw [← q]
          exact Bool.eq_false_iff.mpr fun z => h (Or.inr z)
        rw [this]; rfl
    · rw [Bool.eq_false_iff.mpr hk, Bool.and_false]
theorem or0 (s : Nat) : s ||| 0 = s := Nat.or_zero s
theorem stp_c {P A t s k : Nat} {w : Nat → Wy} (h : GV P A w) (hk : k < A) : ∃ e, e < 2 ^ P ∧ stp t w s k = s ||| e := by
  unfold stp
  split
  · exact ⟨_, eb_lt (h.2.2.2 k hk), rfl⟩
  · exact ⟨0, Nat.two_pow_pos P, (or0 s).symm⟩
theorem swp_c {P A t s : Nat} {w : Nat → Wy} (h : GV P A w) : ∀ n, n ≤ A → ∃ e, e < 2 ^ P ∧ swp t w s n = s ||| e := by
  intro n
  induction n with
  | zero => intro _; exact ⟨0, Nat.two_pow_pos P, (or0 s).symm⟩
  | succ n ih =>
    intro hn
    obtain ⟨e, e1, e2⟩ := ih (by omega)
    obtain ⟨f, f1, f2⟩ := stp_c (t := t) (s := swp t w s n) h (show n < A by omega)
    refine ⟨e ||| f, or_lt e1 f1, ?_⟩
    show stp t w (swp t w s n) n = _
    rw [f2, e2, Nat.or_assoc]
theorem swp_lt {P A t s n : Nat} {w : Nat → Wy} (h : GV P A w) (hn : n ≤ A) (hs : s < 2 ^ P) : swp t w s n < 2 ^ P := by
  obtain ⟨e, e1, e2⟩ := swp_c (t := t) (s := s) h n hn
  rw [e2]
  exact or_lt hs e1
theorem itr_lt {P A t s : Nat} {w : Nat → Wy} (h : GV P A w) (hs : s < 2 ^ P) : ∀ n, itr t w A s n < 2 ^ P := by
  intro n
  induction n with
  | zero => exact hs
  | succ n ih => exact swp_lt h (Nat.le_refl A) ih
theorem p64 {P s : Nat} (hP : P ≤ 6) (hs : s < 2 ^ P) : s < 64 := Nat.lt_of_lt_of_le hs (Nat.pow_le_pow_right (by decide) hP)
def Cl (t : Nat) (w : Nat → Wy) (A s : Nat) : Prop := ∀ k, k < A → t.testBit k = true → (s.testBit (wF (w k)) = true ∨ s.testBit (wS (w k)) = true) → s.testBit (wF (w k)) = true ∧ s.testBit (wS (w k)) = true
theorem stp_mono {t s k j : Nat} {w : Nat → Wy} (h : s.testBit j = true) : (stp t w s k).testBit j = true := by
  unfold stp
  split
  · rw [Nat.testBit_or, h]; rfl
  · exact h
theorem swp_mono {t s j : Nat} {w : Nat → Wy} (n d : Nat) (h : (swp t w s n).testBit j = true) : (swp t w s (n + d)).testBit j = true := by
  induction d with
  | zero => exact h
  | succ d ih => exact stp_mono ih
theorem fix_cl {A t s : Nat} {w : Nat → Wy} (h : swp t w s A = s) : Cl t w A s := by
  intro k hk ht hq
  have hm : ∀ n, n ≤ A → swp t w s n = s := by
    intro n hn
    apply bit_eq
    intro j
    apply Bool.eq_iff_iff.mpr
    constructor
    · intro hj
      have := swp_mono n (A - n) hj
      rw [show n + (A - n) = A by omega, h] at this
      exact this
    · intro hj
      have := swp_mono (t := t) (w := w) (s := s) 0 n hj
      rwa [Nat.zero_add] at this
  have h1 : stp t w (swp t w s k) k = s := hm (k + 1) (by omega)
  rw [hm k (by omega)] at h1
  unfold stp at h1
  rw [if_pos ⟨ht, hq⟩] at h1
  constructor
  · rw [← h1, Nat.testBit_or, (eb_bit (w k) _).mpr (Or.inl rfl), Bool.or_true]
  · rw [← h1, Nat.testBit_or, (eb_bit (w k) _).mpr (Or.inr rfl), Bool.or_true]
theorem cl_stp {A t s k : Nat} {w : Nat → Wy} (h : Cl t w A s) (hk : k < A) : stp t w s k = s := by
  unfold stp
  split
  · rename_i hq
    obtain ⟨a, b⟩ := h k hk hq.1 hq.2
    apply bit_eq
    intro j
    rw [Nat.testBit_or]
    by_cases hj : (eb (w k)).testBit j = true
    · rcases (eb_bit (w k) j).mp hj with q | q
      · rw [← q, a]; rfl
      · rw [← q, b]; rfl
    · rw [Bool.eq_false_iff.mpr hj, Bool.or_false]
  · rfl
theorem cl_swp {A t s : Nat} {w : Nat → Wy} (h : Cl t w A s) : ∀ n, n ≤ A → swp t w s n = s := by
  intro n
  induction n with
  | zero => intro _; rfl
  | succ n ih =>
    intro hn
    show stp t w (swp t w s n) n = s
    rw [ih (by omega), cl_stp h (by omega)]
theorem itr_stay {A t s n : Nat} {w : Nat → Wy} (h : Cl t w A (itr t w A s n)) : ∀ m, itr t w A s (n + m) = itr t w A s n := by
  intro m
  induction m with
  | zero => rfl
  | succ m ih =>
    show swp t w (itr t w A s (n + m)) A = _
    rw [ih, cl_swp h A (Nat.le_refl A)]
theorem swp_pop {P A t s : Nat} {w : Nat → Wy} (h : GV P A w) (hs : s < 2 ^ P) : popc s ≤ popc (swp t w s A) ∧ (popc (swp t w s A) = popc s → swp t w s A = s) := by
  obtain ⟨e, e1, e2⟩ := swp_c (t := t) (s := s) h A (Nat.le_refl A)
  rw [e2]
  exact fin_popc s (p64 h.2.1 hs) e (p64 h.2.1 e1)
theorem itr_grow {P A t s : Nat} {w : Nat → Wy} (h : GV P A w) (hs : s < 2 ^ P) : ∀ n, Cl t w A (itr t w A s n) ∨ popc s + n ≤ popc (itr t w A s n) := by
  intro n
  induction n with
  | zero => exact Or.inr (Nat.le_refl _)
  | succ n ih =>
    rcases ih with q | q
    · left
      have := itr_stay q 1
      rw [this]
      exact q
    · have hp := swp_pop (t := t) h (itr_lt (t := t) h hs n)
      by_cases e : swp t w (itr t w A s n) A = itr t w A s n
      · left
        show Cl t w A (swp t w (itr t w A s n) A)
        rw [e]
        exact fix_cl e
      · right
        have h3 : popc (swp t w (itr t w A s n) A) ≠ popc (itr t w A s n) := fun z => e (hp.2 z)
        show _ ≤ popc (swp t w (itr t w A s n) A)
        have := hp.1
        omega
theorem cl_zero {A t : Nat} {w : Nat → Wy} : Cl t w A 0 := by
  intro k hk ht hq
  rw [Nat.zero_testBit, Nat.zero_testBit] at hq
  rcases hq with q | q <;> exact absurd q (by decide)
theorem itr_fix {P A t s : Nat} {w : Nat → Wy} (h : GV P A w) (hs : s < 2 ^ P) : Cl t w A (itr t w A s (P - 1)) := by
  have hP := h.1
  by_cases h0 : s = 0
  · subst h0
    have hc : Cl t w A (itr t w A 0 0) := cl_zero
    have := itr_stay hc (P - 1)
    rw [Nat.zero_add] at this
    rw [this]
    exact hc
  · rcases itr_grow (t := t) h hs (P - 1) with q | q
    · exact q
    · have h1 := fin_pop1 s (p64 h.2.1 hs) h0
      have hl := itr_lt (t := t) h hs (P - 1)
      have hp := swp_pop (t := t) h hl
      have h2 := fin_popP P (by have := h.2.1; omega) _ (swp_lt (t := t) h (Nat.le_refl A) hl)
      exact fix_cl (hp.2 (by have := hp.1; omega))
theorem Rch_of {A t s n : Nat} {w : Nat → Wy} (h : Cl t w A (itr t w A s n)) (hn : n ≤ 6) : itr t w A s n = Rch t w A s := by
  have := itr_stay h (6 - n)
  unfold Rch
  rw [← this, show n + (6 - n) = 6 by omega]
theorem Rch_cl {P A t s : Nat} {w : Nat → Wy} (h : GV P A w) (hs : s < 2 ^ P) : Cl t w A (Rch t w A s) := by
  have := itr_fix (t := t) h hs
  rw [← Rch_of this (by have := h.2.1; omega)]
  exact this
theorem Rch_lt {P A t s : Nat} {w : Nat → Wy} (h : GV P A w) (hs : s < 2 ^ P) : Rch t w A s < 2 ^ P := itr_lt h hs 6
theorem swp_sub {A t s C : Nat} {w : Nat → Wy} (hC : Cl t w A C) (hs : ∀ j, s.testBit j = true → C.testBit j = true) : ∀ n, n ≤ A → ∀ j, (swp t w s n).testBit j = true → C.testBit j = true := by
  intro n
  induction n with
  | zero => intro _; exact hs
  | succ n ih =>
    intro hn j hj
    have ihn := ih (by omega)
    have hj' : (stp t w (swp t w s n) n).testBit j = true := hj
    unfold stp at hj'
    split at hj'
    · rename_i hq
      have hc := hC n (by omega) hq.1 (by rcases hq.2 with q | q; exact Or.inl (ihn _ q); exact Or.inr (ihn _ q))
      rw [Nat.testBit_or, Bool.or_eq_true] at hj'
      rcases hj' with q | q
      · exact ihn j q
      · rcases (eb_bit (w n) j).mp q with r | r
        · rw [← r]; exact hc.1
        · rw [← r]; exact hc.2
    · exact ihn j hj'
theorem itr_sub {A t s C : Nat} {w : Nat → Wy} (hC : Cl t w A C) (hs : ∀ j, s.testBit j = true → C.testBit j = true) : ∀ n j, (itr t w A s n).testBit j = true → C.testBit j = true := by
  intro n
  induction n with
  | zero => exact hs
  | succ n ih => exact swp_sub hC ih A (Nat.le_refl A)
theorem Rch_min {A t s C : Nat} {w : Nat → Wy} (hC : Cl t w A C) (hs : ∀ j, s.testBit j = true → C.testBit j = true) : ∀ j, (Rch t w A s).testBit j = true → C.testBit j = true := itr_sub hC hs 6
theorem Rch_start {A t s j : Nat} {w : Nat → Wy} (h : s.testBit j = true) : (Rch t w A s).testBit j = true := by
  have : ∀ n, (itr t w A s n).testBit j = true := by
    intro n
    induction n with
    | zero => exact h
    | succ n ih =>
      have := swp_mono (t := t) (w := w) (s := itr t w A s n) 0 A ih
      rwa [Nat.zero_add] at this
  exact this 6
