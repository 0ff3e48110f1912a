/-! the system of a net -/
theorem swp_subP {A t s : Nat} {w : Nat → Wy} {K : Nat → Prop} (hC : ∀ k, k < A → t.testBit k = true → (K (wF (w k)) ∨ K (wS (w k))) → K (wF (w k)) ∧ K (wS (w k))) (hs : ∀ j, s.testBit j = true → K j) : ∀ n, n ≤ A → ∀ j, (swp t w s n).testBit j = true → K j := by
  intro n
  induction n with
  | zero => intro _; exact hs
  | succ n ih =>
    intro hn j hj
    have ihn := ih (by omega)
    have hj' : (stp t w (swp t w s n) n).testBit j = true := hj
    unfold stp at hj'
    split at hj'
    · rename_i hq
      have hc := hC n (by omega) hq.1 (by rcases hq.2 with q | q; exact Or.inl (ihn _ q); exact Or.inr (ihn _ q))
      rw [Nat.testBit_or, Bool.or_eq_true] at hj'
      rcases hj' with q | q
      · exact ihn j q
      · rcases (eb_bit (w n) j).mp q with r | r
        · rw [← r]; exact hc.1
        · rw [← r]; exact hc.2
    · exact ihn j hj'
theorem Rch_minP {A t s : Nat} {w : Nat → Wy} {K : Nat → Prop} (hC : ∀ k, k < A → t.testBit k = true → (K (wF (w k)) ∨ K (wS (w k))) → K (wF (w k)) ∧ K (wS (w k))) (hs : ∀ j, s.testBit j = true → K j) : ∀ j, (Rch t w A s).testBit j = true → K j := by
  have : ∀ n j, (itr t w A s n).testBit j = true → K j := by
    intro n
    induction n with
    | zero => exact hs
    | succ n ih => exact swp_subP hC ih A (Nat.le_refl A)
  exact this 6
def ct (O : Nat) : Nat → Nat
  | 0 => 0
  | m + 1 => ct O m + (if O.testBit m = true then 1 else 0)
def elr (O i : Nat) : Nat → Nat
  | 0 => 0
  | m + 1 => if O.testBit m = true ∧ ct O m = i then m else elr O i m
def el (O i : Nat) : Nat := elr O i 6
theorem fin_el : ∀ O, O < 64 → ∀ m, m < 6 → O.testBit m = true → el O (ct O m) = m ∧ ct O m < ct O 6 := by decide +kernel
theorem fin_eli : ∀ O, O < 64 → ∀ i, i < ct O 6 → el O i < 6 ∧ O.testBit (el O i) = true ∧ ct O (el O i) = i := by decide +kernel
theorem fin_ctb : ∀ O, O < 64 → ∀ m, m < 7 → ct O m ≤ m := by decide +kernel
theorem el_inj {O i j : Nat} (hO : O < 64) (hi : i < ct O 6) (hj : j < ct O 6) (h : el O i = el O j) : i = j := by
  have a := (fin_eli O hO i hi).2.2
  have b := (fin_eli O hO j hj).2.2
  rw [← a, ← b, h]
theorem re_sum {O : Nat} (hO : O < 64) (f : Nat → Int) : ∀ m, m ≤ 6 → sm (ct O m) (fun i => f (el O i)) = sm m (fun x => if O.testBit x = true then f x else 0) := by
  intro m
  induction m with
  | zero => intro _; rfl
  | succ m ih =>
    intro hm
    rw [sm_s, ← ih (by omega)]
    show sm (ct O m + (if O.testBit m = true then 1 else 0)) (fun i => f (el O i)) = _
    by_cases h : O.testBit m = true
    · rw [if_pos h, if_pos h, sm_s, (fin_el O hO m (by omega) h).1]
    · rw [if_neg h, if_neg h, Nat.add_zero, Int.add_zero]
/-- what way k brings between x and y -/
def lw (t : Nat) (w : Nat → Wy) (k x y : Nat) : Int := if t.testBit k = true then (if x = y then (if wF (w k) = x ∨ wS (w k) = x then (wtw (w k) : Int) else 0) else (if (wF (w k) = x ∧ wS (w k) = y) ∨ (wF (w k) = y ∧ wS (w k) = x) then -(wtw (w k) : Int) else 0)) else 0
def lp (t : Nat) (w : Nat → Wy) (A x y : Nat) : Int := sm A (fun k => lw t w k x y)
def MO (t : Nat) (w : Nat → Wy) (A O : Nat) : Nat → Nat → Int := fun i j => lp t w A (el O i) (el O j)
theorem lw_sym (t : Nat) (w : Nat → Wy) (k x y : Nat) : lw t w k x y = lw t w k y x := by
  unfold lw
  grind
theorem lp_sym (t : Nat) (w : Nat → Wy) (A x y : Nat) : lp t w A x y = lp t w A y x := sm_cg fun k _ => lw_sym t w k x y
theorem lp_diag (t : Nat) (w : Nat → Wy) (x : Nat) : ∀ A, lp t w A x x = (dg t w x A : Int) := by
  intro A
  induction A with
  | zero => rfl
  | succ A ih =>
    show lp t w A x x + lw t w A x x = ((dg t w x A + (if t.testBit A = true ∧ (wF (w A) = x ∨ wS (w A) = x) then wtw (w A) else 0) : Nat) : Int)
    rw [ih]
    unfold lw
    rw [if_pos rfl]
    by_cases h1 : t.testBit A = true
    · rw [if_pos h1]
      by_cases h2 : wF (w A) = x ∨ wS (w A) = x
      · rw [if_pos h2, if_pos ⟨h1, h2⟩]; omega
      · rw [if_neg h2, if_neg (fun z => h2 z.2)]; omega
    · rw [if_neg h1, if_neg (fun z => h1 z.1)]; omega
/-- what way k brings to x from outside of O -/
def sw_ (t : Nat) (w : Nat → Wy) (O k x : Nat) : Int := if t.testBit k = true then (if (wF (w k) = x ∧ O.testBit (wS (w k)) = false) ∨ (wS (w k) = x ∧ O.testBit (wF (w k)) = false) then (wtw (w k) : Int) else 0) else 0
theorem sm_pt {n a : Nat} (ha : a < n) (v : Int) : sm n (fun y => if y = a then v else 0) = v := by
  refine Eq.trans (sm_cg fun y _ => ?_) (sm_un ha (fun _ => v))
  unfold un
  by_cases e : y = a
  · rw [if_pos e, if_pos e, Int.mul_one]
  · rw [if_neg e, if_neg e, Int.mul_zero]
theorem lw_row {P : Nat} {t : Nat} {w : Nat → Wy} {O k x : Nat} (hP : P ≤ 6) (hw : Wok P (w k)) (hx : O.testBit x = true) (hx6 : x < 6) : sm 6 (fun y => if O.testBit y = true then lw t w k x y else 0) = sw_ t w O k x := by
  have hF : wF (w k) < 6 := by have := hw.1; omega
  have hS : wS (w k) < 6 := by have := hw.2.1; omega
  have hne := hw.2.2.1
  unfold sw_
  by_cases ht : t.testBit k = true
  · rw [if_pos ht]
    by_cases h1 : wF (w k) = x
    · have e : ∀ y, y < 6 → (if O.testBit y = true then lw t w k x y else 0) = (if y = x then (wtw (w k) : Int) else 0) - (if y = wS (w k) then (if O.testBit (wS (w k)) = true then (wtw (w k) : Int) else 0) else 0) := by
        intro y hy
        unfold lw
        grind
      rw [sm_cg e, sm_sub, sm_pt hx6, sm_pt hS]
      by_cases h3 : O.testBit (wS (w k)) = true
      · rw [if_pos h3, if_neg (fun z => by rcases z with z | z; exact absurd z.2 (by rw [h3]; decide); exact hne (h1.trans z.1.symm))]
        omega
      · rw [if_neg h3, if_pos (Or.inl ⟨h1, Bool.eq_false_iff.mpr h3⟩)]
        omega
    · by_cases h2 : wS (w k) = x
      · have e : ∀ y, y < 6 → (if O.testBit y = true then lw t w k x y else 0) = (if y = x then (wtw (w k) : Int) else 0) - (if y = wF (w k) then (if O.testBit (wF (w k)) = true then (wtw (w k) : Int) else 0) else 0) := by
          intro y hy
          unfold lw
          grind
        rw [sm_cg e, sm_sub, sm_pt hx6, sm_pt hF]
        by_cases h3 : O.testBit (wF (w k)) = true
        · rw [if_pos h3, if_neg (fun z => by rcases z with z | z; exact h1 z.1; exact absurd z.2 (by rw [h3]; decide))]
          omega
        · rw [if_neg h3, if_pos (Or.inr ⟨h2, Bool.eq_false_iff.mpr h3⟩)]
          omega
      · rw [if_neg (fun z => by rcases z with z | z; exact h1 z.1; exact h2 z.1)]
        apply sm_z
        intro y hy
        unfold lw
        grind
  · rw [if_neg ht]
    apply sm_z
    intro y hy
    unfold lw
    rw [if_neg ht, ite_self]
theorem sw_nn (t : Nat) (w : Nat → Wy) (O k x : Nat) : 0 ≤ sw_ t w O k x := by
  unfold sw_
  split
  · split <;> omega
  · omega
theorem MO_rs {P A t O i : Nat} {w : Nat → Wy} (hV : GV P A w) (hO : O < 64) (hi : i < ct O 6) : rs (ct O 6) (MO t w A O) i = sm A (fun k => sw_ t w O k (el O i)) := by
  obtain ⟨e1, e2, -⟩ := fin_eli O hO i hi
  unfold rs MO
  rw [re_sum hO (fun y => lp t w A (el O i) y) 6 (Nat.le_refl 6)]
  have h : ∀ y, y < 6 → (if O.testBit y = true then lp t w A (el O i) y else 0) = sm A (fun k => if O.testBit y = true then lw t w k (el O i) y else 0) := by
    intro y _
    by_cases hb : O.testBit y = true
    · rw [if_pos hb]
      exact sm_cg fun k _ => by rw [if_pos hb]
    · rw [if_neg hb]
      exact (sm_z fun k _ => by rw [if_neg hb]).symm
  rw [sm_cg h, sm_swap]
  exact sm_cg fun k hk => lw_row hV.2.1 (hV.2.2.2 k hk) e2 e1
/-- the points that reach the ends, without the ends -/
def op (t : Nat) (w : Nat → Wy) (A E : Nat) : Nat := andn (Rch t w A E) E
theorem op_lt {P A t E : Nat} {w : Nat → Wy} (hV : GV P A w) (hE : E < 2 ^ P) : op t w A E < 64 := p64 hV.2.1 (Nat.lt_of_le_of_lt (andn_le _ _) (Rch_lt hV hE))
theorem lw_off {t : Nat} {w : Nat → Wy} {k x y : Nat} (h : x ≠ y) : lw t w k x y ≤ 0 := by
  unfold lw
  grind
theorem GL_MO {P A t E : Nat} {w : Nat → Wy} (hV : GV P A w) (hE : E < 2 ^ P) : GL (ct (op t w A E) 6) (MO t w A (op t w A E)) := by
  obtain ⟨O, hO⟩ : ∃ O, O = op t w A E := ⟨_, rfl⟩
  have hO6 : O < 64 := by rw [hO]; exact op_lt hV hE
  rw [← hO]
  refine ⟨fun i j _ _ => lp_sym t w A _ _, fun i j hi hj hij => ?_, fun i hi => ?_, fun S ⟨r, hr, hs⟩ => ?_⟩
  · have hne : el O i ≠ el O j := fun z => hij (el_inj hO6 hi hj z)
    have := sm_le (n := A) (f := fun k => lw t w k (el O i) (el O j)) (g := fun _ => 0) (fun k _ => lw_off hne)
    rw [sm_z (f := fun _ => 0) (fun _ _ => rfl)] at this
    exact this
  · rw [MO_rs hV hO6 hi]
    exact sm_ge0 fun k _ => sw_nn t w O k _
  · apply Classical.byContradiction
    intro hno
    have hz : ∀ r, r < ct O 6 → S r → rs (ct O 6) (MO t w A O) r = 0 ∧ ∀ c, c < ct O 6 → ¬ S c → MO t w A O r c = 0 := fun r r1 r2 => ⟨Classical.byContradiction fun z => hno ⟨r, r1, r2, Or.inl z⟩, fun c c1 c2 => Classical.byContradiction fun z => hno ⟨r, r1, r2, Or.inr ⟨c, c1, c2, z⟩⟩⟩
    have hcl : ∀ k, k < A → t.testBit k = true → ∀ x y, ((wF (w k) = x ∧ wS (w k) = y) ∨ (wS (w k) = x ∧ wF (w k) = y)) → (∃ i, i < ct O 6 ∧ el O i = x ∧ S i) → ∃ i, i < ct O 6 ∧ el O i = y ∧ S i := by
      intro k hk ht x y hxy ⟨i, i1, i2, i3⟩
      have hOk := hV.2.2.2 k hk
      have hwb := wtw_b hOk
      have hy6 : y < 6 := by have := hV.2.1; have := hOk.1; have := hOk.2.1; rcases hxy with z | z <;> omega
      have hxne : x ≠ y := by have := hOk.2.2.1; rcases hxy with z | z <;> omega
      obtain ⟨z1, z2⟩ := hz i i1 i3
      by_cases hyO : O.testBit y = true
      · obtain ⟨f1, f2⟩ := fin_el O hO6 y hy6 hyO
        refine ⟨ct O y, f2, f1, Classical.byContradiction fun hns => ?_⟩
        have h0 := z2 (ct O y) f2 hns
        unfold MO lp at h0
        rw [f1, i2] at h0
        have h1 := sm_0of (n := A) (f := fun k => - lw t w k x y) (fun k _ => by have := lw_off (t := t) (w := w) (k := k) hxne; omega) (by rw [sm_neg, h0]; rfl) hk
        simp only [lw, if_pos ht, if_neg hxne] at h1
        rw [if_pos (by rcases hxy with z | z; exact Or.inl z; exact Or.inr ⟨z.2, z.1⟩)] at h1
        omega
      · exfalso
        rw [MO_rs hV hO6 i1, i2] at z1
        have h1 := sm_0of (n := A) (f := fun k => sw_ t w O k x) (fun k _ => sw_nn t w O k x) z1 hk
        simp only [sw_, if_pos ht] at h1
        rw [if_pos (by rcases hxy with z | z; exact Or.inl ⟨z.1, by rw [z.2]; exact Bool.eq_false_iff.mpr hyO⟩; exact Or.inr ⟨z.1, by rw [z.2]; exact Bool.eq_false_iff.mpr hyO⟩)] at h1
        omega
    have hmin := Rch_minP (A := A) (t := t) (s := E) (w := w) (K := fun x => ¬ ∃ i, i < ct O 6 ∧ el O i = x ∧ S i) (fun k hk ht hq => by
      constructor
      · intro hx
        have hy := hcl k hk ht _ _ (Or.inl ⟨rfl, rfl⟩) hx
        rcases hq with q | q
        · exact q hx
        · exact q hy
      · intro hx
        have hy := hcl k hk ht _ _ (Or.inr ⟨rfl, rfl⟩) hx
        rcases hq with q | q
        · exact q hy
        · exact q hx) (fun j hj ⟨i, i1, i2, i3⟩ => by
        have := (fin_eli O hO6 i i1).2.1
        rw [i2, hO] at this
        unfold op at this
        rw [andn_bit, hj] at this
        simp at this)
    obtain ⟨e1, e2, -⟩ := fin_eli O hO6 r hr
    have e3 : (Rch t w A E).testBit (el O r) = true := by
      have := e2
      rw [hO] at this ⊢
      unfold op at this
      rw [andn_bit] at this
      simp only [Bool.and_eq_true] at this
      exact this.1
    exact hmin (el O r) e3 ⟨r, hr, rfl, hs⟩
