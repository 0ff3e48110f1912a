/-! the elimination -/
def WS (t : Nat) (w : Nat → Wy) (O : Nat) (D : Nat → Int64) (m : Nat) (E : SX0) : Prop := eq_size E = nI (ct O 6) ∧ (∀ z, z < 6 → eq_rowOf E z = if O.testBit z = true then nI (ct O z) else -1) ∧ ∀ i, i < ct O 6 → (∀ j, j < ct O 6 → eq_rows E i j = zI (lp t w m (el O i) (el O j))) ∧ eq_rows E i 6 = D (el O i)
theorem ways_loop {N : SX3} {P A : Nat} {w : Nat → Wy} (hV : GV P A w) (hN : NE N P A w) {t O : Nat} (ht : t < 2 ^ 31) (hO : O < 64) {D : Nat → Int64} (pb : Int32) : ∀ (d fu m : Nat) (E : SX0), m + d = A → d < fu → WS t w O D m E → ∃ E' : SX0, qX0_solve_17 N (nI t) pb fu E (nI m) = qX0_solve_83 N (nI t) pb FU (eq_below_s E' 1) 0 ∧ WS t w O D A E' := by
  have hA := hV.2.2.1
  have hP := hV.2.1
  intro d
  induction d with
  | zero =>
    intro fu m E h1 h2 h3
    match fu, h2 with
    | fu + 1, _ =>
      have hm : m = A := by omega
      subst hm
      refine ⟨E, ?_, h3⟩
      rw [qX0_solve_17, hN.2.1, if_pos (nI_le (Nat.le_refl m) (by omega)), ltt_e]
  | succ d ih =>
    intro fu m E h1 h2 h3
    match fu, h2 with
    | fu + 1, h2 =>
      have hm : m < 11 := by omega
      have hOk := hV.2.2.2 m (by omega)
      have hw := hN.2.2 m (by omega)
      have hF : wF (w m) < 6 := by have := hOk.1; omega
      have hS : wS (w m) < 6 := by have := hOk.2.1; omega
      have hb := wtw_b hOk
      by_cases hq : t.testBit m = true
      · obtain ⟨E1, q1, q2, q3, q4, q5, q6⟩ := add8 (E := E) (n := ct O 6) (F := wF (w m)) (S := wS (w m)) (W := wtw (w m)) (t := t) (w := w) (m := m) hO rfl hF hS hOk.2.2.1 (by omega) hq rfl rfl rfl
        have hL : WS t w O D (m + 1) E1 := by
          refine ⟨q3.trans h3.1, fun z hz => by rw [q4]; exact h3.2.1 z hz, fun i hi => ⟨fun j hj => ?_, by rw [q5]; exact (h3.2.2 i hi).2⟩⟩
          rw [q6 i j hi hj, (h3.2.2 i hi).1 j hj, zI_add]
          rfl
        obtain ⟨E', r1, r2⟩ := ih fu (m + 1) E1 (by omega) (by omega) hL
        refine ⟨E', ?_, r2⟩
        rw [qX0_solve_17]
        unfold qX0_solve_69
        rw [hN.2.1, if_neg (nI_ge (by omega) (by omega)), has8 ht (by omega), if_pos hq, bind_s, if_neg (show ¬ (1 : Int32) = 0 by decide), ga_ok hm (by decide), hw.1, ga_ok hF (by decide), ga_ok hm (by decide), hw.2.1, ga_ok hS (by decide), weight8 hm hw hOk, bind_s, h3.2.1 _ hF, h3.2.1 _ hS, q1, bind_s, ltt_e, nI_1, r1]
      · have hL : WS t w O D (m + 1) E := by
          refine ⟨h3.1, h3.2.1, fun i hi => ⟨fun j hj => ?_, (h3.2.2 i hi).2⟩⟩
          rw [(h3.2.2 i hi).1 j hj]
          congr 1
          show _ = lp t w m (el O i) (el O j) + lw t w m (el O i) (el O j)
          unfold lw
          rw [if_neg hq]
          omega
        obtain ⟨E', r1, r2⟩ := ih fu (m + 1) E (by omega) (by omega) hL
        refine ⟨E', ?_, r2⟩
        rw [qX0_solve_17]
        unfold qX0_solve_69
        rw [hN.2.1, if_neg (nI_ge (by omega) (by omega)), has8 ht (by omega), if_neg hq, bind_s, if_pos rfl, ltt_e, nI_1, r1]
theorem clear_in {k r n : Nat} {pb p f : Int64} {old new kk : Nat → Int64} {oldG newG kkG : Int64} (hk : k < n) (hr : r < n) (hn : n ≤ 5) (hrk : r ≠ k) (hov : ∀ c, k < c → c < n → fX8_over (p * old c - f * kk c) pb = some (new c)) (hog : fX8_over (p * oldG - f * kkG) pb = some newG) (k142 : SX0 → Int64 → Int32 → Option SX0) : ∀ (d fu c : Nat) (E : SX0), c + d = n → d < fu → k < c → eq_size E = nI n → (∀ c', c ≤ c' → c' < n → eq_rows E r c' = old c') → (∀ c', k < c' → c' < c → eq_rows E r c' = new c') → eq_rows E r 6 = oldG → (∀ c', k < c' → c' < n → eq_rows E k c' = kk c') → eq_rows E k 6 = kkG → ∃ R : Nat → Nat → Int64, qX0_clearColumn_47 (nI k) pb k142 fu E p (nI r) f (nI c) = k142 (eq_rows_s E R) p (nI r) ∧ (∀ c', k < c' → c' < n → R r c' = new c') ∧ R r 6 = newG ∧ ∀ i c', i ≠ r → R i c' = eq_rows E i c' := by
  intro d
  induction d with
  | zero =>
    intro fu c E h1 h2 h3 h4 h5 h6 h7 h8 h9
    match fu, h2 with
    | fu + 1, _ =>
      have hc : c = n := by omega
      subst hc
      refine ⟨u2 (eq_rows E) r 6 newG, ?_, fun c' a b => ?_, ?_, fun i c' hi => ?_⟩
      · unfold qX0_clearColumn_47
        rw [h4, if_pos (nI_le (Nat.le_refl c) (by omega)), show (6 : Int32) = nI 6 from rfl, ga_ok (show r < 6 by omega) (by decide), ga_ok (show r < 6 by omega) (by decide), ga_ok (by decide) (by decide), ga_ok (show k < 6 by omega) (by decide), ga_ok (by decide) (by decide), h7, h9, hog, bind_s, ga_ok (by decide) (by decide), ltt_e]
        rfl
      · rw [u2_e, if_neg (by omega)]
        exact h6 c' a b
      · rw [u2_e, if_pos ⟨rfl, rfl⟩]
      · rw [u2_e, if_neg (fun z => hi z.1)]
  | succ d ih =>
    intro fu c E h1 h2 h3 h4 h5 h6 h7 h8 h9
    match fu, h2 with
    | fu + 1, h2 =>
      obtain ⟨R, q1, q2, q3, q4⟩ := ih fu (c + 1) (eq_rows_s E (u2 (eq_rows E) r c (new c))) (by omega) (by omega) (by omega) h4 (fun c' a b => by
          show u2 (eq_rows E) r c (new c) r c' = _
          rw [u2_e, if_neg (by omega)]
          exact h5 c' (by omega) b) (fun c' a b => by
          show u2 (eq_rows E) r c (new c) r c' = _
          rw [u2_e]
          by_cases e : c' = c
          · rw [if_pos ⟨rfl, e⟩, e]
          · rw [if_neg (fun z => e z.2)]
            exact h6 c' a (by omega)) (by
          show u2 (eq_rows E) r c (new c) r 6 = _
          rw [u2_e, if_neg (by omega)]
          exact h7) (fun c' a b => by
          show u2 (eq_rows E) r c (new c) k c' = _
          rw [u2_e, if_neg (by omega)]
          exact h8 c' a b) (by
          show u2 (eq_rows E) r c (new c) k 6 = _
          rw [u2_e, if_neg (by omega)]
          exact h9)
      refine ⟨R, ?_, q2, q3, fun i c' hi => ?_⟩
      · unfold qX0_clearColumn_47
        rw [h4, if_neg (nI_ge (by omega) (by omega)), ga_ok (show r < 6 by omega) (by decide), ga_ok (show r < 6 by omega) (by decide), ga_ok (show c < 7 by omega) (by decide), ga_ok (show k < 6 by omega) (by decide), ga_ok (show c < 7 by omega) (by decide), h5 c (by omega) (by omega), h8 c h3 (by omega), hov c h3 (by omega), bind_s, ga_ok (show c < 7 by omega) (by decide), ltt_e, ltt_e, nI_1]
        exact q1
      · rw [q4 i c' hi]
        show u2 (eq_rows E) r c (new c) i c' = _
        rw [u2_e, if_neg (fun z => hi z.1)]
/-- rows at stage k -/
def SR (M : Nat → Nat → Int) (n : Nat) (g : Nat → Int) (k i : Nat) (R : Nat → Nat → Int64) : Prop := (∀ c, k ≤ c → c < n → R i c = zI (En M k i (fun l => M l c))) ∧ R i 6 = zI (En M k i g)
theorem clear_loop {n q G : Nat} {M : Nat → Nat → Int} {g : Nat → Int} (h : GL n M) (hn : n ≤ 5) (hq : sm n (fun i => M i i) ≤ (q : Int)) (hg : ∀ i, i < n → 0 ≤ g i) (hG : sm n g ≤ (G : Int)) (hC : NC q G) {k : Nat} (hk : k < n) : ∀ (d fu r : Nat) (E : SX0), r + d = n → d < fu → eq_size E = nI n → SR M n g k k (eq_rows E) → (∀ i, r ≤ i → i < n → i ≠ k → SR M n g k i (eq_rows E)) → (∀ i, i < r → i ≠ k → (∀ c, k < c → c < n → eq_rows E i c = zI (En M (k + 1) i (fun l => M l c))) ∧ eq_rows E i 6 = zI (En M (k + 1) i g)) → ∃ R : Nat → Nat → Int64, qX0_clearColumn_13 (nI k) (zI (dt k M)) fu E (zI (dt (k + 1) M)) (nI r) = some (eq_rows_s E R) ∧ SR M n g k k R ∧ ∀ i, i < n → i ≠ k → (∀ c, k < c → c < n → R i c = zI (En M (k + 1) i (fun l => M l c))) ∧ R i 6 = zI (En M (k + 1) i g) := by
  intro d
  induction d with
  | zero =>
    intro fu r E h1 h2 h3 h4 h5 h6
    match fu, h2 with
    | fu + 1, _ =>
      have hr : r = n := by omega
      subst hr
      refine ⟨eq_rows E, ?_, h4, h6⟩
      unfold qX0_clearColumn_13
      rw [h3, if_pos (nI_le (Nat.le_refl r) (by omega))]
  | succ d ih =>
    intro fu r E h1 h2 h3 h4 h5 h6
    match fu, h2 with
    | fu + 1, h2 =>
      have hr : r < n := by omega
      by_cases e : r = k
      · obtain ⟨R, q1, q2, q3⟩ := ih fu (r + 1) E (by omega) (by omega) h3 h4 (fun i a b c => h5 i (by omega) b c) (fun i a b => h6 i (by omega) b)
        refine ⟨R, ?_, q2, q3⟩
        unfold qX0_clearColumn_13 qX0_clearColumn_142
        rw [h3, if_neg (nI_ge (by omega) (by omega)), if_pos (by rw [e]), ltt_e, nI_1, q1]
      · have hd := (Iv_all h k (by omega)).1
        have hdk : dt k M < 2 ^ 63 := by
          have b := d_bnd h hq hC.1 (show k ≤ n by omega)
          have c5 := hC.2.2.2.2.2.2
          have q1 : (1 : Int) ≤ q := by have := hC.1; omega
          have hqq : (1 : Int) ≤ (q : Int) * q * q := by
            have u := mm q1 q1 (by omega) (by omega)
            have u' := mm u q1 (by omega) (by omega)
            omega
          have hq3 : (q : Int) * q * q ≤ (q : Int) * q * q * (q * q * q) * q := by
            have u := mm (Int.le_refl ((q : Int) * q * q)) hqq (by omega) (by omega)
            have u' := mm u q1 (by omega) (by omega)
            omega
          by_cases hk3 : k ≤ 3
          · have := b.1 hk3; omega
          · have := b.2 (by omega)
            have u := mm (Int.le_refl ((q : Int) * q * q)) q1 (by omega) (by omega)
            have u2 : (q : Int) * q * q * q ≤ (q : Int) * q * q * (q * q * q) * q := by
              have v := mm (Int.le_refl ((q : Int) * q * q)) hqq (by omega) (by omega)
              exact mm (by omega) (Int.le_refl _) (by omega) (by omega)
            omega
        have hro := h5 r (Nat.le_refl r) hr e
        have hsm : ∀ v : Int, -(2 ^ 63) < dt k M * v → dt k M * v < 2 ^ 63 → -(2 ^ 63) ≤ v ∧ v < 2 ^ 63 := by
          intro v v1 v2
          by_cases h0 : 0 ≤ v
          · have := mm (show (1 : Int) ≤ dt k M by omega) (Int.le_refl v) h0 (by omega)
            omega
          · have := mm (show (1 : Int) ≤ dt k M by omega) (Int.le_refl (-v)) (by omega) (by omega)
            have e1 : dt k M * -v = -(dt k M * v) := Int.mul_neg _ _
            omega
        have hov : ∀ c, k < c → c < n → fX8_over (zI (dt (k + 1) M) * zI (En M k r (fun l => M l c)) - zI (En M k r (fun l => M l k)) * zI (En M k k (fun l => M l c))) (zI (dt k M)) = some (zI (En M (k + 1) r (fun l => M l c))) := by
          intro c a b
          have hb := num_c h hn hq hC hk hr a b
          have hs := hsm _ hb.1 hb.2
          rw [zI_mul, zI_mul, zI_sub, ← En_st h hk e]
          exact over8 hd hdk hb.1 hb.2 hs.1 hs.2
        have hog : fX8_over (zI (dt (k + 1) M) * zI (En M k r g) - zI (En M k r (fun l => M l k)) * zI (En M k k g)) (zI (dt k M)) = some (zI (En M (k + 1) r g)) := by
          have hb := num_g h hn hq hg hG hC hk hr
          have h0 := Int.mul_nonneg (Int.le_of_lt hd) hb.1
          have hs := hsm _ (by omega) hb.2
          rw [zI_mul, zI_mul, zI_sub, ← En_st h hk e]
          exact over8 hd hdk (by omega) hb.2 hs.1 hs.2
        obtain ⟨R1, q1, q2, q3, q4⟩ := clear_in (k := k) (r := r) (n := n) (old := fun c => zI (En M k r (fun l => M l c))) (new := fun c => zI (En M (k + 1) r (fun l => M l c))) (kk := fun c => zI (En M k k (fun l => M l c))) hk hr hn e hov hog (qX0_clearColumn_142 (nI k) (zI (dt k M)) (qX0_clearColumn_13 (nI k) (zI (dt k M)) fu)) (n - (k + 1)) FU (k + 1) E (by omega) (by unfold FU; omega) (by omega) h3 (fun c' a b => hro.1 c' (by omega) b) (fun c' a b => by omega) hro.2 (fun c' a b => h4.1 c' (by omega) b) h4.2
        obtain ⟨R, r1, r2, r3⟩ := ih fu (r + 1) (eq_rows_s E R1) (by omega) (by omega) h3 (by
            refine ⟨fun c a b => ?_, ?_⟩
            · show R1 k c = _
              rw [q4 k c (fun z => e z.symm)]
              exact h4.1 c a b
            · show R1 k 6 = _
              rw [q4 k 6 (fun z => e z.symm)]
              exact h4.2) (fun i a b c => by
            refine ⟨fun c' a' b' => ?_, ?_⟩
            · show R1 i c' = _
              rw [q4 i c' (by omega)]
              exact (h5 i (by omega) b c).1 c' a' b'
            · show R1 i 6 = _
              rw [q4 i 6 (by omega)]
              exact (h5 i (by omega) b c).2) (fun i a b => by
            by_cases e2 : i = r
            · rw [e2]
              exact ⟨fun c' a' b' => q2 c' a' b', q3⟩
            · refine ⟨fun c' a' b' => ?_, ?_⟩
              · show R1 i c' = _
                rw [q4 i c' e2]
                exact (h6 i (by omega) b).1 c' a' b'
              · show R1 i 6 = _
                rw [q4 i 6 e2]
                exact (h6 i (by omega) b).2)
        refine ⟨R, ?_, r2, r3⟩
        unfold qX0_clearColumn_13
        rw [h3, if_neg (nI_ge (by omega) (by omega)), if_neg (fun z => e ((nI_eq (by omega) (by omega)).mp z)), ga_ok (show r < 6 by omega) (by decide), ga_ok (show k < 7 by omega) (by decide), ltt_e, ltt_e, hro.1 k (Nat.le_refl k) hk, nI_1, q1]
        unfold qX0_clearColumn_142
        rw [ltt_e, nI_1, r1]
theorem stage_loop {n q G : Nat} {M : Nat → Nat → Int} {g : Nat → Int} (h : GL n M) (hn : n ≤ 5) (hq : sm n (fun i => M i i) ≤ (q : Int)) (hg : ∀ i, i < n → 0 ≤ g i) (hG : sm n g ≤ (G : Int)) (hC : NC q G) (N : SX3) (pa pb : Int32) : ∀ (d fu k : Nat) (E : SX0), k + d = n → d < fu → eq_size E = nI n → eq_below E = zI (dt k M) → (∀ i, i < n → SR M n g k i (eq_rows E)) → ∃ R : Nat → Nat → Int64, qX0_solve_83 N pa pb fu E (nI k) = qX0_solve_125 N pa pb FU (eq_below_s (eq_rows_s E R) (zI (dt n M))) 0 ∧ ∀ i, i < n → R i 6 = zI (Xk M n i g) := by
  intro d
  induction d with
  | zero =>
    intro fu k E h1 h2 h3 h4 h5
    match fu, h2 with
    | fu + 1, _ =>
      have hk : k = n := by omega
      subst hk
      refine ⟨eq_rows E, ?_, fun i hi => by rw [(h5 i hi).2, En_n hi]⟩
      rw [qX0_solve_83, h3, if_pos (nI_le (Nat.le_refl k) (by omega)), ← h4]
  | succ d ih =>
    intro fu k E h1 h2 h3 h4 h5
    match fu, h2 with
    | fu + 1, h2 =>
      have hk : k < n := by omega
      obtain ⟨R1, q1, q2, q3⟩ := clear_loop h hn hq hg hG hC hk n FU 0 E (by omega) (by unfold FU; omega) h3 (h5 k hk) (fun i _ b _ => h5 i b) (fun i a => by omega)
      have hkk : eq_rows E k k = zI (dt (k + 1) M) := by rw [(h5 k hk).1 k (Nat.le_refl k) hk, En_kk]
      have hkk1 : R1 k k = zI (dt (k + 1) M) := by rw [q2.1 k (Nat.le_refl k) hk, En_kk]
      have hcl : fX0_clearColumn E (nI k) (eq_below E) = some (eq_rows_s E R1) := by
        unfold fX0_clearColumn
        rw [ga_ok (show k < 6 by omega) (by decide), ga_ok (show k < 7 by omega) (by decide), ltt_e, hkk, h4, show (0 : Int32) = nI 0 from rfl, q1]
      obtain ⟨R, r1, r2⟩ := ih fu (k + 1) (eq_below_s (eq_rows_s E R1) (zI (dt (k + 1) M))) (by omega) (by omega) h3 rfl (fun i hi => by
        show SR M n g (k + 1) i R1
        by_cases e : i = k
        · rw [e]
          exact ⟨fun c a b => by rw [q2.1 c (by omega) b, En_sk h hk], by rw [q2.2, En_sk h hk]⟩
        · exact ⟨fun c a b => (q3 i hi e).1 c (by omega) b, (q3 i hi e).2⟩)
      refine ⟨R, ?_, r2⟩
      rw [qX0_solve_83, h3, if_neg (nI_ge (by omega) (by omega)), hcl, bind_s, ga_ok (show k < 6 by omega) (by decide), ga_ok (show k < 7 by omega) (by decide), ltt_e, ltt_e, ltt_e, nI_1]
      rw [show eq_rows (eq_rows_s E R1) k k = zI (dt (k + 1) M) from hkk1]
      exact r1
theorem above_loop {O n : Nat} (hO : O < 64) (hn : n = ct O 6) {v : Nat → Int64} (N : SX3) (pa pb : Int32) : ∀ (d fu x : Nat) (E : SX0), x + d = 6 → d < fu → (∀ z, z < 6 → eq_rowOf E z = if O.testBit z = true then nI (ct O z) else -1) → (∀ i, i < n → eq_rows E i 6 = v i) → (∀ z, z < x → eq_above E z = if O.testBit z = true then v (ct O z) else 0) → ∃ a : Nat → Int64, qX0_solve_125 N pa pb fu E (nI x) = some (eq_above_s E a) ∧ ∀ z, z < 6 → a z = if O.testBit z = true then v (ct O z) else 0 := by
  intro d
  induction d with
  | zero =>
    intro fu x E h1 h2 h3 h4 h5
    match fu, h2 with
    | fu + 1, _ =>
      have hx : x = 6 := by omega
      subst hx
      refine ⟨eq_above E, ?_, h5⟩
      unfold qX0_solve_125
      rw [if_pos (show (6 : Int32) ≤ nI 6 by decide)]
  | succ d ih =>
    intro fu x E h1 h2 h3 h4 h5
    match fu, h2 with
    | fu + 1, h2 =>
      have hx : x < 6 := by omega
      have hx0 : ¬ (6 : Int32) ≤ nI x := nI_ge (b := 6) (by omega) (by decide)
      obtain ⟨u, hu⟩ : ∃ u, u = if O.testBit x = true then v (ct O x) else 0 := ⟨_, rfl⟩
      obtain ⟨a, q1, q2⟩ := ih fu (x + 1) (eq_above_s E (vp_updL (eq_above E) x u)) (by omega) (by omega) h3 h4 (fun z hz => by
        show vp_updL (eq_above E) x u z = _
        by_cases e : z = x
        · rw [e, updL_s, hu]
        · rw [updL_n e]
          exact h5 z (by omega))
      refine ⟨a, ?_, q2⟩
      unfold qX0_solve_125 qX0_solve_167
      rw [if_neg hx0, ga_ok hx (by decide), h3 x hx]
      by_cases hb : O.testBit x = true
      · have hcn := (fin_el O hO x hx hb).2
        have hc6 := fin_ctb O hO 6 (by omega)
        rw [if_pos hb] at hu
        rw [if_pos hb, if_pos (nI_pos' (by omega)), ga_ok hx (by decide), h3 x hx, if_pos hb, ga_ok (by omega) (by decide), show (6 : Int32) = nI 6 from rfl, ga_ok (by decide) (by decide), ga_ok hx (by decide), ltt_e, ltt_e, nI_1, h4 _ (by omega), ← hu]
        exact q1
      · rw [if_neg hb] at hu
        rw [if_neg hb, if_neg (show ¬ (0 : Int32) ≤ -1 by decide), ga_ok hx (by decide), ltt_e, ltt_e, nI_1, ← hu]
        exact q1
theorem fin_ct5 : ∀ O, O < 64 → ∀ e, e < 6 → O.testBit e = false → ct O 6 ≤ 5 := by decide +kernel
/-- what solve leaves -/
def SL (E : SX0) (t : Nat) (w : Nat → Wy) (A Z : Nat) (du : Nat → Int) : Prop := eq_below E = zI (dt (ct (op t w A Z) 6) (MO t w A (op t w A Z))) ∧ ∀ x, x < 6 → eq_above E x = if (op t w A Z).testBit x = true then zI (Xk (MO t w A (op t w A Z)) (ct (op t w A Z) 6) (ct (op t w A Z) x) (fun i => du (el (op t w A Z) i))) else 0
theorem solve8 {N : SX3} {P A : Nat} {w : Nat → Wy} (hV : GV P A w) (hN : NE N P A w) {t Z e q G : Nat} (ht : t < 2 ^ 31) (hZ : Z < 2 ^ P) (he : e < P) (heZ : Z.testBit e = true) {E : SX0} {du : Nat → Int} (hdu : ∀ x, x < 6 → eq_due E x = zI (du x)) (hd0 : ∀ x, x < 6 → 0 ≤ du x) (hq : sm (ct (op t w A Z) 6) (fun i => MO t w A (op t w A Z) i i) ≤ (q : Int)) (hG : sm (ct (op t w A Z) 6) (fun i => du (el (op t w A Z) i)) ≤ (G : Int)) (hC : NC q G) : ∃ E' : SX0, fX0_solve E N (nI t) (nI Z) = some E' ∧ SL E' t w A Z du := by
  have hP := hV.2.1
  have hA := hV.2.2.1
  have hO := op_lt (t := t) hV hZ
  have hGL := GL_MO (t := t) hV hZ
  unfold SL
  have hOe : (op t w A Z).testBit e = false := by
    unfold op
    rw [andn_bit, heZ]
    simp
  have hand : nI (Rch t w A Z) &&& (nI Z ^^^ (-1 : Int32)) = nI (op t w A Z) := nI_andn _ _
  generalize op t w A Z = O at *
  have hn5 := fin_ct5 O hO e (by omega) hOe
  obtain ⟨E1, a1, a2⟩ := lay8r hO E
  obtain ⟨E2, b1, b2⟩ := ways_loop hV hN ht hO (D := eq_due E) (nI Z) A FU 0 E1 (by omega) (by unfold FU; omega) ⟨a2.2.1, a2.2.2.1, fun i hi => ⟨fun j hj => by rw [(a2.2.2.2 i hi).1 j (by omega)]; rfl, (a2.2.2.2 i hi).2⟩⟩
  obtain ⟨R, c1, c2⟩ := stage_loop hGL hn5 hq (g := fun i => du (el O i)) (fun i hi => hd0 _ (fin_eli O hO i hi).1) hG hC N (nI t) (nI Z) (ct O 6) FU 0 (eq_below_s E2 1) (by omega) (by unfold FU; omega) b2.1 rfl (fun i hi => by
    refine ⟨fun c _ hc => ?_, ?_⟩
    · show eq_rows E2 i c = _
      rw [(b2.2.2 i hi).1 c hc, En_0]
      rfl
    · show eq_rows E2 i 6 = _
      rw [(b2.2.2 i hi).2, En_0, hdu _ (fin_eli O hO i hi).1])
  obtain ⟨a, d1, d2⟩ := above_loop hO rfl (v := fun i => zI (Xk (MO t w A O) (ct O 6) i (fun i => du (el O i)))) N (nI t) (nI Z) 6 FU 0 (eq_below_s (eq_rows_s (eq_below_s E2 1) R) (zI (dt (ct O 6) (MO t w A O)))) (by omega) (by unfold FU; omega) b2.2.1 c2 (fun z hz => by omega)
  refine ⟨eq_above_s (eq_below_s (eq_rows_s (eq_below_s E2 1) R) (zI (dt (ct O 6) (MO t w A O)))) a, ?_, rfl, d2⟩
  unfold fX0_solve
  rw [reached8 hV hN ht hZ, bind_s, hand, a1, bind_s, show (0 : Int32) = nI 0 from rfl, b1, show (0 : Int32) = nI 0 from rfl, c1, show (0 : Int32) = nI 0 from rfl, d1]
