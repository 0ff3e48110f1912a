/-! within, columnOf, det -/
theorem in_loop {y : SX9} {P A t : Nat} {w : Nat → Wy} (hV : GV P A w) (hM : MA y P A t w) {O : Nat} (hO : O < 2 ^ P) {mx rg ds : Nat → Int64} {u e : Int64} : ∀ (d fu x : Nat) (a : Nat → Int32), x + d = P → d < fu → (∀ i, i < ct O x → a i = nI (el O i)) → ∃ a' : Nat → Int32, qX9_within_7 (nI O) fu (ms9 y a (nI (ct O x)) mx rg ds u e) (nI x) = qX9_within_54 (nI O) FU (ms9 y a' (nI (ct O P)) mx rg ds u e) 0 ∧ ∀ i, i < ct O P → a' i = nI (el O i) := by
  have hP := hV.2.1
  have hO6 := p64 hP hO
  intro d
  induction d with
  | zero =>
    intro fu x a h1 h2 h3
    match fu, h2 with
    | fu + 1, _ =>
      have hx : x = P := by omega
      subst hx
      refine ⟨a, ?_, h3⟩
      rw [qX9_within_7, show m_points (ms9 y a (nI (ct O x)) mx rg ds u e) = nI x from hM.1, if_pos (nI_le (Nat.le_refl x) (by omega))]
  | succ d ih =>
    intro fu x a h1 h2 h3
    match fu, h2 with
    | fu + 1, h2 =>
      have hxP : x < P := by omega
      have hc := fin_ctb O hO6 x (by omega)
      by_cases hb : O.testBit x = true
      · obtain ⟨a', q1, q2⟩ := ih fu (x + 1) (upd a (ct O x) (nI x)) (by omega) (by omega) (fun i hi => by
          rw [ct_s, if_pos hb] at hi
          by_cases e : i = ct O x
          · rw [e, upd_s (α := Nat), (fin_el O hO6 x (by omega) hb).1]
          · rw [upd_n e]
            exact h3 i (by omega))
        refine ⟨a', ?_, q2⟩
        rw [ct_s, if_pos hb] at q1
        rw [qX9_within_7]
        unfold qX9_within_46
        rw [show m_points (ms9 y a (nI (ct O x)) mx rg ds u e) = nI P from hM.1, if_neg (nI_ge (by omega) (by omega)), has9 (by omega) (by omega), if_pos hb, bind_s, if_neg (show ¬ (1 : Int32) = 0 by decide), mg_innerMany, ga_ok (by omega) (by decide), ltt_e, mg_inner, ms_inner, ltt_e, mg_innerMany, nI_1, ltt_e, ms_innerMany, ltt_e, nI_1, q1]
      · obtain ⟨a', q1, q2⟩ := ih fu (x + 1) a (by omega) (by omega) (fun i hi => by
          rw [ct_s, if_neg hb] at hi
          exact h3 i hi)
        refine ⟨a', ?_, q2⟩
        rw [ct_s, if_neg hb, Nat.add_zero] at q1
        rw [qX9_within_7]
        unfold qX9_within_46
        rw [show m_points (ms9 y a (nI (ct O x)) mx rg ds u e) = nI P from hM.1, if_neg (nI_ge (by omega) (by omega)), has9 (by omega) (by omega), if_neg hb, bind_s, if_pos rfl, ltt_e, nI_1, q1]
theorem mx_in {y : SX9} {P A t : Nat} {w : Nat → Wy} (hV : GV P A w) (hM : MA y P A t w) (ht : t < 2 ^ 31) {O n : Nat} (hO : O < 2 ^ P) (hn : n = ct O 6) {a : Nat → Int32} (ha : ∀ i, i < n → a i = nI (el O i)) {ds : Nat → Int64} {u e : Int64} {i : Nat} (hi : i < n) (k54 : SX9 → Int32 → Option SX9) : ∀ (d fu j : Nat) (mx rg : Nat → Int64), j + d = n → d < fu → (∀ i' j', i' < i → j' < n → mx (6 * i' + j') = zI (MO t w A O i' j')) → (∀ j', j' < j → mx (6 * i + j') = zI (MO t w A O i j')) → ∃ mx' : Nat → Int64, qX9_within_64 (nI O) k54 fu (ms9 y a (nI n) mx rg ds u e) (nI i) (nI j) = k54 (ms9 y a (nI n) mx' (vp_updL rg i 0) ds u e) (nI (i + 1)) ∧ ∀ i' j', i' < i + 1 → j' < n → mx' (6 * i' + j') = zI (MO t w A O i' j') := by
  have hP := hV.2.1
  have hO6 := p64 hP hO
  have hn6 : n ≤ 6 := by rw [hn]; exact fin_ctb O hO6 6 (by omega)
  have hA := hV.2.2.1
  have hPp : ∀ i, i < n → el O i < P := fun i hi => by
    have := fin_eli O hO6 i (by omega)
    apply Classical.byContradiction
    intro hno
    rw [bit_hi hO (by omega)] at this
    exact absurd this.2.1 (by decide)
  intro d
  induction d with
  | zero =>
    intro fu j mx rg h1 h2 h3 h4
    match fu, h2 with
    | fu + 1, _ =>
      have hj : j = n := by omega
      subst hj
      refine ⟨mx, ?_, fun i' j' a b => ?_⟩
      · unfold qX9_within_64
        rw [mg_innerMany, if_pos (nI_le (Nat.le_refl j) (by omega)), ga_ok (by omega) (by decide), ltt_e, mg_right, ms_right, ltt_e, nI_1]
      · by_cases e : i' = i
        · rw [e]; exact h4 j' b
        · exact h3 i' j' (by omega) b
  | succ d ih =>
    intro fu j mx rg h1 h2 h3 h4
    match fu, h2 with
    | fu + 1, h2 =>
      have hj : j < n := by omega
      have e6 : (6 : Int32) * nI i + nI j = nI (6 * i + j) := by rw [show (6 : Int32) = nI 6 from rfl, pk_mul, nI_add]
      obtain ⟨mx', q1, q2⟩ := ih fu (j + 1) (vp_updL mx (6 * i + j) (zI (MO t w A O i j))) rg (by omega) (by omega) (fun i' j' a b => by
          rw [updL_n (by omega)]
          exact h3 i' j' a b) (fun j' b => by
          by_cases e : j' = j
          · rw [e, updL_s]
          · rw [updL_n (by omega)]
            exact h4 j' (by omega))
      refine ⟨mx', ?_, q2⟩
      have hfin : ∀ fu, qX9_within_119 (nI O) (qX9_within_64 (nI O) k54 fu) (ms9 y a (nI n) mx rg ds u e) (nI i) (nI j) (nI (6 * i + j)) (zI (MO t w A O i j)) = qX9_within_64 (nI O) k54 fu (ms9 y a (nI n) (vp_updL mx (6 * i + j) (zI (MO t w A O i j))) rg ds u e) (nI i) (nI (j + 1)) := by
        intro fu
        unfold qX9_within_119
        rw [ga_ok (by omega) (by decide), ltt_e, mg_matrix, ms_matrix, ltt_e, nI_1]
      rw [qX9_within_64, mg_innerMany, if_neg (nI_ge (by omega) (by omega)), e6]
      by_cases e : i = j
      · subst e
        rw [if_pos rfl, ga_ok (by omega) (by decide), mg_inner, ha i hi, weightsAt9 hV (ms_ma hM _ _ _ _ _ _ _) ht (hPp i hi), bind_s, zI_n (by have := dg_b (t := t) (x := el O i) hV A (Nat.le_refl A); omega), ← lp_diag]
        rw [show lp t w A (el O i) (el O i) = MO t w A O i i from rfl, hfin]
        exact q1
      · have hne : el O i ≠ el O j := fun z => e (el_inj hO6 (by omega) (by omega) z)
        rw [if_neg (fun z => e ((nI_eq (by omega) (by omega)).mp z)), ga_ok (by omega) (by decide), ga_ok (by omega) (by decide), mg_inner, ha i hi, ha j hj, between9 hV (ms_ma hM _ _ _ _ _ _ _) ht (fin_eli O hO6 i (by omega)).1 (fin_eli O hO6 j (by omega)).1, bind_s, zI_nn (by have := bt_b (t := t) (x := el O i) (z := el O j) hV A (Nat.le_refl A); omega), ← bt_lp t w hne]
        rw [show lp t w A (el O i) (el O j) = MO t w A O i j from rfl, hfin]
        exact q1
theorem mx_loop {y : SX9} {P A t : Nat} {w : Nat → Wy} (hV : GV P A w) (hM : MA y P A t w) (ht : t < 2 ^ 31) {O n : Nat} (hO : O < 2 ^ P) (hn : n = ct O 6) {a : Nat → Int32} (ha : ∀ i, i < n → a i = nI (el O i)) {ds : Nat → Int64} {u e : Int64} : ∀ (d fu i : Nat) (mx rg : Nat → Int64), i + d = n → d < fu → (∀ i' j', i' < i → j' < n → mx (6 * i' + j') = zI (MO t w A O i' j')) → (∀ i', i' < i → rg i' = 0) → ∃ mx' rg' : Nat → Int64, qX9_within_54 (nI O) fu (ms9 y a (nI n) mx rg ds u e) (nI i) = some (ms9 y a (nI n) mx' rg' ds u e) ∧ (∀ i' j', i' < n → j' < n → mx' (6 * i' + j') = zI (MO t w A O i' j')) ∧ ∀ i', i' < n → rg' i' = 0 := by
  have hP := hV.2.1
  have hO6 := p64 hP hO
  have hn6 : n ≤ 6 := by rw [hn]; exact fin_ctb O hO6 6 (by omega)
  intro d
  induction d with
  | zero =>
    intro fu i mx rg h1 h2 h3 h4
    match fu, h2 with
    | fu + 1, _ =>
      have hi : i = n := by omega
      subst hi
      refine ⟨mx, rg, ?_, h3, h4⟩
      unfold qX9_within_54
      rw [mg_innerMany, if_pos (nI_le (Nat.le_refl i) (by omega))]
  | succ d ih =>
    intro fu i mx rg h1 h2 h3 h4
    match fu, h2 with
    | fu + 1, h2 =>
      obtain ⟨mx1, q1, q2⟩ := mx_in hV hM ht hO hn ha (ds := ds) (u := u) (e := e) (show i < n by omega) (qX9_within_54 (nI O) fu) n FU 0 mx rg (by omega) (by unfold FU; omega) h3 (fun j' hj => by omega)
      obtain ⟨mx', rg', r1, r2, r3⟩ := ih fu (i + 1) mx1 (vp_updL rg i 0) (by omega) (by omega) q2 (fun i' hi' => by
        by_cases e : i' = i
        · rw [e, updL_s]
        · rw [updL_n e]; exact h4 i' (by omega))
      refine ⟨mx', rg', ?_, r2, r3⟩
      unfold qX9_within_54
      rw [mg_innerMany, if_neg (nI_ge (by omega) (by omega)), show (0 : Int32) = nI 0 from rfl, q1, r1]
theorem fin_ctP : ∀ P, P < 7 → ∀ O, O < 2 ^ P → ct O P = ct O 6 := by decide +kernel
theorem within9 {y : SX9} {P A t : Nat} {w : Nat → Wy} (hV : GV P A w) (hM : MA y P A t w) (ht : t < 2 ^ 31) {O : Nat} (hO : O < 2 ^ P) : ∃ (a : Nat → Int32) (mx rg : Nat → Int64), fX9_within y (nI O) = some (ms9 y a (nI (ct O 6)) mx rg (m_dets y) (m_up y) (m_down y)) ∧ (∀ i, i < ct O 6 → a i = nI (el O i)) ∧ (∀ i j, i < ct O 6 → j < ct O 6 → mx (6 * i + j) = zI (MO t w A O i j)) ∧ ∀ i, i < ct O 6 → rg i = 0 := by
  have hP := hV.2.1
  obtain ⟨a, q1, q2⟩ := in_loop hV hM hO (mx := m_matrix y) (rg := m_right y) (ds := m_dets y) (u := m_up y) (e := m_down y) P FU 0 (m_inner y) (by omega) (by unfold FU; omega) (fun i hi => by have : ct O 0 = 0 := rfl; omega)
  rw [fin_ctP P (by omega) O hO] at q1 q2
  obtain ⟨mx, rg, r1, r2, r3⟩ := mx_loop hV hM ht hO rfl q2 (ds := m_dets y) (u := m_up y) (e := m_down y) (ct O 6) FU 0 (m_matrix y) (m_right y) (by omega) (by have := fin_ctb O (p64 hP hO) 6 (by omega); unfold FU; omega) (fun i' j' hi => by omega) (fun i' hi => by omega)
  refine ⟨a, mx, rg, ?_, q2, r2, r3⟩
  have hz : m_innerMany_s y (nI (ct O 0)) = ms9 y (m_inner y) (nI (ct O 0)) (m_matrix y) (m_right y) (m_dets y) (m_up y) (m_down y) := by
    have h := congrArg (fun z => m_innerMany_s z (nI (ct O 0))) (ms_0 y)
    rw [ms_innerMany] at h
    exact h
  unfold fX9_within
  rw [ltt_e, show (0 : Int32) = nI (ct O 0) from rfl, hz, show qX9_within_7 (nI O) FU (ms9 y (m_inner y) (nI (ct O 0)) (m_matrix y) (m_right y) (m_dets y) (m_up y) (m_down y)) (nI (ct O 0)) = _ from q1, show (0 : Int32) = nI 0 from rfl, r1]
theorem col_loop {Y : SX9} {O x : Nat} (hO : O < 64) (hx : x < 6) (hb : O.testBit x = true) (ha : ∀ i, i < ct O 6 → m_inner Y i = nI (el O i)) : ∀ (d fu i : Nat), i + d = ct O x → d < fu → qX9_columnOf_2 Y (nI x) fu (nI i) = some (nI (ct O x)) := by
  obtain ⟨f1, f2⟩ := fin_el O hO x hx hb
  have hc6 := fin_ctb O hO 6 (by omega)
  intro d
  induction d with
  | zero =>
    intro fu i h1 h2
    match fu, h2 with
    | fu + 1, _ =>
      have hi : i = ct O x := by omega
      unfold qX9_columnOf_2
      rw [ga_ok (by omega) (by decide), ha i (by omega), hi, f1, if_pos rfl]
  | succ d ih =>
    intro fu i h1 h2
    match fu, h2 with
    | fu + 1, h2 =>
      have hne : ¬ nI (el O i) = nI x := fun z => by
        have e := (nI_eq (by have := (fin_eli O hO i (by omega)).1; omega) (by omega)).mp z
        have := (fin_eli O hO i (by omega)).2.2
        rw [e] at this
        omega
      unfold qX9_columnOf_2
      rw [ga_ok (by omega) (by decide), ha i (by omega), if_neg hne, ltt_e, nI_1, ih fu (i + 1) (by omega) (by omega)]
theorem columnOf9 {Y : SX9} {O x : Nat} (hO : O < 64) (hx : x < 6) (hb : O.testBit x = true) (ha : ∀ i, i < ct O 6 → m_inner Y i = nI (el O i)) : fX9_columnOf Y (nI x) = some (nI (ct O x)) := by
  have := fin_ctb O hO x (by omega)
  unfold fX9_columnOf
  rw [show (0 : Int32) = nI 0 from rfl, col_loop hO hx hb ha (ct O x) FU 0 (by omega) (by unfold FU; omega)]
theorem fin_bits : ∀ s, s < 64 → fX9_bits (nI s) = some (nI (ct s 6)) := by decide +kernel
theorem fin_sg : ∀ S, S < 64 → ∀ j, j < 6 → S.testBit j = true → (if nI (ct (S / 2 ^ j) 6) &&& 1 = (1 : Int32) then (1 : Int) else -1) = sg (ct S 6 - 1 + ct S j) ∧ 1 ≤ ct S 6 := by decide +kernel
theorem fin_dela : ∀ S, S < 64 → ∀ j, j < 6 → S.testBit j = true → andn S (2 ^ j) < S ∧ ct (andn S (2 ^ j)) 6 = ct S 6 - 1 := by decide +kernel
theorem fin_delb : ∀ S, S < 64 → ∀ j, j < 6 → ∀ q, q < 6 → S.testBit j = true → q < ct S 6 - 1 → el (andn S (2 ^ j)) q = el S (if q < ct S j then q else q + 1) := by decide +kernel
theorem fin_ones : ∀ n, n < 7 → ct (2 ^ n - 1) 6 = n ∧ ∀ p, p < 6 → p < n → el (2 ^ n - 1) p = p := by decide +kernel
theorem fin_sub : ∀ n, n < 7 → ∀ S, S < 2 ^ n → ct S n = ct S 6 := by decide +kernel
/-- the determinant of the first rows and the columns of S -/
def DS (C : Nat → Nat → Int) (S : Nat) : Int := dt (ct S 6) (fun i p => C i (el S p))
theorem det_in {y : SX9} {n : Nat} (hn : n ≤ 6) {a : Nat → Int32} {mx rg ds : Nat → Int64} {u e : Int64} {C : Nat → Nat → Int} {other : Int32} (hC : ∀ i j, i < n → j < n → (if nI j = other then rg i else mx (6 * i + j)) = zI (C i j)) {S : Nat} (hS : S < 2 ^ n) (h1S : 1 ≤ ct S 6) (hds : ∀ S', S' < S → ds S' = zI (DS C S')) (k9 : SX9 → Int32 → Option (Int64 × SX9)) : ∀ (d fu j : Nat), j + d = n → d < fu → qX9_det_32 other k9 fu (ms9 y a (nI n) mx rg ds u e) (nI S) (nI (ct S 6 - 1)) (zI (sm (ct S j) (fun p => sg (ct S 6 - 1 + p) * C (ct S 6 - 1) (el S p) * dt (ct S 6 - 1) (dc p (fun i p => C i (el S p)))))) (nI j) = k9 (ms9 y a (nI n) mx rg (vp_updL ds S (zI (DS C S))) u e) (nI (S + 1)) := by
  have hS64 : S < 64 := p64 hn hS
  have hcn : ct S 6 ≤ n := by rw [← fin_sub n (by omega) S hS]; exact fin_ctb S hS64 n (by omega)
  intro d
  induction d with
  | zero =>
    intro fu j h1 h2
    match fu, h2 with
    | fu + 1, _ =>
      have hj : j = n := by omega
      subst hj
      unfold qX9_det_32
      rw [mg_innerMany, if_pos (nI_le (Nat.le_refl j) (by omega)), ga_ok (by omega) (by decide), ltt_e, mg_dets, ms_dets, ltt_e, nI_1, fin_sub j (by omega) S hS]
      congr 2
      unfold DS
      obtain ⟨m, hm⟩ : ∃ m, ct S 6 = m + 1 := ⟨ct S 6 - 1, by omega⟩
      rw [hm, dt_s, Nat.add_sub_cancel]
  | succ d ih =>
    intro fu j h1 h2
    match fu, h2 with
    | fu + 1, h2 =>
      have hj : j < 6 := by omega
      have q := ih fu (j + 1) (by omega) (by omega)
      rw [qX9_det_32]
      unfold qX9_det_122
      rw [mg_innerMany, if_neg (nI_ge (by omega) (by omega)), has9 (by omega) (by omega), bind_s]
      by_cases hb : S.testBit j = true
      · obtain ⟨g1, g2⟩ := fin_sg S hS64 j hj hb
        obtain ⟨l1, l2⟩ := fin_dela S hS64 j hj hb
        have l3 : ∀ q, q < 6 → q < ct S 6 - 1 → el (andn S (2 ^ j)) q = el S (if q < ct S j then q else q + 1) := fun q q1 q2 => fin_delb S hS64 j hj q q1 hb q2
        have hel := (fin_el S hS64 j hj hb).1
        have hst : ct S (j + 1) = ct S j + 1 := by rw [ct_s, if_pos hb]
        have hDS : DS C (andn S (2 ^ j)) = dt (ct S 6 - 1) (dc (ct S j) (fun i p => C i (el S p))) := by
          unfold DS
          rw [l2]
          apply dt_cg
          intro i q hi hq
          unfold dc
          rw [l3 q (by omega) hq]
        have e80 : ∀ fu v, v = zI (C (ct S 6 - 1) j) → qX9_det_80 other (qX9_det_122 other (qX9_det_32 other k9 fu)) (ms9 y a (nI n) mx rg ds u e) (nI S) (nI (ct S 6 - 1)) (zI (sm (ct S j) (fun p => sg (ct S 6 - 1 + p) * C (ct S 6 - 1) (el S p) * dt (ct S 6 - 1) (dc p (fun i p => C i (el S p)))))) (nI j) v = qX9_det_32 other k9 fu (ms9 y a (nI n) mx rg ds u e) (nI S) (nI (ct S 6 - 1)) (zI (sm (ct S (j + 1)) (fun p => sg (ct S 6 - 1 + p) * C (ct S 6 - 1) (el S p) * dt (ct S 6 - 1) (dc p (fun i p => C i (el S p)))))) (nI (j + 1)) := by
          intro fu v hv
          unfold qX9_det_80 qX9_det_119 qX9_det_122
          rw [fin_sh1 j (by omega), nI_andn, ga_ok (by omega) (by decide), ltt_e, mg_dets, hds _ l1, hv, zI_mul, hDS, fin_31 j (by omega), pk_shrN (by omega) (nI j) j (fin_smod j (by omega)), fin_bits _ (by have := Nat.div_le_self S (2 ^ j); omega), bind_s, hst, sm_s, hel, ← zI_add]
          by_cases hs : nI (ct (S / 2 ^ j) 6) &&& 1 = (1 : Int32)
          · rw [if_pos hs] at g1
            rw [if_pos hs, ltt_e, ltt_e, nI_1, ← g1, Int.one_mul]
          · rw [if_neg hs] at g1
            rw [if_neg hs, ltt_e, ltt_e, nI_1, ← g1, zI_neg]
            congr 4
            grind
        have hcij := hC (ct S 6 - 1) j (by omega) (by omega)
        rw [if_pos hb, if_neg (show ¬ (1 : Int32) = 0 by decide)]
        by_cases ho : nI j = other
        · rw [if_pos ho] at hcij
          rw [if_pos ho, ga_ok (by omega) (by decide), mg_right]
          rw [show (qX9_det_80 other (fun xs l2 l3 l4 l6 => ltt (l6 + 1) fun v5 => qX9_det_32 other k9 fu xs l2 l3 l4 v5)) = qX9_det_80 other (qX9_det_122 other (qX9_det_32 other k9 fu)) from rfl, e80 fu _ hcij, q]
        · rw [if_neg ho] at hcij
          have e6 : (6 : Int32) * nI (ct S 6 - 1) + nI j = nI (6 * (ct S 6 - 1) + j) := by rw [show (6 : Int32) = nI 6 from rfl, pk_mul, nI_add]
          rw [if_neg ho, e6, ga_ok (by omega) (by decide), mg_matrix]
          rw [show (qX9_det_80 other (fun xs l2 l3 l4 l6 => ltt (l6 + 1) fun v5 => qX9_det_32 other k9 fu xs l2 l3 l4 v5)) = qX9_det_80 other (qX9_det_122 other (qX9_det_32 other k9 fu)) from rfl, e80 fu _ hcij, q]
      · rw [if_neg hb, if_pos rfl, ltt_e, nI_1]
        rw [show ct S (j + 1) = ct S j from by rw [ct_s, if_neg hb, Nat.add_zero]] at q
        exact q
theorem det_loop {y : SX9} {n : Nat} (hn : n ≤ 6) {a : Nat → Int32} {mx rg : Nat → Int64} {u e : Int64} {C : Nat → Nat → Int} {other : Int32} (hC : ∀ i j, i < n → j < n → (if nI j = other then rg i else mx (6 * i + j)) = zI (C i j)) : ∀ (d fu S : Nat) (ds : Nat → Int64), S + d = 2 ^ n → d < fu → 1 ≤ S → (∀ S', S' < S → ds S' = zI (DS C S')) → ∃ ds' : Nat → Int64, qX9_det_9 other fu (ms9 y a (nI n) mx rg ds u e) (nI S) = some (zI (dt n C), ms9 y a (nI n) mx rg ds' u e) := by
  have h2n : 2 ^ n ≤ 64 := Nat.pow_le_pow_right (n := 2) (by decide) hn
  intro d
  induction d with
  | zero =>
    intro fu S ds h1 h2 h3 h4
    match fu, h2 with
    | fu + 1, _ =>
      have hS : S = 2 ^ n := by omega
      refine ⟨ds, ?_⟩
      unfold qX9_det_9
      rw [mg_innerMany, fin_sh1 n (by omega), if_pos (nI_le (by omega) (by omega)), show nI (2 ^ n) - (1 : Int32) = nI (2 ^ n - 1) from by
        have := nI_pred (2 ^ n - 1)
        rw [show 2 ^ n - 1 + 1 = 2 ^ n by have := Nat.two_pow_pos n; omega] at this
        exact this, ga_ok (by omega) (by decide), mg_dets, h4 _ (by omega)]
      obtain ⟨f1, f2⟩ := fin_ones n (by omega)
      have hDS : DS C (2 ^ n - 1) = dt n C := by
        unfold DS
        rw [f1]
        apply dt_cg
        intro i p hi hp
        rw [f2 p (by omega) hp]
      rw [hDS]
  | succ d ih =>
    intro fu S ds h1 h2 h3 h4
    match fu, h2 with
    | fu + 1, h2 =>
      have hS : S < 2 ^ n := by omega
      have hct : 1 ≤ ct S 6 := by
        have hpos : ∀ S, S < 64 → 1 ≤ S → 1 ≤ ct S 6 := by decide +kernel
        exact hpos S (by omega) h3
      have hct6 := fin_ctb S (by omega) 6 (by omega)
      have q := det_in hn hC hS hct h4 (a := a) (u := u) (e := e) (y := y) (qX9_det_9 other fu) n FU 0 (by omega) (by unfold FU; omega)
      obtain ⟨ds', r1⟩ := ih fu (S + 1) (vp_updL ds S (zI (DS C S))) (by omega) (by omega) (by omega) (fun S' hS' => by
        by_cases e : S' = S
        · rw [e, updL_s]
        · rw [updL_n e]; exact h4 S' (by omega))
      refine ⟨ds', ?_⟩
      have hsub : nI (ct S 6) - (1 : Int32) = nI (ct S 6 - 1) := by
        have := nI_pred (ct S 6 - 1)
        rw [show ct S 6 - 1 + 1 = ct S 6 by omega] at this
        exact this
      unfold qX9_det_9
      rw [mg_innerMany, fin_sh1 n (by omega), if_neg (nI_ge (by omega) (by omega)), fin_bits S (by omega), bind_s, hsub, ltt_e, show (0 : Int64) = zI (sm (ct S 0) (fun p => sg (ct S 6 - 1 + p) * C (ct S 6 - 1) (el S p) * dt (ct S 6 - 1) (dc p (fun i p => C i (el S p))))) from rfl, show (0 : Int32) = nI 0 from rfl, q, r1]
theorem det9 {y : SX9} {n : Nat} (hn : n ≤ 6) {a : Nat → Int32} {mx rg ds : Nat → Int64} {u e : Int64} {C : Nat → Nat → Int} {other : Int32} (hC : ∀ i j, i < n → j < n → (if nI j = other then rg i else mx (6 * i + j)) = zI (C i j)) : ∃ ds' : Nat → Int64, fX9_det (ms9 y a (nI n) mx rg ds u e) other = some (zI (dt n C), ms9 y a (nI n) mx rg ds' u e) := by
  have h2n : 2 ^ n ≤ 64 := Nat.pow_le_pow_right (n := 2) (by decide) hn
  have h2p := Nat.two_pow_pos n
  obtain ⟨ds', q⟩ := det_loop (y := y) (a := a) (u := u) (e := e) hn hC (2 ^ n - 1) FU 1 (vp_updL ds 0 1) (by omega) (by unfold FU; omega) (Nat.le_refl 1) (fun S' hS' => by
    have : S' = 0 := by omega
    subst this
    rw [updL_s]
    rfl)
  refine ⟨ds', ?_⟩
  unfold fX9_det
  rw [show (0 : Int32) = nI 0 from rfl, ga_ok (by decide) (by decide), ltt_e, mg_dets, ms_dets, show (1 : Int32) = nI 1 from rfl, q]
