/-! findTime, share, findDown -/
theorem Rch_sym {P A t a b : Nat} {w : Nat → Wy} (hV : GV P A w) (hb : b < P) (h : (Rch t w A (2 ^ a)).testBit b = true) : (Rch t w A (2 ^ b)).testBit a = true := by
  apply Classical.byContradiction
  intro hno
  have hcl := Rch_cl (t := t) hV (two_lt hb)
  have := Rch_minP (A := A) (t := t) (s := 2 ^ a) (w := w) (K := fun x => ¬ (Rch t w A (2 ^ b)).testBit x = true) (fun k hk ht hq => by
    constructor
    · intro hx
      have := hcl k hk ht (Or.inl hx)
      rcases hq with q | q
      · exact q this.1
      · exact q this.2
    · intro hx
      have := hcl k hk ht (Or.inr hx)
      rcases hq with q | q
      · exact q this.1
      · exact q this.2) (fun j hj => by
    rw [two_bit] at hj
    have : a = j := of_decide_eq_true hj
    rw [← this]
    exact hno) b h
  exact this (Rch_start (by rw [two_bit]; simp))
theorem Rch_symb {P A t a b : Nat} {w : Nat → Wy} (hV : GV P A w) (ha : a < P) (hb : b < P) : (Rch t w A (2 ^ a)).testBit b = (Rch t w A (2 ^ b)).testBit a := by
  apply Bool.eq_iff_iff.mpr
  exact ⟨Rch_sym hV hb, Rch_sym hV ha⟩
theorem op_bit {A t a b : Nat} {w : Nat → Wy} : (op t w A (2 ^ b)).testBit a = ((Rch t w A (2 ^ b)).testBit a && !decide (b = a)) := by
  unfold op
  rw [andn_bit, two_bit]
theorem op_P {P A t E : Nat} {w : Nat → Wy} (hV : GV P A w) (hE : E < 2 ^ P) : op t w A E < 2 ^ P := Nat.lt_of_le_of_lt (andn_le _ _) (Rch_lt hV hE)
/-- time or steps -/
def fK (c : Int32) (w : Nat → Wy) (k : Nat) : Nat := if c = 0 then fT w k else fS w k
theorem rg_in {y : SX9} {P A t : Nat} {w : Nat → Wy} (hV : GV P A w) (hM : MA y P A t w) (ht : t < 2 ^ 31) {pa pb c : Int32} {a : Nat → Int32} {n : Int32} {mx ds : Nat → Int64} {u e : Int64} {i x : Nat} (hi : i < 6) (hx : x < 6) (ha : a i = nI x) (k50 : SX9 → Int32 → Option (Int32 × SX9)) : ∀ (d fu m : Nat) (rg : Nat → Int64), m + d = A → d < fu → rg i = zI (du t w (fK c w) m x) → ∃ rg' : Nat → Int64, qX9_findTime_62 pa pb c k50 fu (ms9 y a n mx rg ds u e) (nI i) (nI m) = k50 (ms9 y a n mx rg' ds u e) (nI (i + 1)) ∧ rg' i = zI (du t w (fK c w) A x) ∧ ∀ j, j ≠ i → rg' j = rg j := by
  have hA := hV.2.2.1
  have hP := hV.2.1
  intro d
  induction d with
  | zero =>
    intro fu m rg h1 h2 h3
    match fu, h2 with
    | fu + 1, _ =>
      have hm : m = A := by omega
      subst hm
      refine ⟨rg, ?_, h3, fun j _ => rfl⟩
      unfold qX9_findTime_62
      rw [show m_all (ms9 y a n mx rg ds u e) = nI m from hM.2.1, if_pos (nI_le (Nat.le_refl m) (by omega)), ltt_e, nI_1]
  | succ d ih =>
    intro fu m rg h1 h2 h3
    match fu, h2 with
    | fu + 1, h2 =>
      have hm : m < 11 := by omega
      have hOk := hV.2.2.2 m (by omega)
      have hMm := ms_ma hM a n mx rg ds u e
      have hw := hMm.2.2.2 m (by omega)
      have hF := hOk.1
      have hS := hOk.2.1
      have hst : du t w (fK c w) (m + 1) x = du t w (fK c w) m x + (if t.testBit m = true ∧ (wF (w m) = x ∨ wS (w m) = x) then (fK c w m : Int) else 0) := rfl
      have e169 : ∀ fu v, qX9_findTime_169 pa pb c (qX9_findTime_62 pa pb c k50 fu) (ms9 y a n mx rg ds u e) (nI i) (nI m) (nI i) (rg i) (zI v) = qX9_findTime_62 pa pb c k50 fu (ms9 y a n mx (vp_updL rg i (zI (du t w (fK c w) m x + v))) ds u e) (nI i) (nI (m + 1)) := by
        intro fu v
        unfold qX9_findTime_169
        rw [h3, zI_add, ltt_e, ga_ok hi (by decide), ltt_e, mg_right, ms_right, ltt_e, nI_1]
      have e122 : ∀ fu, qX9_findTime_122 pa pb c (qX9_findTime_62 pa pb c k50 fu) (ms9 y a n mx rg ds u e) (nI i) (nI m) 1 = qX9_findTime_62 pa pb c k50 fu (ms9 y a n mx (vp_updL rg i (zI (du t w (fK c w) m x + (fK c w m : Int)))) ds u e) (nI i) (nI (m + 1)) := by
        intro fu
        have hb1 := wtw_b hOk
        have hb2 := way_bd hOk
        unfold qX9_findTime_122
        rw [ga_ok hi (by decide), if_neg (show ¬ (1 : Int32) = 0 by decide), mg_right]
        by_cases hc : c = 0
        · rw [if_pos hc, weight9 hm hw hOk, bind_s, minutes9 hm hw hOk, bind_s, pk_mul, zI_n (by omega), show fK c w m = fT w m from if_pos hc]
          exact e169 fu (fT w m)
        · rw [if_neg hc, weight9 hm hw hOk, bind_s, zI_n (by omega), show fK c w m = fS w m from if_neg hc]
          exact e169 fu (fS w m)
      have e122z : ∀ fu, qX9_findTime_122 pa pb c (qX9_findTime_62 pa pb c k50 fu) (ms9 y a n mx rg ds u e) (nI i) (nI m) 0 = qX9_findTime_62 pa pb c k50 fu (ms9 y a n mx (vp_updL rg i (zI (du t w (fK c w) m x + 0))) ds u e) (nI i) (nI (m + 1)) := by
        intro fu
        unfold qX9_findTime_122
        rw [ga_ok hi (by decide), if_pos rfl, mg_right, show (0 : Int64) = zI 0 from rfl, e169]
      have fin : ∀ v, (if t.testBit m = true ∧ (wF (w m) = x ∨ wS (w m) = x) then (fK c w m : Int) else 0) = v → ∃ rg' : Nat → Int64, qX9_findTime_62 pa pb c k50 fu (ms9 y a n mx (vp_updL rg i (zI (du t w (fK c w) m x + v))) ds u e) (nI i) (nI (m + 1)) = k50 (ms9 y a n mx rg' ds u e) (nI (i + 1)) ∧ rg' i = zI (du t w (fK c w) A x) ∧ ∀ j, j ≠ i → rg' j = rg j := by
        intro v hv
        obtain ⟨rg', q1, q2, q3⟩ := ih fu (m + 1) (vp_updL rg i (zI (du t w (fK c w) m x + v))) (by omega) (by omega) (by rw [updL_s, hst, hv])
        exact ⟨rg', q1, q2, fun j hj => by rw [q3 j hj, updL_n hj]⟩
      rw [qX9_findTime_62]
      unfold qX9_findTime_121 qX9_findTime_117
      rw [show m_all (ms9 y a n mx rg ds u e) = nI A from hM.2.1, if_neg (nI_ge (by omega) (by omega)), show m_there (ms9 y a n mx rg ds u e) = nI t from hM.2.2.1, has9 ht (by omega), bind_s]
      by_cases hb : t.testBit m = true
      · rw [if_pos hb, if_neg (show ¬ (1 : Int32) = 0 by decide), ga_ok hm (by decide), ga_ok hi (by decide), mg_inner, ha, hw.1]
        by_cases h4 : wF (w m) = x
        · rw [if_pos (by rw [h4]), e122]
          exact fin _ (if_pos ⟨hb, Or.inl h4⟩)
        · rw [if_neg (fun z => h4 ((nI_eq (by omega) (by omega)).mp z)), ga_ok hm (by decide), ga_ok hi (by decide), ha, hw.2.1]
          by_cases h5 : wS (w m) = x
          · rw [if_pos (by rw [h5]), e122]
            exact fin _ (if_pos ⟨hb, Or.inr h5⟩)
          · rw [if_neg (fun z => h5 ((nI_eq (by omega) (by omega)).mp z)), e122z]
            exact fin _ (if_neg (fun z => by rcases z.2 with q | q; exact h4 q; exact h5 q))
      · rw [if_neg hb, if_pos rfl, e122z]
        exact fin _ (if_neg (fun z => hb z.1))
/-- the last of findTime -/
def fend (pa : Int32) (Y : SX9) : Option (Int32 × SX9) := (fX9_det Y (-1)).bind fun o4 => ltt ((m_down_s o4.2 o4.1)) fun xs3 => (fX9_columnOf xs3 pa).bind fun o5 => (fX9_det xs3 o5).bind fun o6 => ltt ((m_up_s o6.2 o6.1)) fun xs4 => some ((1 : Int32), xs4)
theorem rg_loop {y : SX9} {P A t : Nat} {w : Nat → Wy} (hV : GV P A w) (hM : MA y P A t w) (ht : t < 2 ^ 31) {pa pb c : Int32} {a : Nat → Int32} {O n : Nat} (hO : O < 64) (hn : n = ct O 6) (ha : ∀ i, i < n → a i = nI (el O i)) {mx ds : Nat → Int64} {u e : Int64} : ∀ (d fu i : Nat) (rg : Nat → Int64), i + d = n → d < fu → (∀ j, j < i → rg j = zI (du t w (fK c w) A (el O j))) → (∀ j, i ≤ j → j < n → rg j = 0) → ∃ rg' : Nat → Int64, qX9_findTime_50 pa pb c fu (ms9 y a (nI n) mx rg ds u e) (nI i) = fend pa (ms9 y a (nI n) mx rg' ds u e) ∧ ∀ j, j < n → rg' j = zI (du t w (fK c w) A (el O j)) := by
  have hA := hV.2.2.1
  have hn6 : n ≤ 6 := by rw [hn]; exact fin_ctb O hO 6 (by omega)
  intro d
  induction d with
  | zero =>
    intro fu i rg h1 h2 h3 h4
    match fu, h2 with
    | fu + 1, _ =>
      have hi : i = n := by omega
      subst hi
      refine ⟨rg, ?_, h3⟩
      unfold qX9_findTime_50 fend
      rw [mg_innerMany, if_pos (nI_le (Nat.le_refl i) (by omega))]
  | succ d ih =>
    intro fu i rg h1 h2 h3 h4
    match fu, h2 with
    | fu + 1, h2 =>
      obtain ⟨rg1, q1, q2, q3⟩ := rg_in hV hM ht (pa := pa) (pb := pb) (c := c) (n := nI n) (mx := mx) (ds := ds) (u := u) (e := e) (show i < 6 by omega) (fin_eli O hO i (by omega)).1 (ha i (by omega)) (qX9_findTime_50 pa pb c fu) A FU 0 rg (by omega) (by unfold FU; omega) (by rw [h4 i (Nat.le_refl i) (by omega)]; rfl)
      obtain ⟨rg', r1, r2⟩ := ih fu (i + 1) rg1 (by omega) (by omega) (fun j hj => by
        by_cases e : j = i
        · rw [e, q2]
        · rw [q3 j e]; exact h3 j (by omega)) (fun j a b => by rw [q3 j (by omega)]; exact h4 j (by omega) b)
      refine ⟨rg', ?_, r2⟩
      unfold qX9_findTime_50
      rw [mg_innerMany, if_neg (nI_ge (by omega) (by omega)), show (0 : Int32) = nI 0 from rfl, q1, r1]
theorem neg1_ne {j : Nat} (h : j < 2 ^ 31) : ¬ nI j = (-1 : Int32) := by
  intro z
  have := congrArg Int32.toInt z
  rw [nI_toInt h, show (-1 : Int32).toInt = -1 by decide] at this
  omega
theorem fend9 {y : SX9} {O n x : Nat} {a : Nat → Int32} {mx rg ds : Nat → Int64} {u e : Int64} (hO : O < 64) (hn : n = ct O 6) (ha : ∀ i, i < n → a i = nI (el O i)) {M : Nat → Nat → Int} {g : Nat → Int} (hmx : ∀ i j, i < n → j < n → mx (6 * i + j) = zI (M i j)) (hrg : ∀ i, i < n → rg i = zI (g i)) (hx : x < 6) (hb : O.testBit x = true) : ∃ ds' : Nat → Int64, fend (nI x) (ms9 y a (nI n) mx rg ds u e) = some (1, ms9 y a (nI n) mx rg ds' (zI (Xk M n (ct O x) g)) (zI (dt n M))) := by
  have hn6 : n ≤ 6 := by rw [hn]; exact fin_ctb O hO 6 (by omega)
  obtain ⟨f1, f2⟩ := fin_el O hO x hx hb
  obtain ⟨ds1, q1⟩ := det9 (y := y) (a := a) (mx := mx) (rg := rg) (ds := ds) (u := u) (e := e) (C := M) (other := -1) hn6 (fun i j hi hj => by rw [if_neg (neg1_ne (by omega))]; exact hmx i j hi hj)
  obtain ⟨ds2, q2⟩ := det9 (y := y) (a := a) (mx := mx) (rg := rg) (ds := ds1) (u := u) (e := zI (dt n M)) (C := rc (ct O x) g M) (other := nI (ct O x)) hn6 (fun i j hi hj => by
    unfold rc
    by_cases e : j = ct O x
    · rw [if_pos (by rw [e]), if_pos e]; exact hrg i hi
    · rw [if_neg (fun z => e ((nI_eq (by omega) (by omega)).mp z)), if_neg e]; exact hmx i j hi hj)
  refine ⟨ds2, ?_⟩
  unfold fend
  rw [q1, bind_s, ltt_e, ms_down, columnOf9 hO hx hb (fun i hi => by rw [mg_inner]; exact ha i (by omega)), bind_s, q2, bind_s, ltt_e, ms_up]
  rfl
/-- what findTime finds -/
theorem find9 {y : SX9} {P A t : Nat} {w : Nat → Wy} (hV : GV P A w) (hM : MA y P A t w) (ht : t < 2 ^ 31) {a b : Nat} (ha : a < P) (hb : b < P) (c : Int32) : ∃ y', Kp y y' ∧ fX9_findTime y (nI a) (nI b) c = some (if (Rch t w A (2 ^ b)).testBit a = true then 1 else 0, y') ∧ ((Rch t w A (2 ^ b)).testBit a = true → a ≠ b → m_up y' = zI (Xk (MO t w A (op t w A (2 ^ b))) (ct (op t w A (2 ^ b)) 6) (ct (op t w A (2 ^ b)) a) (fun i => du t w (fK c w) A (el (op t w A (2 ^ b)) i))) ∧ m_down y' = zI (dt (ct (op t w A (2 ^ b)) 6) (MO t w A (op t w A (2 ^ b))))) ∧ (a = b → m_up y' = 0 ∧ m_down y' = 1) := by
  have hP := hV.2.1
  obtain ⟨y2, hz, hK, hMz, hu0, hd1⟩ : ∃ y2, m_down_s (m_up_s y 0) 1 = y2 ∧ Kp y y2 ∧ MA y2 P A t w ∧ m_up y2 = 0 ∧ m_down y2 = 1 := by
    have h := congrArg (fun z => m_down_s (m_up_s z 0) 1) (ms_0 y)
    rw [ms_up, ms_down] at h
    exact ⟨_, h, ⟨_, _, _, _, _, _, _, rfl⟩, ms_ma hM _ _ _ _ _ _ _, rfl, rfl⟩
  by_cases hab : a = b
  · subst hab
    refine ⟨y2, hK, ?_, fun _ h => absurd rfl h, fun _ => ⟨hu0, hd1⟩⟩
    unfold fX9_findTime
    rw [ltt_e, ltt_e, hz, if_pos rfl, if_pos (Rch_start (by rw [two_bit]; simp))]
  · have hne : ¬ nI a = nI b := fun z => hab ((nI_eq (by omega) (by omega)).mp z)
    have hR := lt31 hP (Rch_lt (t := t) hV (two_lt hb))
    by_cases hr : (Rch t w A (2 ^ b)).testBit a = true
    · have hO64 := op_lt (t := t) hV (two_lt hb)
      have hOP := op_P (t := t) hV (two_lt hb)
      have hOa : (op t w A (2 ^ b)).testBit a = true := by
        rw [op_bit, hr]
        simp
        exact fun z => hab z.symm
      have hand : nI (Rch t w A (2 ^ b)) &&& (nI (2 ^ b) ^^^ (-1 : Int32)) = nI (op t w A (2 ^ b)) := nI_andn _ _
      generalize op t w A (2 ^ b) = O at *
      obtain ⟨aa, mx, rg, w1, w2, w3, w4⟩ := within9 hV hMz ht hOP
      obtain ⟨rg', r1, r2⟩ := rg_loop hV hMz ht (pa := nI a) (pb := nI b) (c := c) hO64 rfl w2 (mx := mx) (ds := m_dets y2) (u := m_up y2) (e := m_down y2) (ct O 6) FU 0 rg (by omega) (by have := fin_ctb O hO64 6 (by omega); unfold FU; omega) (fun j hj => by omega) (fun j _ hj => w4 j hj)
      obtain ⟨ds', f1⟩ := fend9 (y := y2) (u := m_up y2) (e := m_down y2) (ds := m_dets y2) hO64 rfl w2 (M := MO t w A O) (g := fun i => du t w (fK c w) A (el O i)) w3 r2 (show a < 6 by omega) hOa
      refine ⟨ms9 y2 aa (nI (ct O 6)) mx rg' ds' (zI (Xk (MO t w A O) (ct O 6) (ct O a) (fun i => du t w (fK c w) A (el O i)))) (zI (dt (ct O 6) (MO t w A O))), hK.trans ⟨_, _, _, _, _, _, _, rfl⟩, ?_, fun _ _ => ⟨rfl, rfl⟩, fun h => absurd h hab⟩
      unfold fX9_findTime
      rw [ltt_e, ltt_e, hz, if_neg hne, reach9 hV hMz ht hb, bind_s, has9 hR (by omega), if_pos hr, bind_s, if_neg (show ¬ (1 : Int32) = 0 by decide), fin_sh1 b (by omega), hand, w1, bind_s, show (0 : Int32) = nI 0 from rfl, r1, f1]
    · refine ⟨y2, hK, ?_, fun h => absurd h hr, fun h => absurd h hab⟩
      unfold fX9_findTime
      rw [ltt_e, ltt_e, hz, if_neg hne, reach9 hV hMz ht hb, bind_s, has9 hR (by omega), if_neg hr, bind_s, if_pos rfl]
theorem down9 {y : SX9} {P A t : Nat} {w : Nat → Wy} (hV : GV P A w) (hM : MA y P A t w) (ht : t < 2 ^ 31) {b : Nat} (hb : b < P) : ∃ y', Kp y y' ∧ fX9_findDown y (nI b) = some y' ∧ m_up y' = m_up y ∧ m_down y' = zI (dt (ct (op t w A (2 ^ b)) 6) (MO t w A (op t w A (2 ^ b)))) := by
  have hP := hV.2.1
  have hO64 := op_lt (t := t) hV (two_lt hb)
  have hOP := op_P (t := t) hV (two_lt hb)
  have hand : nI (Rch t w A (2 ^ b)) &&& (nI (2 ^ b) ^^^ (-1 : Int32)) = nI (op t w A (2 ^ b)) := nI_andn _ _
  generalize op t w A (2 ^ b) = O at *
  have hn6 := fin_ctb O hO64 6 (by omega)
  obtain ⟨aa, mx, rg, w1, w2, w3, w4⟩ := within9 hV hM ht hOP
  obtain ⟨ds1, q1⟩ := det9 (y := y) (a := aa) (mx := mx) (rg := rg) (ds := m_dets y) (u := m_up y) (e := m_down y) (C := MO t w A O) (other := -1) hn6 (fun i j hi hj => by rw [if_neg (neg1_ne (by omega))]; exact w3 i j hi hj)
  refine ⟨ms9 y aa (nI (ct O 6)) mx rg ds1 (m_up y) (zI (dt (ct O 6) (MO t w A O))), ⟨_, _, _, _, _, _, _, rfl⟩, ?_, rfl, rfl⟩
  unfold fX9_findDown
  rw [reach9 hV hM ht hb, bind_s, fin_sh1 b (by omega), hand, w1, bind_s, q1, bind_s, ltt_e, ms_down]
/-- what share answers -/
theorem share9 {y : SX9} {P A t : Nat} {w : Nat → Wy} (hV : GV P A w) (hM : MA y P A t w) (ht : t < 2 ^ 31) {a b c : Nat} (ha : a < P) (hb : b < P) (hc : c < P) (hr : (Rch t w A (2 ^ b)).testBit a = true) (hab : a ≠ b) : ∃ y', Kp y y' ∧ fX9_share y (nI a) (nI b) (nI c) = some (if (op t w A (2 ^ b)).testBit c = true then zI (Xk (MO t w A (op t w A (2 ^ b))) (ct (op t w A (2 ^ b)) 6) (ct (op t w A (2 ^ b)) a) (un (ct (op t w A (2 ^ b)) c))) else 0, y') ∧ m_up y' = m_up y ∧ m_down y' = m_down y := by
  have hP := hV.2.1
  have hne : ¬ nI a = nI b := fun z => hab ((nI_eq (by omega) (by omega)).mp z)
  have hR := lt31 hP (Rch_lt (t := t) hV (two_lt hb))
  by_cases hcb : c = b
  · subst hcb
    refine ⟨y, Kp.rfl y, ?_, rfl, rfl⟩
    unfold fX9_share
    rw [reach9 hV hM ht hb, bind_s, if_pos rfl, if_neg (by rw [op_bit]; simp)]
  · have hcb' : ¬ nI c = nI b := fun z => hcb ((nI_eq (by omega) (by omega)).mp z)
    by_cases hrc : (Rch t w A (2 ^ b)).testBit c = true
    · have hO64 := op_lt (t := t) hV (two_lt hb)
      have hOP := op_P (t := t) hV (two_lt hb)
      have hOa : (op t w A (2 ^ b)).testBit a = true := by
        rw [op_bit, hr]
        simp
        exact fun z => hab z.symm
      have hOc : (op t w A (2 ^ b)).testBit c = true := by
        rw [op_bit, hrc]
        simp
        exact fun z => hcb z.symm
      have hand : nI (Rch t w A (2 ^ b)) &&& (nI (2 ^ b) ^^^ (-1 : Int32)) = nI (op t w A (2 ^ b)) := nI_andn _ _
      generalize op t w A (2 ^ b) = O at *
      have hn6 := fin_ctb O hO64 6 (by omega)
      have fa := (fin_el O hO64 a (by omega) hOa).2
      have fc := (fin_el O hO64 c (by omega) hOc).2
      obtain ⟨aa, mx, rg, w1, w2, w3, w4⟩ := within9 hV hM ht hOP
      obtain ⟨ds1, q1⟩ := det9 (y := y) (a := aa) (mx := mx) (rg := vp_updL rg (ct O c) 1) (ds := m_dets y) (u := m_up y) (e := m_down y) (C := rc (ct O a) (un (ct O c)) (MO t w A O)) (other := nI (ct O a)) hn6 (fun i j hi hj => by
        unfold rc
        by_cases e : j = ct O a
        · rw [if_pos (by rw [e]), if_pos e]
          unfold un
          by_cases e2 : i = ct O c
          · rw [e2, updL_s, if_pos rfl]; rfl
          · rw [updL_n e2, if_neg e2, w4 i hi]; rfl
        · rw [if_neg (fun z => e ((nI_eq (by omega) (by omega)).mp z)), if_neg e]; exact w3 i j hi hj)
      refine ⟨ms9 y aa (nI (ct O 6)) mx (vp_updL rg (ct O c) 1) ds1 (m_up y) (m_down y), ⟨_, _, _, _, _, _, _, rfl⟩, ?_, rfl, rfl⟩
      unfold fX9_share
      rw [reach9 hV hM ht hb, bind_s, if_neg hcb', has9 hR (by omega), if_pos hrc, bind_s, if_neg (show ¬ (1 : Int32) = 0 by decide), if_neg hne, fin_sh1 b (by omega), hand, w1, bind_s, columnOf9 hO64 (by omega) hOc (fun i hi => by rw [mg_inner]; exact w2 i hi), bind_s, ga_ok (by omega) (by decide), ltt_e, mg_right, ms_right, columnOf9 hO64 (by omega) hOa (fun i hi => by rw [mg_inner]; exact w2 i hi), bind_s, q1, bind_s, if_pos hOc]
      rfl
    · refine ⟨y, Kp.rfl y, ?_, rfl, rfl⟩
      unfold fX9_share
      rw [reach9 hV hM ht hb, bind_s, if_neg hcb', has9 hR (by omega), if_neg hrc, bind_s, if_pos rfl, if_neg (by rw [op_bit]; simp [hrc])]
