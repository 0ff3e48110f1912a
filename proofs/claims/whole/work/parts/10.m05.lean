def qX8_visits_16 (pa : Int32) (pb : Int32) (pc_ : Int32) (pd : Int32) (k28 : SX8 → Int32 → Option (Int64 × SX8)) (xs : SX8) : Option (Int64 × SX8) :=
  k28 xs (-1 : Int32)
def qX8_visits_28 (pa : Int32) (pb : Int32) (pc_ : Int32) (pd : Int32)  (xs : SX8) (t0 : Int32) : Option (Int64 × SX8) :=
  (if t0 = (0 : Int32) then
  (fX3_allWays (w_net xs)).bind fun o2 =>
  (fX0_currentTo (w_equations xs) (w_net xs) o2 pa pb).bind fun o3 =>
  ltt ((w_equations_s xs o3)) fun xs1 =>
  (fX3_weightsAt (w_net xs1) pc_).bind fun o4 =>
  ga 6 pc_ fun j1 =>
  ltt (((o4.toInt64) * ((eq_above (w_equations xs1)) j1))) fun v1 =>
  (fX8_leastTerms v1 (eq_below (w_equations xs1)) pd).bind fun o5 =>
  some (o5, xs1)
  else
  (fX8_refused xs t0).bind fun o6 =>
  some (o6.1, o6.2))
def fX8_visits (xs : SX8) (pa : Int32) (pb : Int32) (pc_ : Int32) (pd : Int32) : Option (Int64 × SX8) :=
  (fX3_isPoint (w_net xs) pc_).bind fun o1 =>
  (if o1 = (0 : Int32) then
  qX8_visits_16 pa pb pc_ pd (qX8_visits_28 pa pb pc_ pd) xs
  else
  (if pc_ = pb then
  qX8_visits_16 pa pb pc_ pd (qX8_visits_28 pa pb pc_ pd) xs
  else
  (fX8_refusalOfJourney xs pa pb pd).bind fun o7 =>
  qX8_visits_28 pa pb pc_ pd xs o7))
set_option maxHeartbeats 4000000 in
set_option maxRecDepth 100000 in
theorem pX8_visits_16 {p : Program} {l : Launch} {e : Env} {s : State} {m : MethodId} {args : Array Value} {below : List Frame} {meth : Method} {c : Code} {g : GG} {w0 : va_W} {a : Nat → Nat} {i : Nat} {pa : Int32} {pb : Int32} {pc_ : Int32} {pd : Int32} {o : (Int64 × SX8)} (X : mX g yX8_visits cX8_visits 8 (some .long) p s m args meth c w0)
  {k28 : SX8 → Int32 → Option (Int64 × SX8)} (K28 : ∀ (xs : SX8) (t0 : Int32) (H : Heap) (locs : List Loc) (ls : Array Slot), k28 xs t0 = some o → mH g s w0 (wX8 g a i xs) H locs → lv_has ls 8 [(0, .ref (a i)), (1, .int pa), (2, .int pb), (3, .int pc_), (4, .int pd)] → W p l e (rM 4 100) s m args below meth c H locs 0 0 (mZ g below args s w0 (wX8 g a i o.2) (some (.long o.1))) (F0 m 28 ls [.int t0])) :
  ∀ (xs : SX8) (H : Heap) (locs : List Loc) (ls : Array Slot), qX8_visits_16 pa pb pc_ pd k28 xs = some o → mH g s w0 (wX8 g a i xs) H locs → lv_has ls 8 [(0, .ref (a i)), (1, .int pa), (2, .int pb), (3, .int pc_), (4, .int pd)] → W p l e (rM 4 100) s m args below meth c H locs 0 0 (mZ g below args s w0 (wX8 g a i o.2) (some (.long o.1))) (F0 m 16 ls []) := by
  have hx := X.1
  have hb := X.2.1
  intro xs H locs ls h hH hl
  unfold qX8_visits_16 at h
  refine lv_iconst (v := (-1 : Int32)) hx hb dX8_visits_16 (by decide) ?_
  refine lv_goto (tgt := 28) hx hb dX8_visits_17 (by decide) ?_
  exact K28 xs (-1 : Int32) H locs ls h hH (lv_sub hl [0, 1, 2, 3, 4] rfl)
set_option maxHeartbeats 4000000 in
set_option maxRecDepth 100000 in
theorem pX8_visits_28 {p : Program} {l : Launch} {e : Env} {s : State} {m : MethodId} {args : Array Value} {below : List Frame} {meth : Method} {c : Code} {g : GG} {w0 : va_W} {a : Nat → Nat} {i : Nat} {pa : Int32} {pb : Int32} {pc_ : Int32} {pd : Int32} {o : (Int64 × SX8)} (X : mX g yX8_visits cX8_visits 8 (some .long) p s m args meth c w0) :
  ∀ (xs : SX8) (t0 : Int32) (H : Heap) (locs : List Loc) (ls : Array Slot), qX8_visits_28 pa pb pc_ pd xs t0 = some o → mH g s w0 (wX8 g a i xs) H locs → lv_has ls 8 [(0, .ref (a i)), (1, .int pa), (2, .int pb), (3, .int pc_), (4, .int pd)] → W p l e (rM 4 100) s m args below meth c H locs 0 0 (mZ g below args s w0 (wX8 g a i o.2) (some (.long o.1))) (F0 m 28 ls [.int t0]) := by
  have hx := X.1
  have hb := X.2.1
  intro xs t0 H locs ls h hH hl
  unfold qX8_visits_28 at h
  refine s_i X (lv' := [(5, .int t0), (0, .ref (a i)), (1, .int pa), (2, .int pb), (3, .int pc_), (4, .int pd)]) hl rfl dX8_visits_28 (by decide) rfl (fun ls hl => ?_)
  refine lv_iload hx hb dX8_visits_30 (lv_at hl 0 rfl) ?_
  refine lv_if_eq (tgt := 42) hx hb dX8_visits_32 (by decide) (fun c2 => ?_) (fun c2 => ?_)
  · have h := it_x h c2
    refine lv_aload_n hx hb dX8_visits_42 rfl (lv_at hl 1 rfl) ?_
    refine f_get X hH 0 rfl rfl 4 (by decide) inX8 fX8_29 rfl dX8_visits_43 ?_
    refine lv_aload_n hx hb dX8_visits_46 rfl (lv_at hl 1 rfl) ?_
    refine f_get X hH 0 rfl rfl 0 (by decide) inX8 fX8_10 rfl dX8_visits_47 ?_
    refine lv_aload_n hx hb dX8_visits_50 rfl (lv_at hl 1 rfl) ?_
    refine f_get X hH 0 rfl rfl 0 (by decide) inX8 fX8_10 rfl dX8_visits_51 ?_
    obtain ⟨o2, ho2, h⟩ := bd_x h
    refine r_V X hH (ws1 := (wX8 g a i xs)) (As := []) (rest := [.ref (a (i + 1)), .ref (a (i + 22))]) (st1 := [.int o2, .ref (a (i + 1)), .ref (a (i + 22))]) (uX3_allWays (a := a) (i := (i + 1)) ho2) kX3_allWays mX8_157 iX3_allWays vX3_allWays zX3 okX3_allWays ⟨Nat.le_of_ble_eq_true rfl, Nat.le_of_ble_eq_true rfl⟩ rfl rfl (q0 := 1) rfl rfl (bX8_1) (bX8_1) rfl hl.1 rfl (Nat.le_of_ble_eq_true rfl) ⟨Nat.le_refl 0, Nat.le_refl 0⟩ rfl dX8_visits_54 (fun H locs hH => ?_)
    refine lv_iload_n hx hb dX8_visits_57 rfl (lv_at hl 2 rfl) ?_
    refine lv_iload_n hx hb dX8_visits_58 rfl (lv_at hl 3 rfl) ?_
    obtain ⟨o3, ho3, h⟩ := bd_x h
    obtain ⟨xs1, exs1, h⟩ := ltt_x h
    refine r_V X hH (ws1 := (wX8 g a i xs1)) (As := [.ref (a (i + 1)), .int o2, .int pa, .int pb]) (rest := []) (st1 := []) (uX0_currentTo (a := a) (i := (i + 22)) (b := a) (j := (i + 1)) ho3) kX0_currentTo mX8_193 iX0_currentTo vX0_currentTo zX0 okX0_currentTo ⟨Nat.le_of_ble_eq_true rfl, Nat.le_of_ble_eq_true rfl⟩ rfl rfl (q0 := 22) rfl rfl (pm_2 (bX8_4) (bX8_4_1)) (by rw [exs1]; exact (pm_2 (bX8_4) (bX8_4_1))) rfl hl.1 rfl (Nat.le_of_ble_eq_true rfl) ⟨Nat.le_refl 0, Nat.le_refl 0⟩ rfl dX8_visits_59 (fun H locs hH => ?_)
    refine lv_aload_n hx hb dX8_visits_62 rfl (lv_at hl 1 rfl) ?_
    refine f_get X hH 0 rfl rfl 0 (by decide) inX8 fX8_10 rfl dX8_visits_63 ?_
    refine lv_iload_n hx hb dX8_visits_66 rfl (lv_at hl 4 rfl) ?_
    obtain ⟨o4, ho4, h⟩ := bd_x h
    refine r_V X hH (ws1 := (wX8 g a i xs1)) (As := [.int pc_]) (rest := []) (st1 := [.int o4]) (uX3_weightsAt (a := a) (i := (i + 1)) ho4) kX3_weightsAt mX8_197 iX3_weightsAt vX3_weightsAt zX3 okX3_weightsAt ⟨Nat.le_of_ble_eq_true rfl, Nat.le_of_ble_eq_true rfl⟩ rfl rfl (q0 := 1) rfl rfl (bX8_1) (bX8_1) rfl hl.1 rfl (Nat.le_of_ble_eq_true rfl) ⟨Nat.le_refl 0, Nat.le_refl 0⟩ rfl dX8_visits_67 (fun H locs hH => ?_)
    refine lv_i2l hx hb dX8_visits_70 rfl ?_
    refine lv_aload_n hx hb dX8_visits_71 rfl (lv_at hl 1 rfl) ?_
    refine f_get X hH 0 rfl rfl 4 (by decide) inX8 fX8_29 rfl dX8_visits_72 ?_
    refine f_get X hH 22 rfl rfl 0 (by decide) inX0 fX8_175 rfl dX8_visits_75 ?_
    refine lv_iload_n hx hb dX8_visits_78 rfl (lv_at hl 4 rfl) ?_
    obtain ⟨j1, ej1, hinj1, h⟩ := ga_x h
    refine a_ll X hH 23 rfl hinj1 ej1 dX8_visits_79 ?_
    refine lv_lmul hx hb dX8_visits_80 ?_
    obtain ⟨v1, ev1, h⟩ := ltt_x h
    refine s_l X (lv' := [(6, .long v1), (5, .int t0), (0, .ref (a i)), (1, .int pa), (2, .int pb), (3, .int pc_), (4, .int pd)]) hl ev1 dX8_visits_81 (by decide) rfl (fun ls hl => ?_)
    refine lv_lload hx hb dX8_visits_83 (lv_at hl 0 rfl) ?_
    refine lv_aload_n hx hb dX8_visits_85 rfl (lv_at hl 2 rfl) ?_
    refine f_get X hH 0 rfl rfl 4 (by decide) inX8 fX8_29 rfl dX8_visits_86 ?_
    refine f_get X hH 22 rfl rfl 1 (by decide) inX0 fX8_178 rfl dX8_visits_89 ?_
    refine lv_iload hx hb dX8_visits_92 (lv_at hl 6 rfl) ?_
    obtain ⟨o5, ho5, h⟩ := bd_x h
    refine r_S X hH (ws1 := (wX8 g a i xs1)) (As := [.long v1, .long (eq_below (w_equations xs1)), .int pd]) (rest := []) (st1 := [.long o5]) (uX8_leastTerms  ho5) kX8_leastTerms mX8_182 sX8_leastTerms zX8 okX8_leastTerms ⟨Nat.le_of_ble_eq_true rfl, Nat.le_of_ble_eq_true rfl⟩ rfl rfl (pm_none _) (pm_none _) rfl hl.1 rfl (Nat.le_of_ble_eq_true rfl) ⟨Nat.le_refl 0, Nat.le_refl 0⟩ rfl dX8_visits_94 (fun H locs hH => ?_)
    have h := Option.some.inj h
    subst h
    exact e_l X hH dX8_visits_97
  · have h := ie_x h c2
    refine lv_aload_n hx hb dX8_visits_35 rfl (lv_at hl 1 rfl) ?_
    refine lv_iload hx hb dX8_visits_36 (lv_at hl 0 rfl) ?_
    obtain ⟨o6, ho6, h⟩ := bd_x h
    refine r_V X hH (ws1 := (wX8 g a i o6.2)) (As := [.int t0]) (rest := []) (st1 := [.long o6.1]) (uX8_refused (a := a) (i := i) ho6) kX8_refused mX8_167 iX8_refused vX8_refused zX8 okX8_refused ⟨Nat.le_of_ble_eq_true rfl, Nat.le_of_ble_eq_true rfl⟩ rfl rfl (q0 := 0) rfl rfl (pm_all _) (pm_all _) rfl hl.1 rfl (Nat.le_of_ble_eq_true rfl) ⟨Nat.le_refl 0, Nat.le_refl 0⟩ rfl dX8_visits_38 (fun H locs hH => ?_)
    have h := Option.some.inj h
    subst h
    exact e_l X hH dX8_visits_41
set_option maxHeartbeats 4000000 in
set_option maxRecDepth 100000 in
theorem uX8_visits {l : Launch} {g : GG} {a : Nat → Nat} {i : Nat} {xs : SX8} {pa : Int32} {pb : Int32} {pc_ : Int32} {pd : Int32} {o : (Int64 × SX8)} (h : fX8_visits xs pa pb pc_ pd = some o) : mC l g yX8_visits cX8_visits 8 (some .long) (rM 4 100) [.ref (a i), .int pa, .int pb, .int pc_, .int pd] (wX8 g a i xs) (wX8 g a i o.2) (some (.long o.1)) := by
  refine mC.ofW (by decide) (fun p e s m below meth c X hH ls _ hl => ?_) (Nat.le_of_ble_eq_true rfl)
  have hx := X.1
  have hb := X.2.1
  have hl : lv_has ls 8 [(0, .ref (a i)), (1, .int pa), (2, .int pb), (3, .int pc_), (4, .int pd)] := hl
  unfold fX8_visits at h
  suffices HH : ∀ (H : Heap) (locs : List Loc), mH g s (wX8 g a i xs) (wX8 g a i xs) H locs → W p l e (rM 4 100) s m _ below meth c H locs 0 0 (mZ g below _ s (wX8 g a i xs) (wX8 g a i o.2) (some (.long o.1))) (F0 m 0 ls []) from HH _ _ hH
  clear hH
  intro H locs hH
  refine lv_aload_n hx hb dX8_visits_0 rfl (lv_at hl 0 rfl) ?_
  refine f_get X hH 0 rfl rfl 0 (by decide) inX8 fX8_10 rfl dX8_visits_1 ?_
  refine lv_iload_n hx hb dX8_visits_4 rfl (lv_at hl 3 rfl) ?_
  obtain ⟨o1, ho1, h⟩ := bd_x h
  refine r_V X hH (ws1 := (wX8 g a i xs)) (As := [.int pc_]) (rest := []) (st1 := [.int o1]) (uX3_isPoint (a := a) (i := (i + 1)) ho1) kX3_isPoint mX8_154 iX3_isPoint vX3_isPoint zX3 okX3_isPoint ⟨Nat.le_of_ble_eq_true rfl, Nat.le_of_ble_eq_true rfl⟩ rfl rfl (q0 := 1) rfl rfl (bX8_1) (bX8_1) rfl hl.1 rfl (Nat.le_of_ble_eq_true rfl) ⟨Nat.le_refl 0, Nat.le_refl 0⟩ rfl dX8_visits_5 (fun H locs hH => ?_)
  refine lv_if_eq (tgt := 16) hx hb dX8_visits_8 (by decide) (fun c1 => ?_) (fun c1 => ?_)
  · have h := it_x h c1
    exact pX8_visits_16 X (pX8_visits_28 X ) xs H locs ls h hH (lv_sub hl [0, 1, 2, 3, 4] rfl)
  · have h := ie_x h c1
    refine lv_iload_n hx hb dX8_visits_11 rfl (lv_at hl 3 rfl) ?_
    refine lv_iload_n hx hb dX8_visits_12 rfl (lv_at hl 2 rfl) ?_
    refine lv_icmp_ne (tgt := 20) hx hb dX8_visits_13 (by decide) (fun c3 => ?_) (fun c3 => ?_)
    · have h := ie_x h c3
      refine lv_aload_n hx hb dX8_visits_20 rfl (lv_at hl 0 rfl) ?_
      refine lv_iload_n hx hb dX8_visits_21 rfl (lv_at hl 1 rfl) ?_
      refine lv_iload_n hx hb dX8_visits_22 rfl (lv_at hl 2 rfl) ?_
      refine lv_iload hx hb dX8_visits_23 (lv_at hl 4 rfl) ?_
      obtain ⟨o7, ho7, h⟩ := bd_x h
      refine r_V X hH (ws1 := (wX8 g a i xs)) (As := [.int pa, .int pb, .int pd]) (rest := []) (st1 := [.int o7]) (uX8_refusalOfJourney (a := a) (i := i) ho7) kX8_refusalOfJourney mX8_164 iX8_refusalOfJourney vX8_refusalOfJourney zX8 okX8_refusalOfJourney ⟨Nat.le_of_ble_eq_true rfl, Nat.le_of_ble_eq_true rfl⟩ rfl rfl (q0 := 0) rfl rfl (pm_all _) (pm_all _) rfl hl.1 rfl (Nat.le_of_ble_eq_true rfl) ⟨Nat.le_refl 0, Nat.le_refl 0⟩ rfl dX8_visits_25 (fun H locs hH => ?_)
      exact pX8_visits_28 X  xs o7 H locs ls h hH (lv_sub hl [0, 1, 2, 3, 4] rfl)
    · have h := it_x h c3
      exact pX8_visits_16 X (pX8_visits_28 X ) xs H locs ls h hH (lv_sub hl [0, 1, 2, 3, 4] rfl)

def fX8_resistance (xs : SX8) (pa : Int32) (pb : Int32) (pc_ : Int32) : Option (Int64 × SX8) :=
  (fX8_refusalOfJourney xs pa pb pc_).bind fun o1 =>
  (if o1 = (0 : Int32) then
  (fX3_allWays (w_net xs)).bind fun o2 =>
  (fX0_currentTo (w_equations xs) (w_net xs) o2 pa pb).bind fun o3 =>
  ltt ((w_equations_s xs o3)) fun xs1 =>
  ga 6 pa fun j1 =>
  (fX8_leastTerms ((eq_above (w_equations xs1)) j1) (eq_below (w_equations xs1)) pc_).bind fun o4 =>
  some (o4, xs1)
  else
  (fX8_refused xs o1).bind fun o5 =>
  some (o5.1, o5.2))
set_option maxHeartbeats 4000000 in
set_option maxRecDepth 100000 in
theorem uX8_resistance {l : Launch} {g : GG} {a : Nat → Nat} {i : Nat} {xs : SX8} {pa : Int32} {pb : Int32} {pc_ : Int32} {o : (Int64 × SX8)} (h : fX8_resistance xs pa pb pc_ = some o) : mC l g yX8_resistance cX8_resistance 5 (some .long) (rM 4 100) [.ref (a i), .int pa, .int pb, .int pc_] (wX8 g a i xs) (wX8 g a i o.2) (some (.long o.1)) := by
  refine mC.ofW (by decide) (fun p e s m below meth c X hH ls _ hl => ?_) (Nat.le_of_ble_eq_true rfl)
  have hx := X.1
  have hb := X.2.1
  have hl : lv_has ls 5 [(0, .ref (a i)), (1, .int pa), (2, .int pb), (3, .int pc_)] := hl
  unfold fX8_resistance at h
  suffices HH : ∀ (H : Heap) (locs : List Loc), mH g s (wX8 g a i xs) (wX8 g a i xs) H locs → W p l e (rM 4 100) s m _ below meth c H locs 0 0 (mZ g below _ s (wX8 g a i xs) (wX8 g a i o.2) (some (.long o.1))) (F0 m 0 ls []) from HH _ _ hH
  clear hH
  intro H locs hH
  refine lv_aload_n hx hb dX8_resistance_0 rfl (lv_at hl 0 rfl) ?_
  refine lv_iload_n hx hb dX8_resistance_1 rfl (lv_at hl 1 rfl) ?_
  refine lv_iload_n hx hb dX8_resistance_2 rfl (lv_at hl 2 rfl) ?_
  refine lv_iload_n hx hb dX8_resistance_3 rfl (lv_at hl 3 rfl) ?_
  obtain ⟨o1, ho1, h⟩ := bd_x h
  refine r_V X hH (ws1 := (wX8 g a i xs)) (As := [.int pa, .int pb, .int pc_]) (rest := []) (st1 := [.int o1]) (uX8_refusalOfJourney (a := a) (i := i) ho1) kX8_refusalOfJourney mX8_164 iX8_refusalOfJourney vX8_refusalOfJourney zX8 okX8_refusalOfJourney ⟨Nat.le_of_ble_eq_true rfl, Nat.le_of_ble_eq_true rfl⟩ rfl rfl (q0 := 0) rfl rfl (pm_all _) (pm_all _) rfl hl.1 rfl (Nat.le_of_ble_eq_true rfl) ⟨Nat.le_refl 0, Nat.le_refl 0⟩ rfl dX8_resistance_4 (fun H locs hH => ?_)
  refine s_i X (lv' := [(4, .int o1), (0, .ref (a i)), (1, .int pa), (2, .int pb), (3, .int pc_)]) hl rfl dX8_resistance_7 (by decide) rfl (fun ls hl => ?_)
  refine lv_iload hx hb dX8_resistance_9 (lv_at hl 0 rfl) ?_
  refine lv_if_eq (tgt := 21) hx hb dX8_resistance_11 (by decide) (fun c1 => ?_) (fun c1 => ?_)
  · have h := it_x h c1
    refine lv_aload_n hx hb dX8_resistance_21 rfl (lv_at hl 1 rfl) ?_
    refine f_get X hH 0 rfl rfl 4 (by decide) inX8 fX8_29 rfl dX8_resistance_22 ?_
    refine lv_aload_n hx hb dX8_resistance_25 rfl (lv_at hl 1 rfl) ?_
    refine f_get X hH 0 rfl rfl 0 (by decide) inX8 fX8_10 rfl dX8_resistance_26 ?_
    refine lv_aload_n hx hb dX8_resistance_29 rfl (lv_at hl 1 rfl) ?_
    refine f_get X hH 0 rfl rfl 0 (by decide) inX8 fX8_10 rfl dX8_resistance_30 ?_
    obtain ⟨o2, ho2, h⟩ := bd_x h
    refine r_V X hH (ws1 := (wX8 g a i xs)) (As := []) (rest := [.ref (a (i + 1)), .ref (a (i + 22))]) (st1 := [.int o2, .ref (a (i + 1)), .ref (a (i + 22))]) (uX3_allWays (a := a) (i := (i + 1)) ho2) kX3_allWays mX8_157 iX3_allWays vX3_allWays zX3 okX3_allWays ⟨Nat.le_of_ble_eq_true rfl, Nat.le_of_ble_eq_true rfl⟩ rfl rfl (q0 := 1) rfl rfl (bX8_1) (bX8_1) rfl hl.1 rfl (Nat.le_of_ble_eq_true rfl) ⟨Nat.le_refl 0, Nat.le_refl 0⟩ rfl dX8_resistance_33 (fun H locs hH => ?_)
    refine lv_iload_n hx hb dX8_resistance_36 rfl (lv_at hl 2 rfl) ?_
    refine lv_iload_n hx hb dX8_resistance_37 rfl (lv_at hl 3 rfl) ?_
    obtain ⟨o3, ho3, h⟩ := bd_x h
    obtain ⟨xs1, exs1, h⟩ := ltt_x h
    refine r_V X hH (ws1 := (wX8 g a i xs1)) (As := [.ref (a (i + 1)), .int o2, .int pa, .int pb]) (rest := []) (st1 := []) (uX0_currentTo (a := a) (i := (i + 22)) (b := a) (j := (i + 1)) ho3) kX0_currentTo mX8_193 iX0_currentTo vX0_currentTo zX0 okX0_currentTo ⟨Nat.le_of_ble_eq_true rfl, Nat.le_of_ble_eq_true rfl⟩ rfl rfl (q0 := 22) rfl rfl (pm_2 (bX8_4) (bX8_4_1)) (by rw [exs1]; exact (pm_2 (bX8_4) (bX8_4_1))) rfl hl.1 rfl (Nat.le_of_ble_eq_true rfl) ⟨Nat.le_refl 0, Nat.le_refl 0⟩ rfl dX8_resistance_38 (fun H locs hH => ?_)
    refine lv_aload_n hx hb dX8_resistance_41 rfl (lv_at hl 1 rfl) ?_
    refine f_get X hH 0 rfl rfl 4 (by decide) inX8 fX8_29 rfl dX8_resistance_42 ?_
    refine f_get X hH 22 rfl rfl 0 (by decide) inX0 fX8_175 rfl dX8_resistance_45 ?_
    refine lv_iload_n hx hb dX8_resistance_48 rfl (lv_at hl 2 rfl) ?_
    obtain ⟨j1, ej1, hinj1, h⟩ := ga_x h
    refine a_ll X hH 23 rfl hinj1 ej1 dX8_resistance_49 ?_
    refine lv_aload_n hx hb dX8_resistance_50 rfl (lv_at hl 1 rfl) ?_
    refine f_get X hH 0 rfl rfl 4 (by decide) inX8 fX8_29 rfl dX8_resistance_51 ?_
    refine f_get X hH 22 rfl rfl 1 (by decide) inX0 fX8_178 rfl dX8_resistance_54 ?_
    refine lv_iload_n hx hb dX8_resistance_57 rfl (lv_at hl 4 rfl) ?_
    obtain ⟨o4, ho4, h⟩ := bd_x h
    refine r_S X hH (ws1 := (wX8 g a i xs1)) (As := [.long ((eq_above (w_equations xs1)) j1), .long (eq_below (w_equations xs1)), .int pc_]) (rest := []) (st1 := [.long o4]) (uX8_leastTerms  ho4) kX8_leastTerms mX8_182 sX8_leastTerms zX8 okX8_leastTerms ⟨Nat.le_of_ble_eq_true rfl, Nat.le_of_ble_eq_true rfl⟩ rfl rfl (pm_none _) (pm_none _) rfl hl.1 rfl (Nat.le_of_ble_eq_true rfl) ⟨Nat.le_refl 0, Nat.le_refl 0⟩ rfl dX8_resistance_58 (fun H locs hH => ?_)
    have h := Option.some.inj h
    subst h
    exact e_l X hH dX8_resistance_61
  · have h := ie_x h c1
    refine lv_aload_n hx hb dX8_resistance_14 rfl (lv_at hl 1 rfl) ?_
    refine lv_iload hx hb dX8_resistance_15 (lv_at hl 0 rfl) ?_
    obtain ⟨o5, ho5, h⟩ := bd_x h
    refine r_V X hH (ws1 := (wX8 g a i o5.2)) (As := [.int o1]) (rest := []) (st1 := [.long o5.1]) (uX8_refused (a := a) (i := i) ho5) kX8_refused mX8_167 iX8_refused vX8_refused zX8 okX8_refused ⟨Nat.le_of_ble_eq_true rfl, Nat.le_of_ble_eq_true rfl⟩ rfl rfl (q0 := 0) rfl rfl (pm_all _) (pm_all _) rfl hl.1 rfl (Nat.le_of_ble_eq_true rfl) ⟨Nat.le_refl 0, Nat.le_refl 0⟩ rfl dX8_resistance_17 (fun H locs hH => ?_)
    have h := Option.some.inj h
    subst h
    exact e_l X hH dX8_resistance_20

def fX8_refusalOfGoals (xs : SX8) (pa : Int32) (pb : Int32) (pc_ : Int32) (pd : Int32) : Option Int32 :=
  (fX3_isPoint (w_net xs) pa).bind fun o1 =>
  (if o1 = (0 : Int32) then
  some (-1 : Int32)
  else
  (fX3_isPoint (w_net xs) pc_).bind fun o2 =>
  (if o2 = (0 : Int32) then
  some (-1 : Int32)
  else
  (fX3_allPoints (w_net xs)).bind fun o3 =>
  (fX8_refusalOfNumber pb (0 : Int32) o3).bind fun o4 =>
  (if o4 = (0 : Int32) then
  (fX8_isPart pd).bind fun o5 =>
  (if o5 = (0 : Int32) then
  some (-2 : Int32)
  else
  (fX8_has pb pc_).bind fun o6 =>
  (if o6 = (0 : Int32) then
  some (-3 : Int32)
  else
  (fX3_allWays (w_net xs)).bind fun o7 =>
  (fX3_reached (w_net xs) ((1 : Int32) <<< (pa &&& 31)) o7).bind fun o8 =>
  (if (o8 &&& pb) = (0 : Int32) then
  some (-3 : Int32)
  else
  some (0 : Int32))))
  else
  some o4)))
set_option maxHeartbeats 4000000 in
set_option maxRecDepth 100000 in
theorem uX8_refusalOfGoals {l : Launch} {g : GG} {a : Nat → Nat} {i : Nat} {xs : SX8} {pa : Int32} {pb : Int32} {pc_ : Int32} {pd : Int32} {o : Int32} (h : fX8_refusalOfGoals xs pa pb pc_ pd = some o) : mC l g yX8_refusalOfGoals cX8_refusalOfGoals 6 (some .int) (rM 2 48) [.ref (a i), .int pa, .int pb, .int pc_, .int pd] (wX8 g a i xs) (wX8 g a i xs) (some (.int o)) := by
  refine mC.ofW (by decide) (fun p e s m below meth c X hH ls _ hl => ?_) (Nat.le_of_ble_eq_true rfl)
  have hx := X.1
  have hb := X.2.1
  have hl : lv_has ls 6 [(0, .ref (a i)), (1, .int pa), (2, .int pb), (3, .int pc_), (4, .int pd)] := hl
  unfold fX8_refusalOfGoals at h
  suffices HH : ∀ (H : Heap) (locs : List Loc), mH g s (wX8 g a i xs) (wX8 g a i xs) H locs → W p l e (rM 2 48) s m _ below meth c H locs 0 0 (mZ g below _ s (wX8 g a i xs) (wX8 g a i xs) (some (.int o))) (F0 m 0 ls []) from HH _ _ hH
  clear hH
  intro H locs hH
  refine lv_aload_n hx hb dX8_refusalOfGoals_0 rfl (lv_at hl 0 rfl) ?_
  refine f_get X hH 0 rfl rfl 0 (by decide) inX8 fX8_10 rfl dX8_refusalOfGoals_1 ?_
  refine lv_iload_n hx hb dX8_refusalOfGoals_4 rfl (lv_at hl 1 rfl) ?_
  obtain ⟨o1, ho1, h⟩ := bd_x h
  refine r_V X hH (ws1 := (wX8 g a i xs)) (As := [.int pa]) (rest := []) (st1 := [.int o1]) (uX3_isPoint (a := a) (i := (i + 1)) ho1) kX3_isPoint mX8_154 iX3_isPoint vX3_isPoint zX3 okX3_isPoint ⟨Nat.le_of_ble_eq_true rfl, Nat.le_of_ble_eq_true rfl⟩ rfl rfl (q0 := 1) rfl rfl (bX8_1) (bX8_1) rfl hl.1 rfl (Nat.le_of_ble_eq_true rfl) ⟨Nat.le_refl 0, Nat.le_refl 0⟩ rfl dX8_refusalOfGoals_5 (fun H locs hH => ?_)
  refine lv_if_eq (tgt := 22) hx hb dX8_refusalOfGoals_8 (by decide) (fun c1 => ?_) (fun c1 => ?_)
  · have h := it_x h c1
    refine lv_iconst (v := (-1 : Int32)) hx hb dX8_refusalOfGoals_22 (by decide) ?_
    have h := Option.some.inj h
    subst h
    exact e_i X hH dX8_refusalOfGoals_23
  · have h := ie_x h c1
    refine lv_aload_n hx hb dX8_refusalOfGoals_11 rfl (lv_at hl 0 rfl) ?_
    refine f_get X hH 0 rfl rfl 0 (by decide) inX8 fX8_10 rfl dX8_refusalOfGoals_12 ?_
    refine lv_iload_n hx hb dX8_refusalOfGoals_15 rfl (lv_at hl 3 rfl) ?_
    obtain ⟨o2, ho2, h⟩ := bd_x h
    refine r_V X hH (ws1 := (wX8 g a i xs)) (As := [.int pc_]) (rest := []) (st1 := [.int o2]) (uX3_isPoint (a := a) (i := (i + 1)) ho2) kX3_isPoint mX8_154 iX3_isPoint vX3_isPoint zX3 okX3_isPoint ⟨Nat.le_of_ble_eq_true rfl, Nat.le_of_ble_eq_true rfl⟩ rfl rfl (q0 := 1) rfl rfl (bX8_1) (bX8_1) rfl hl.1 rfl (Nat.le_of_ble_eq_true rfl) ⟨Nat.le_refl 0, Nat.le_refl 0⟩ rfl dX8_refusalOfGoals_16 (fun H locs hH => ?_)
    refine lv_if_ne (tgt := 24) hx hb dX8_refusalOfGoals_19 (by decide) (fun c2 => ?_) (fun c2 => ?_)
    · have h := ie_x h c2
      refine lv_iload_n hx hb dX8_refusalOfGoals_24 rfl (lv_at hl 2 rfl) ?_
      refine lv_iconst (v := (0 : Int32)) hx hb dX8_refusalOfGoals_25 (by decide) ?_
      refine lv_aload_n hx hb dX8_refusalOfGoals_26 rfl (lv_at hl 0 rfl) ?_
      refine f_get X hH 0 rfl rfl 0 (by decide) inX8 fX8_10 rfl dX8_refusalOfGoals_27 ?_
      obtain ⟨o3, ho3, h⟩ := bd_x h
      refine r_V X hH (ws1 := (wX8 g a i xs)) (As := []) (rest := [.int (0 : Int32), .int pb]) (st1 := [.int o3, .int (0 : Int32), .int pb]) (uX3_allPoints (a := a) (i := (i + 1)) ho3) kX3_allPoints mX8_230 iX3_allPoints vX3_allPoints zX3 okX3_allPoints ⟨Nat.le_of_ble_eq_true rfl, Nat.le_of_ble_eq_true rfl⟩ rfl rfl (q0 := 1) rfl rfl (bX8_1) (bX8_1) rfl hl.1 rfl (Nat.le_of_ble_eq_true rfl) ⟨Nat.le_refl 0, Nat.le_refl 0⟩ rfl dX8_refusalOfGoals_30 (fun H locs hH => ?_)
      obtain ⟨o4, ho4, h⟩ := bd_x h
      refine r_S X hH (ws1 := (wX8 g a i xs)) (As := [.int pb, .int (0 : Int32), .int o3]) (rest := []) (st1 := [.int o4]) (uX8_refusalOfNumber  ho4) kX8_refusalOfNumber mX8_241 sX8_refusalOfNumber zX8 okX8_refusalOfNumber ⟨Nat.le_of_ble_eq_true rfl, Nat.le_of_ble_eq_true rfl⟩ rfl rfl (pm_none _) (pm_none _) rfl hl.1 rfl (Nat.le_of_ble_eq_true rfl) ⟨Nat.le_refl 0, Nat.le_refl 0⟩ rfl dX8_refusalOfGoals_33 (fun H locs hH => ?_)
      refine s_i X (lv' := [(5, .int o4), (0, .ref (a i)), (1, .int pa), (2, .int pb), (3, .int pc_), (4, .int pd)]) hl rfl dX8_refusalOfGoals_36 (by decide) rfl (fun ls hl => ?_)
      refine lv_iload hx hb dX8_refusalOfGoals_38 (lv_at hl 0 rfl) ?_
      refine lv_if_eq (tgt := 46) hx hb dX8_refusalOfGoals_40 (by decide) (fun c3 => ?_) (fun c3 => ?_)
      · have h := it_x h c3
        refine lv_iload hx hb dX8_refusalOfGoals_46 (lv_at hl 5 rfl) ?_
        obtain ⟨o5, ho5, h⟩ := bd_x h
        refine r_S X hH (ws1 := (wX8 g a i xs)) (As := [.int pd]) (rest := []) (st1 := [.int o5]) (uX8_isPart  ho5) kX8_isPart mX8_313 sX8_isPart zX8 okX8_isPart ⟨Nat.le_of_ble_eq_true rfl, Nat.le_of_ble_eq_true rfl⟩ rfl rfl (pm_none _) (pm_none _) rfl hl.1 rfl (Nat.le_of_ble_eq_true rfl) ⟨Nat.le_refl 0, Nat.le_refl 0⟩ rfl dX8_refusalOfGoals_48 (fun H locs hH => ?_)
        refine lv_if_ne (tgt := 57) hx hb dX8_refusalOfGoals_51 (by decide) (fun c4 => ?_) (fun c4 => ?_)
        · have h := ie_x h c4
          refine lv_iload_n hx hb dX8_refusalOfGoals_57 rfl (lv_at hl 3 rfl) ?_
          refine lv_iload_n hx hb dX8_refusalOfGoals_58 rfl (lv_at hl 4 rfl) ?_
          obtain ⟨o6, ho6, h⟩ := bd_x h
          refine r_S X hH (ws1 := (wX8 g a i xs)) (As := [.int pb, .int pc_]) (rest := []) (st1 := [.int o6]) (uX8_has  ho6) kX8_has mX8_203 sX8_has zX8 okX8_has ⟨Nat.le_of_ble_eq_true rfl, Nat.le_of_ble_eq_true rfl⟩ rfl rfl (pm_none _) (pm_none _) rfl hl.1 rfl (Nat.le_of_ble_eq_true rfl) ⟨Nat.le_refl 0, Nat.le_refl 0⟩ rfl dX8_refusalOfGoals_59 (fun H locs hH => ?_)
          refine lv_if_eq (tgt := 91) hx hb dX8_refusalOfGoals_62 (by decide) (fun c5 => ?_) (fun c5 => ?_)
          · have h := it_x h c5
            refine lv_bipush (v := (-3 : Int32)) hx hb dX8_refusalOfGoals_91 (by decide) ?_
            have h := Option.some.inj h
            subst h
            exact e_i X hH dX8_refusalOfGoals_93
          · have h := ie_x h c5
            refine lv_aload_n hx hb dX8_refusalOfGoals_65 rfl (lv_at hl 1 rfl) ?_
            refine f_get X hH 0 rfl rfl 0 (by decide) inX8 fX8_10 rfl dX8_refusalOfGoals_66 ?_
            refine lv_iconst (v := (1 : Int32)) hx hb dX8_refusalOfGoals_69 (by decide) ?_
            refine lv_iload_n hx hb dX8_refusalOfGoals_70 rfl (lv_at hl 2 rfl) ?_
            refine lv_ishl hx hb dX8_refusalOfGoals_71 ?_
            refine lv_aload_n hx hb dX8_refusalOfGoals_72 rfl (lv_at hl 1 rfl) ?_
            refine f_get X hH 0 rfl rfl 0 (by decide) inX8 fX8_10 rfl dX8_refusalOfGoals_73 ?_
            obtain ⟨o7, ho7, h⟩ := bd_x h
            refine r_V X hH (ws1 := (wX8 g a i xs)) (As := []) (rest := [.int ((1 : Int32) <<< (pa &&& 31)), .ref (a (i + 1))]) (st1 := [.int o7, .int ((1 : Int32) <<< (pa &&& 31)), .ref (a (i + 1))]) (uX3_allWays (a := a) (i := (i + 1)) ho7) kX3_allWays mX8_157 iX3_allWays vX3_allWays zX3 okX3_allWays ⟨Nat.le_of_ble_eq_true rfl, Nat.le_of_ble_eq_true rfl⟩ rfl rfl (q0 := 1) rfl rfl (bX8_1) (bX8_1) rfl hl.1 rfl (Nat.le_of_ble_eq_true rfl) ⟨Nat.le_refl 0, Nat.le_refl 0⟩ rfl dX8_refusalOfGoals_76 (fun H locs hH => ?_)
            obtain ⟨o8, ho8, h⟩ := bd_x h
            refine r_V X hH (ws1 := (wX8 g a i xs)) (As := [.int ((1 : Int32) <<< (pa &&& 31)), .int o7]) (rest := []) (st1 := [.int o8]) (uX3_reached (a := a) (i := (i + 1)) ho8) kX3_reached mX8_161 iX3_reached vX3_reached zX3 okX3_reached ⟨Nat.le_of_ble_eq_true rfl, Nat.le_of_ble_eq_true rfl⟩ rfl rfl (q0 := 1) rfl rfl (bX8_1) (bX8_1) rfl hl.1 rfl (Nat.le_of_ble_eq_true rfl) ⟨Nat.le_refl 0, Nat.le_refl 0⟩ rfl dX8_refusalOfGoals_79 (fun H locs hH => ?_)
            refine lv_iload_n hx hb dX8_refusalOfGoals_82 rfl (lv_at hl 3 rfl) ?_
            refine lv_iand hx hb dX8_refusalOfGoals_83 ?_
            refine lv_if_eq (tgt := 91) hx hb dX8_refusalOfGoals_84 (by decide) (fun c6 => ?_) (fun c6 => ?_)
            · have h := it_x h c6
              refine lv_bipush (v := (-3 : Int32)) hx hb dX8_refusalOfGoals_91 (by decide) ?_
              have h := Option.some.inj h
              subst h
              exact e_i X hH dX8_refusalOfGoals_93
            · have h := ie_x h c6
              refine lv_iconst (v := (0 : Int32)) hx hb dX8_refusalOfGoals_87 (by decide) ?_
              refine lv_goto (tgt := 93) hx hb dX8_refusalOfGoals_88 (by decide) ?_
              have h := Option.some.inj h
              subst h
              exact e_i X hH dX8_refusalOfGoals_93
        · have h := it_x h c4
          refine lv_bipush (v := (-2 : Int32)) hx hb dX8_refusalOfGoals_54 (by decide) ?_
          have h := Option.some.inj h
          subst h
          exact e_i X hH dX8_refusalOfGoals_56
      · have h := ie_x h c3
        refine lv_iload hx hb dX8_refusalOfGoals_43 (lv_at hl 0 rfl) ?_
        have h := Option.some.inj h
        subst h
        exact e_i X hH dX8_refusalOfGoals_45
    · have h := it_x h c2
      refine lv_iconst (v := (-1 : Int32)) hx hb dX8_refusalOfGoals_22 (by decide) ?_
      have h := Option.some.inj h
      subst h
      exact e_i X hH dX8_refusalOfGoals_23

def qX8_ahead_41 (pa : Int32) (pb : Int32) (pc_ : Int32) (pd : Int32)  (xs : SX8) (t0 : Int64) : Option (Int64 × SX8) :=
  (fX8_leastTerms t0 (1 : Int64) pd).bind fun o6 =>
  some (o6, xs)
def fX8_ahead (xs : SX8) (pa : Int32) (pb : Int32) (pc_ : Int32) (pd : Int32) : Option (Int64 × SX8) :=
  (fX8_refusalOfGoals xs pa pb pc_ pd).bind fun o1 =>
  (if o1 = (0 : Int32) then
  (fX8_has pb pa).bind fun o2 =>
  (if o2 = (0 : Int32) then
  (fX3_allWays (w_net xs)).bind fun o3 =>
  (fX0_aheadOf (w_equations xs) (w_net xs) o3 pb pc_).bind fun o4 =>
  ltt ((w_equations_s xs o4)) fun xs1 =>
  ga 6 pa fun j1 =>
  (fX8_leastTerms ((eq_above (w_equations xs1)) j1) (eq_below (w_equations xs1)) pd).bind fun o5 =>
  some (o5, xs1)
  else
  (if pa = pc_ then
  qX8_ahead_41 pa pb pc_ pd xs (1 : Int64)
  else
  qX8_ahead_41 pa pb pc_ pd xs (0 : Int64)))
  else
  (fX8_refused xs o1).bind fun o7 =>
  some (o7.1, o7.2))
set_option maxHeartbeats 4000000 in
set_option maxRecDepth 100000 in
theorem pX8_ahead_41 {p : Program} {l : Launch} {e : Env} {s : State} {m : MethodId} {args : Array Value} {below : List Frame} {meth : Method} {c : Code} {g : GG} {w0 : va_W} {a : Nat → Nat} {i : Nat} {pa : Int32} {pb : Int32} {pc_ : Int32} {pd : Int32} {o : (Int64 × SX8)} (X : mX g yX8_ahead cX8_ahead 6 (some .long) p s m args meth c w0) :
  ∀ (xs : SX8) (t0 : Int64) (H : Heap) (locs : List Loc) (ls : Array Slot), qX8_ahead_41 pa pb pc_ pd xs t0 = some o → mH g s w0 (wX8 g a i xs) H locs → lv_has ls 6 [(0, .ref (a i)), (1, .int pa), (2, .int pb), (3, .int pc_), (4, .int pd)] → W p l e (rM 4 101) s m args below meth c H locs 0 0 (mZ g below args s w0 (wX8 g a i o.2) (some (.long o.1))) (F0 m 41 ls [.long t0]) := by
  have hx := X.1
  have hb := X.2.1
  intro xs t0 H locs ls h hH hl
  unfold qX8_ahead_41 at h
  refine lv_lconst (v := (1 : Int64)) hx hb dX8_ahead_41 (by decide) ?_
  refine lv_iload hx hb dX8_ahead_42 (lv_at hl 4 rfl) ?_
  obtain ⟨o6, ho6, h⟩ := bd_x h
  refine r_S X hH (ws1 := (wX8 g a i xs)) (As := [.long t0, .long (1 : Int64), .int pd]) (rest := []) (st1 := [.long o6]) (uX8_leastTerms  ho6) kX8_leastTerms mX8_182 sX8_leastTerms zX8 okX8_leastTerms ⟨Nat.le_of_ble_eq_true rfl, Nat.le_of_ble_eq_true rfl⟩ rfl rfl (pm_none _) (pm_none _) rfl hl.1 rfl (Nat.le_of_ble_eq_true rfl) ⟨Nat.le_refl 0, Nat.le_refl 0⟩ rfl dX8_ahead_44 (fun H locs hH => ?_)
  have h := Option.some.inj h
  subst h
  exact e_l X hH dX8_ahead_47
set_option maxHeartbeats 4000000 in
set_option maxRecDepth 100000 in
theorem uX8_ahead {l : Launch} {g : GG} {a : Nat → Nat} {i : Nat} {xs : SX8} {pa : Int32} {pb : Int32} {pc_ : Int32} {pd : Int32} {o : (Int64 × SX8)} (h : fX8_ahead xs pa pb pc_ pd = some o) : mC l g yX8_ahead cX8_ahead 6 (some .long) (rM 4 101) [.ref (a i), .int pa, .int pb, .int pc_, .int pd] (wX8 g a i xs) (wX8 g a i o.2) (some (.long o.1)) := by
  refine mC.ofW (by decide) (fun p e s m below meth c X hH ls _ hl => ?_) (Nat.le_of_ble_eq_true rfl)
  have hx := X.1
  have hb := X.2.1
  have hl : lv_has ls 6 [(0, .ref (a i)), (1, .int pa), (2, .int pb), (3, .int pc_), (4, .int pd)] := hl
  unfold fX8_ahead at h
  suffices HH : ∀ (H : Heap) (locs : List Loc), mH g s (wX8 g a i xs) (wX8 g a i xs) H locs → W p l e (rM 4 101) s m _ below meth c H locs 0 0 (mZ g below _ s (wX8 g a i xs) (wX8 g a i o.2) (some (.long o.1))) (F0 m 0 ls []) from HH _ _ hH
  clear hH
  intro H locs hH
  refine lv_aload_n hx hb dX8_ahead_0 rfl (lv_at hl 0 rfl) ?_
  refine lv_iload_n hx hb dX8_ahead_1 rfl (lv_at hl 1 rfl) ?_
  refine lv_iload_n hx hb dX8_ahead_2 rfl (lv_at hl 2 rfl) ?_
  refine lv_iload_n hx hb dX8_ahead_3 rfl (lv_at hl 3 rfl) ?_
  refine lv_iload hx hb dX8_ahead_4 (lv_at hl 4 rfl) ?_
  obtain ⟨o1, ho1, h⟩ := bd_x h
  refine r_V X hH (ws1 := (wX8 g a i xs)) (As := [.int pa, .int pb, .int pc_, .int pd]) (rest := []) (st1 := [.int o1]) (uX8_refusalOfGoals (a := a) (i := i) ho1) kX8_refusalOfGoals mX8_200 iX8_refusalOfGoals vX8_refusalOfGoals zX8 okX8_refusalOfGoals ⟨Nat.le_of_ble_eq_true rfl, Nat.le_of_ble_eq_true rfl⟩ rfl rfl (q0 := 0) rfl rfl (pm_all _) (pm_all _) rfl hl.1 rfl (Nat.le_of_ble_eq_true rfl) ⟨Nat.le_refl 0, Nat.le_refl 0⟩ rfl dX8_ahead_6 (fun H locs hH => ?_)
  refine s_i X (lv' := [(5, .int o1), (0, .ref (a i)), (1, .int pa), (2, .int pb), (3, .int pc_), (4, .int pd)]) hl rfl dX8_ahead_9 (by decide) rfl (fun ls hl => ?_)
  refine lv_iload hx hb dX8_ahead_11 (lv_at hl 0 rfl) ?_
  refine lv_if_eq (tgt := 23) hx hb dX8_ahead_13 (by decide) (fun c1 => ?_) (fun c1 => ?_)
  · have h := it_x h c1
    refine lv_iload_n hx hb dX8_ahead_23 rfl (lv_at hl 3 rfl) ?_
    refine lv_iload_n hx hb dX8_ahead_24 rfl (lv_at hl 2 rfl) ?_
    obtain ⟨o2, ho2, h⟩ := bd_x h
    refine r_S X hH (ws1 := (wX8 g a i xs)) (As := [.int pb, .int pa]) (rest := []) (st1 := [.int o2]) (uX8_has  ho2) kX8_has mX8_203 sX8_has zX8 okX8_has ⟨Nat.le_of_ble_eq_true rfl, Nat.le_of_ble_eq_true rfl⟩ rfl rfl (pm_none _) (pm_none _) rfl hl.1 rfl (Nat.le_of_ble_eq_true rfl) ⟨Nat.le_refl 0, Nat.le_refl 0⟩ rfl dX8_ahead_25 (fun H locs hH => ?_)
    refine lv_if_eq (tgt := 48) hx hb dX8_ahead_28 (by decide) (fun c2 => ?_) (fun c2 => ?_)
    · have h := it_x h c2
      refine lv_aload_n hx hb dX8_ahead_48 rfl (lv_at hl 1 rfl) ?_
      refine f_get X hH 0 rfl rfl 4 (by decide) inX8 fX8_29 rfl dX8_ahead_49 ?_
      refine lv_aload_n hx hb dX8_ahead_52 rfl (lv_at hl 1 rfl) ?_
      refine f_get X hH 0 rfl rfl 0 (by decide) inX8 fX8_10 rfl dX8_ahead_53 ?_
      refine lv_aload_n hx hb dX8_ahead_56 rfl (lv_at hl 1 rfl) ?_
      refine f_get X hH 0 rfl rfl 0 (by decide) inX8 fX8_10 rfl dX8_ahead_57 ?_
      obtain ⟨o3, ho3, h⟩ := bd_x h
      refine r_V X hH (ws1 := (wX8 g a i xs)) (As := []) (rest := [.ref (a (i + 1)), .ref (a (i + 22))]) (st1 := [.int o3, .ref (a (i + 1)), .ref (a (i + 22))]) (uX3_allWays (a := a) (i := (i + 1)) ho3) kX3_allWays mX8_157 iX3_allWays vX3_allWays zX3 okX3_allWays ⟨Nat.le_of_ble_eq_true rfl, Nat.le_of_ble_eq_true rfl⟩ rfl rfl (q0 := 1) rfl rfl (bX8_1) (bX8_1) rfl hl.1 rfl (Nat.le_of_ble_eq_true rfl) ⟨Nat.le_refl 0, Nat.le_refl 0⟩ rfl dX8_ahead_60 (fun H locs hH => ?_)
      refine lv_iload_n hx hb dX8_ahead_63 rfl (lv_at hl 3 rfl) ?_
      refine lv_iload_n hx hb dX8_ahead_64 rfl (lv_at hl 4 rfl) ?_
      obtain ⟨o4, ho4, h⟩ := bd_x h
      obtain ⟨xs1, exs1, h⟩ := ltt_x h
      refine r_V X hH (ws1 := (wX8 g a i xs1)) (As := [.ref (a (i + 1)), .int o3, .int pb, .int pc_]) (rest := []) (st1 := []) (uX0_aheadOf (a := a) (i := (i + 22)) (b := a) (j := (i + 1)) ho4) kX0_aheadOf mX8_207 iX0_aheadOf vX0_aheadOf zX0 okX0_aheadOf ⟨Nat.le_of_ble_eq_true rfl, Nat.le_of_ble_eq_true rfl⟩ rfl rfl (q0 := 22) rfl rfl (pm_2 (bX8_4) (bX8_4_1)) (by rw [exs1]; exact (pm_2 (bX8_4) (bX8_4_1))) rfl hl.1 rfl (Nat.le_of_ble_eq_true rfl) ⟨Nat.le_refl 0, Nat.le_refl 0⟩ rfl dX8_ahead_65 (fun H locs hH => ?_)
      refine lv_aload_n hx hb dX8_ahead_68 rfl (lv_at hl 1 rfl) ?_
      refine f_get X hH 0 rfl rfl 4 (by decide) inX8 fX8_29 rfl dX8_ahead_69 ?_
      refine f_get X hH 22 rfl rfl 0 (by decide) inX0 fX8_175 rfl dX8_ahead_72 ?_
      refine lv_iload_n hx hb dX8_ahead_75 rfl (lv_at hl 2 rfl) ?_
      obtain ⟨j1, ej1, hinj1, h⟩ := ga_x h
      refine a_ll X hH 23 rfl hinj1 ej1 dX8_ahead_76 ?_
      refine lv_aload_n hx hb dX8_ahead_77 rfl (lv_at hl 1 rfl) ?_
      refine f_get X hH 0 rfl rfl 4 (by decide) inX8 fX8_29 rfl dX8_ahead_78 ?_
      refine f_get X hH 22 rfl rfl 1 (by decide) inX0 fX8_178 rfl dX8_ahead_81 ?_
      refine lv_iload hx hb dX8_ahead_84 (lv_at hl 5 rfl) ?_
      obtain ⟨o5, ho5, h⟩ := bd_x h
      refine r_S X hH (ws1 := (wX8 g a i xs1)) (As := [.long ((eq_above (w_equations xs1)) j1), .long (eq_below (w_equations xs1)), .int pd]) (rest := []) (st1 := [.long o5]) (uX8_leastTerms  ho5) kX8_leastTerms mX8_182 sX8_leastTerms zX8 okX8_leastTerms ⟨Nat.le_of_ble_eq_true rfl, Nat.le_of_ble_eq_true rfl⟩ rfl rfl (pm_none _) (pm_none _) rfl hl.1 rfl (Nat.le_of_ble_eq_true rfl) ⟨Nat.le_refl 0, Nat.le_refl 0⟩ rfl dX8_ahead_86 (fun H locs hH => ?_)
      have h := Option.some.inj h
      subst h
      exact e_l X hH dX8_ahead_89
    · have h := ie_x h c2
      refine lv_iload_n hx hb dX8_ahead_31 rfl (lv_at hl 2 rfl) ?_
      refine lv_iload_n hx hb dX8_ahead_32 rfl (lv_at hl 4 rfl) ?_
      refine lv_icmp_ne (tgt := 40) hx hb dX8_ahead_33 (by decide) (fun c3 => ?_) (fun c3 => ?_)
      · have h := ie_x h c3
        refine lv_lconst (v := (0 : Int64)) hx hb dX8_ahead_40 (by decide) ?_
        exact pX8_ahead_41 X  xs (0 : Int64) H locs ls h hH (lv_sub hl [1, 2, 3, 4, 5] rfl)
      · have h := it_x h c3
        refine lv_lconst (v := (1 : Int64)) hx hb dX8_ahead_36 (by decide) ?_
        refine lv_goto (tgt := 41) hx hb dX8_ahead_37 (by decide) ?_
        exact pX8_ahead_41 X  xs (1 : Int64) H locs ls h hH (lv_sub hl [1, 2, 3, 4, 5] rfl)
  · have h := ie_x h c1
    refine lv_aload_n hx hb dX8_ahead_16 rfl (lv_at hl 1 rfl) ?_
    refine lv_iload hx hb dX8_ahead_17 (lv_at hl 0 rfl) ?_
    obtain ⟨o7, ho7, h⟩ := bd_x h
    refine r_V X hH (ws1 := (wX8 g a i o7.2)) (As := [.int o1]) (rest := []) (st1 := [.long o7.1]) (uX8_refused (a := a) (i := i) ho7) kX8_refused mX8_167 iX8_refused vX8_refused zX8 okX8_refused ⟨Nat.le_of_ble_eq_true rfl, Nat.le_of_ble_eq_true rfl⟩ rfl rfl (q0 := 0) rfl rfl (pm_all _) (pm_all _) rfl hl.1 rfl (Nat.le_of_ble_eq_true rfl) ⟨Nat.le_refl 0, Nat.le_refl 0⟩ rfl dX8_ahead_19 (fun H locs hH => ?_)
    have h := Option.some.inj h
    subst h
    exact e_l X hH dX8_ahead_22

def qX8_flow_16 (pa : Int32) (pb : Int32) (pc_ : Int32) (pd : Int32) (k28 : SX8 → Int32 → Option (Int64 × SX8)) (xs : SX8) : Option (Int64 × SX8) :=
  k28 xs (-1 : Int32)
def qX8_flow_28 (pa : Int32) (pb : Int32) (pc_ : Int32) (pd : Int32)  (xs : SX8) (t0 : Int32) : Option (Int64 × SX8) :=
  (if t0 = (0 : Int32) then
  (fX3_allWays (w_net xs)).bind fun o2 =>
  (fX0_currentTo (w_equations xs) (w_net xs) o2 pb pc_).bind fun o3 =>
  ltt ((w_equations_s xs o3)) fun xs1 =>
  ga 11 pa fun j1 =>
  ga 6 ((n_first (w_net xs1)) j1) fun j2 =>
  ga 11 pa fun j3 =>
  ga 6 ((n_second (w_net xs1)) j3) fun j4 =>
  ltt ((((eq_above (w_equations xs1)) j2) - ((eq_above (w_equations xs1)) j4))) fun v1 =>
  (fX3_weight (w_net xs1) pa).bind fun o4 =>
  (fX8_leastTerms ((o4.toInt64) * v1) (eq_below (w_equations xs1)) pd).bind fun o5 =>
  some (o5, xs1)
  else
  (fX8_refused xs t0).bind fun o6 =>
  some (o6.1, o6.2))
def fX8_flow (xs : SX8) (pa : Int32) (pb : Int32) (pc_ : Int32) (pd : Int32) : Option (Int64 × SX8) :=
  (fX3_isWay (w_net xs) pa).bind fun o1 =>
  (if o1 = (0 : Int32) then
  qX8_flow_16 pa pb pc_ pd (qX8_flow_28 pa pb pc_ pd) xs
  else
  (if pb = pc_ then
  qX8_flow_16 pa pb pc_ pd (qX8_flow_28 pa pb pc_ pd) xs
  else
  (fX8_refusalOfJourney xs pb pc_ pd).bind fun o7 =>
  qX8_flow_28 pa pb pc_ pd xs o7))
set_option maxHeartbeats 4000000 in
set_option maxRecDepth 100000 in
theorem pX8_flow_16 {p : Program} {l : Launch} {e : Env} {s : State} {m : MethodId} {args : Array Value} {below : List Frame} {meth : Method} {c : Code} {g : GG} {w0 : va_W} {a : Nat → Nat} {i : Nat} {pa : Int32} {pb : Int32} {pc_ : Int32} {pd : Int32} {o : (Int64 × SX8)} (X : mX g yX8_flow cX8_flow 8 (some .long) p s m args meth c w0)
  {k28 : SX8 → Int32 → Option (Int64 × SX8)} (K28 : ∀ (xs : SX8) (t0 : Int32) (H : Heap) (locs : List Loc) (ls : Array Slot), k28 xs t0 = some o → mH g s w0 (wX8 g a i xs) H locs → lv_has ls 8 [(0, .ref (a i)), (1, .int pa), (2, .int pb), (3, .int pc_), (4, .int pd)] → W p l e (rM 4 100) s m args below meth c H locs 0 0 (mZ g below args s w0 (wX8 g a i o.2) (some (.long o.1))) (F0 m 28 ls [.int t0])) :
  ∀ (xs : SX8) (H : Heap) (locs : List Loc) (ls : Array Slot), qX8_flow_16 pa pb pc_ pd k28 xs = some o → mH g s w0 (wX8 g a i xs) H locs → lv_has ls 8 [(0, .ref (a i)), (1, .int pa), (2, .int pb), (3, .int pc_), (4, .int pd)] → W p l e (rM 4 100) s m args below meth c H locs 0 0 (mZ g below args s w0 (wX8 g a i o.2) (some (.long o.1))) (F0 m 16 ls []) := by
  have hx := X.1
  have hb := X.2.1
  intro xs H locs ls h hH hl
  unfold qX8_flow_16 at h
  refine lv_iconst (v := (-1 : Int32)) hx hb dX8_flow_16 (by decide) ?_
  refine lv_goto (tgt := 28) hx hb dX8_flow_17 (by decide) ?_
  exact K28 xs (-1 : Int32) H locs ls h hH (lv_sub hl [0, 1, 2, 3, 4] rfl)
set_option maxHeartbeats 4000000 in
set_option maxRecDepth 100000 in
theorem pX8_flow_28 {p : Program} {l : Launch} {e : Env} {s : State} {m : MethodId} {args : Array Value} {below : List Frame} {meth : Method} {c : Code} {g : GG} {w0 : va_W} {a : Nat → Nat} {i : Nat} {pa : Int32} {pb : Int32} {pc_ : Int32} {pd : Int32} {o : (Int64 × SX8)} (X : mX g yX8_flow cX8_flow 8 (some .long) p s m args meth c w0) :
  ∀ (xs : SX8) (t0 : Int32) (H : Heap) (locs : List Loc) (ls : Array Slot), qX8_flow_28 pa pb pc_ pd xs t0 = some o → mH g s w0 (wX8 g a i xs) H locs → lv_has ls 8 [(0, .ref (a i)), (1, .int pa), (2, .int pb), (3, .int pc_), (4, .int pd)] → W p l e (rM 4 100) s m args below meth c H locs 0 0 (mZ g below args s w0 (wX8 g a i o.2) (some (.long o.1))) (F0 m 28 ls [.int t0]) := by
  have hx := X.1
  have hb := X.2.1
  intro xs t0 H locs ls h hH hl
  unfold qX8_flow_28 at h
  refine s_i X (lv' := [(5, .int t0), (0, .ref (a i)), (1, .int pa), (2, .int pb), (3, .int pc_), (4, .int pd)]) hl rfl dX8_flow_28 (by decide) rfl (fun ls hl => ?_)
  refine lv_iload hx hb dX8_flow_30 (lv_at hl 0 rfl) ?_
  refine lv_if_eq (tgt := 42) hx hb dX8_flow_32 (by decide) (fun c2 => ?_) (fun c2 => ?_)
  · have h := it_x h c2
    refine lv_aload_n hx hb dX8_flow_42 rfl (lv_at hl 1 rfl) ?_
    refine f_get X hH 0 rfl rfl 4 (by decide) inX8 fX8_29 rfl dX8_flow_43 ?_
    refine lv_aload_n hx hb dX8_flow_46 rfl (lv_at hl 1 rfl) ?_
    refine f_get X hH 0 rfl rfl 0 (by decide) inX8 fX8_10 rfl dX8_flow_47 ?_
    refine lv_aload_n hx hb dX8_flow_50 rfl (lv_at hl 1 rfl) ?_
    refine f_get X hH 0 rfl rfl 0 (by decide) inX8 fX8_10 rfl dX8_flow_51 ?_
    obtain ⟨o2, ho2, h⟩ := bd_x h
    refine r_V X hH (ws1 := (wX8 g a i xs)) (As := []) (rest := [.ref (a (i + 1)), .ref (a (i + 22))]) (st1 := [.int o2, .ref (a (i + 1)), .ref (a (i + 22))]) (uX3_allWays (a := a) (i := (i + 1)) ho2) kX3_allWays mX8_157 iX3_allWays vX3_allWays zX3 okX3_allWays ⟨Nat.le_of_ble_eq_true rfl, Nat.le_of_ble_eq_true rfl⟩ rfl rfl (q0 := 1) rfl rfl (bX8_1) (bX8_1) rfl hl.1 rfl (Nat.le_of_ble_eq_true rfl) ⟨Nat.le_refl 0, Nat.le_refl 0⟩ rfl dX8_flow_54 (fun H locs hH => ?_)
    refine lv_iload_n hx hb dX8_flow_57 rfl (lv_at hl 3 rfl) ?_
    refine lv_iload_n hx hb dX8_flow_58 rfl (lv_at hl 4 rfl) ?_
    obtain ⟨o3, ho3, h⟩ := bd_x h
    obtain ⟨xs1, exs1, h⟩ := ltt_x h
    refine r_V X hH (ws1 := (wX8 g a i xs1)) (As := [.ref (a (i + 1)), .int o2, .int pb, .int pc_]) (rest := []) (st1 := []) (uX0_currentTo (a := a) (i := (i + 22)) (b := a) (j := (i + 1)) ho3) kX0_currentTo mX8_193 iX0_currentTo vX0_currentTo zX0 okX0_currentTo ⟨Nat.le_of_ble_eq_true rfl, Nat.le_of_ble_eq_true rfl⟩ rfl rfl (q0 := 22) rfl rfl (pm_2 (bX8_4) (bX8_4_1)) (by rw [exs1]; exact (pm_2 (bX8_4) (bX8_4_1))) rfl hl.1 rfl (Nat.le_of_ble_eq_true rfl) ⟨Nat.le_refl 0, Nat.le_refl 0⟩ rfl dX8_flow_59 (fun H locs hH => ?_)
    refine lv_aload_n hx hb dX8_flow_62 rfl (lv_at hl 1 rfl) ?_
    refine f_get X hH 0 rfl rfl 4 (by decide) inX8 fX8_29 rfl dX8_flow_63 ?_
    refine f_get X hH 22 rfl rfl 0 (by decide) inX0 fX8_175 rfl dX8_flow_66 ?_
    refine lv_aload_n hx hb dX8_flow_69 rfl (lv_at hl 1 rfl) ?_
    refine f_get X hH 0 rfl rfl 0 (by decide) inX8 fX8_10 rfl dX8_flow_70 ?_
    refine f_get X hH 1 rfl rfl 2 (by decide) inX3 fX8_130 rfl dX8_flow_73 ?_
    refine lv_iload_n hx hb dX8_flow_76 rfl (lv_at hl 2 rfl) ?_
    obtain ⟨j1, ej1, hinj1, h⟩ := ga_x h
    refine a_il X hH 2 rfl hinj1 ej1 dX8_flow_77 ?_
    obtain ⟨j2, ej2, hinj2, h⟩ := ga_x h
    refine a_ll X hH 23 rfl hinj2 ej2 dX8_flow_78 ?_
    refine lv_aload_n hx hb dX8_flow_79 rfl (lv_at hl 1 rfl) ?_
    refine f_get X hH 0 rfl rfl 4 (by decide) inX8 fX8_29 rfl dX8_flow_80 ?_
    refine f_get X hH 22 rfl rfl 0 (by decide) inX0 fX8_175 rfl dX8_flow_83 ?_
    refine lv_aload_n hx hb dX8_flow_86 rfl (lv_at hl 1 rfl) ?_
    refine f_get X hH 0 rfl rfl 0 (by decide) inX8 fX8_10 rfl dX8_flow_87 ?_
    refine f_get X hH 1 rfl rfl 3 (by decide) inX3 fX8_133 rfl dX8_flow_90 ?_
    refine lv_iload_n hx hb dX8_flow_93 rfl (lv_at hl 2 rfl) ?_
    obtain ⟨j3, ej3, hinj3, h⟩ := ga_x h
    refine a_il X hH 3 rfl hinj3 ej3 dX8_flow_94 ?_
    obtain ⟨j4, ej4, hinj4, h⟩ := ga_x h
    refine a_ll X hH 23 rfl hinj4 ej4 dX8_flow_95 ?_
    refine lv_lsub hx hb dX8_flow_96 ?_
    obtain ⟨v1, ev1, h⟩ := ltt_x h
    refine s_l X (lv' := [(6, .long v1), (5, .int t0), (0, .ref (a i)), (1, .int pa), (2, .int pb), (3, .int pc_), (4, .int pd)]) hl ev1 dX8_flow_97 (by decide) rfl (fun ls hl => ?_)
    refine lv_aload_n hx hb dX8_flow_99 rfl (lv_at hl 2 rfl) ?_
    refine f_get X hH 0 rfl rfl 0 (by decide) inX8 fX8_10 rfl dX8_flow_100 ?_
    refine lv_iload_n hx hb dX8_flow_103 rfl (lv_at hl 3 rfl) ?_
    obtain ⟨o4, ho4, h⟩ := bd_x h
    refine r_V X hH (ws1 := (wX8 g a i xs1)) (As := [.int pa]) (rest := []) (st1 := [.int o4]) (uX3_weight (a := a) (i := (i + 1)) ho4) kX3_weight mX8_148 iX3_weight vX3_weight zX3 okX3_weight ⟨Nat.le_of_ble_eq_true rfl, Nat.le_of_ble_eq_true rfl⟩ rfl rfl (q0 := 1) rfl rfl (bX8_1) (bX8_1) rfl hl.1 rfl (Nat.le_of_ble_eq_true rfl) ⟨Nat.le_refl 0, Nat.le_refl 0⟩ rfl dX8_flow_104 (fun H locs hH => ?_)
    refine lv_i2l hx hb dX8_flow_107 rfl ?_
    refine lv_lload hx hb dX8_flow_108 (lv_at hl 0 rfl) ?_
    refine lv_lmul hx hb dX8_flow_110 ?_
    refine lv_aload_n hx hb dX8_flow_111 rfl (lv_at hl 2 rfl) ?_
    refine f_get X hH 0 rfl rfl 4 (by decide) inX8 fX8_29 rfl dX8_flow_112 ?_
    refine f_get X hH 22 rfl rfl 1 (by decide) inX0 fX8_178 rfl dX8_flow_115 ?_
    refine lv_iload hx hb dX8_flow_118 (lv_at hl 6 rfl) ?_
    obtain ⟨o5, ho5, h⟩ := bd_x h
    refine r_S X hH (ws1 := (wX8 g a i xs1)) (As := [.long ((o4.toInt64) * v1), .long (eq_below (w_equations xs1)), .int pd]) (rest := []) (st1 := [.long o5]) (uX8_leastTerms  ho5) kX8_leastTerms mX8_182 sX8_leastTerms zX8 okX8_leastTerms ⟨Nat.le_of_ble_eq_true rfl, Nat.le_of_ble_eq_true rfl⟩ rfl rfl (pm_none _) (pm_none _) rfl hl.1 rfl (Nat.le_of_ble_eq_true rfl) ⟨Nat.le_refl 0, Nat.le_refl 0⟩ rfl dX8_flow_120 (fun H locs hH => ?_)
    have h := Option.some.inj h
    subst h
    exact e_l X hH dX8_flow_123
  · have h := ie_x h c2
    refine lv_aload_n hx hb dX8_flow_35 rfl (lv_at hl 1 rfl) ?_
    refine lv_iload hx hb dX8_flow_36 (lv_at hl 0 rfl) ?_
    obtain ⟨o6, ho6, h⟩ := bd_x h
    refine r_V X hH (ws1 := (wX8 g a i o6.2)) (As := [.int t0]) (rest := []) (st1 := [.long o6.1]) (uX8_refused (a := a) (i := i) ho6) kX8_refused mX8_167 iX8_refused vX8_refused zX8 okX8_refused ⟨Nat.le_of_ble_eq_true rfl, Nat.le_of_ble_eq_true rfl⟩ rfl rfl (q0 := 0) rfl rfl (pm_all _) (pm_all _) rfl hl.1 rfl (Nat.le_of_ble_eq_true rfl) ⟨Nat.le_refl 0, Nat.le_refl 0⟩ rfl dX8_flow_38 (fun H locs hH => ?_)
    have h := Option.some.inj h
    subst h
    exact e_l X hH dX8_flow_41
set_option maxHeartbeats 4000000 in
set_option maxRecDepth 100000 in
theorem uX8_flow {l : Launch} {g : GG} {a : Nat → Nat} {i : Nat} {xs : SX8} {pa : Int32} {pb : Int32} {pc_ : Int32} {pd : Int32} {o : (Int64 × SX8)} (h : fX8_flow xs pa pb pc_ pd = some o) : mC l g yX8_flow cX8_flow 8 (some .long) (rM 4 100) [.ref (a i), .int pa, .int pb, .int pc_, .int pd] (wX8 g a i xs) (wX8 g a i o.2) (some (.long o.1)) := by
  refine mC.ofW (by decide) (fun p e s m below meth c X hH ls _ hl => ?_) (Nat.le_of_ble_eq_true rfl)
  have hx := X.1
  have hb := X.2.1
  have hl : lv_has ls 8 [(0, .ref (a i)), (1, .int pa), (2, .int pb), (3, .int pc_), (4, .int pd)] := hl
  unfold fX8_flow at h
  suffices HH : ∀ (H : Heap) (locs : List Loc), mH g s (wX8 g a i xs) (wX8 g a i xs) H locs → W p l e (rM 4 100) s m _ below meth c H locs 0 0 (mZ g below _ s (wX8 g a i xs) (wX8 g a i o.2) (some (.long o.1))) (F0 m 0 ls []) from HH _ _ hH
  clear hH
  intro H locs hH
  refine lv_aload_n hx hb dX8_flow_0 rfl (lv_at hl 0 rfl) ?_
  refine f_get X hH 0 rfl rfl 0 (by decide) inX8 fX8_10 rfl dX8_flow_1 ?_
  refine lv_iload_n hx hb dX8_flow_4 rfl (lv_at hl 1 rfl) ?_
  obtain ⟨o1, ho1, h⟩ := bd_x h
  refine r_V X hH (ws1 := (wX8 g a i xs)) (As := [.int pa]) (rest := []) (st1 := [.int o1]) (uX3_isWay (a := a) (i := (i + 1)) ho1) kX3_isWay mX8_126 iX3_isWay vX3_isWay zX3 okX3_isWay ⟨Nat.le_of_ble_eq_true rfl, Nat.le_of_ble_eq_true rfl⟩ rfl rfl (q0 := 1) rfl rfl (bX8_1) (bX8_1) rfl hl.1 rfl (Nat.le_of_ble_eq_true rfl) ⟨Nat.le_refl 0, Nat.le_refl 0⟩ rfl dX8_flow_5 (fun H locs hH => ?_)
  refine lv_if_eq (tgt := 16) hx hb dX8_flow_8 (by decide) (fun c1 => ?_) (fun c1 => ?_)
  · have h := it_x h c1
    exact pX8_flow_16 X (pX8_flow_28 X ) xs H locs ls h hH (lv_sub hl [0, 1, 2, 3, 4] rfl)
  · have h := ie_x h c1
    refine lv_iload_n hx hb dX8_flow_11 rfl (lv_at hl 2 rfl) ?_
    refine lv_iload_n hx hb dX8_flow_12 rfl (lv_at hl 3 rfl) ?_
    refine lv_icmp_ne (tgt := 20) hx hb dX8_flow_13 (by decide) (fun c3 => ?_) (fun c3 => ?_)
    · have h := ie_x h c3
      refine lv_aload_n hx hb dX8_flow_20 rfl (lv_at hl 0 rfl) ?_
      refine lv_iload_n hx hb dX8_flow_21 rfl (lv_at hl 2 rfl) ?_
      refine lv_iload_n hx hb dX8_flow_22 rfl (lv_at hl 3 rfl) ?_
      refine lv_iload hx hb dX8_flow_23 (lv_at hl 4 rfl) ?_
      obtain ⟨o7, ho7, h⟩ := bd_x h
      refine r_V X hH (ws1 := (wX8 g a i xs)) (As := [.int pb, .int pc_, .int pd]) (rest := []) (st1 := [.int o7]) (uX8_refusalOfJourney (a := a) (i := i) ho7) kX8_refusalOfJourney mX8_164 iX8_refusalOfJourney vX8_refusalOfJourney zX8 okX8_refusalOfJourney ⟨Nat.le_of_ble_eq_true rfl, Nat.le_of_ble_eq_true rfl⟩ rfl rfl (q0 := 0) rfl rfl (pm_all _) (pm_all _) rfl hl.1 rfl (Nat.le_of_ble_eq_true rfl) ⟨Nat.le_refl 0, Nat.le_refl 0⟩ rfl dX8_flow_25 (fun H locs hH => ?_)
      exact pX8_flow_28 X  xs o7 H locs ls h hH (lv_sub hl [0, 1, 2, 3, 4] rfl)
    · have h := it_x h c3
      exact pX8_flow_16 X (pX8_flow_28 X ) xs H locs ls h hH (lv_sub hl [0, 1, 2, 3, 4] rfl)

def fX8_areTwoPoints (xs : SX8) (pa : Int32) (pb : Int32) : Option Int32 :=
  (fX3_isPoint (w_net xs) pa).bind fun o1 =>
  (if o1 = (0 : Int32) then
  some (0 : Int32)
  else
  (fX3_isPoint (w_net xs) pb).bind fun o2 =>
  (if o2 = (0 : Int32) then
  some (0 : Int32)
  else
  (if pa = pb then
  some (0 : Int32)
  else
  some (1 : Int32))))
set_option maxHeartbeats 4000000 in
set_option maxRecDepth 100000 in
theorem uX8_areTwoPoints {l : Launch} {g : GG} {a : Nat → Nat} {i : Nat} {xs : SX8} {pa : Int32} {pb : Int32} {o : Int32} (h : fX8_areTwoPoints xs pa pb = some o) : mC l g yX8_areTwoPoints cX8_areTwoPoints 3 (some .boolean) (rM 1 21) [.ref (a i), .int pa, .int pb] (wX8 g a i xs) (wX8 g a i xs) (some (.int o)) := by
  refine mC.ofW (by decide) (fun p e s m below meth c X hH ls _ hl => ?_) (Nat.le_of_ble_eq_true rfl)
  have hx := X.1
  have hb := X.2.1
  have hl : lv_has ls 3 [(0, .ref (a i)), (1, .int pa), (2, .int pb)] := hl
  unfold fX8_areTwoPoints at h
  suffices HH : ∀ (H : Heap) (locs : List Loc), mH g s (wX8 g a i xs) (wX8 g a i xs) H locs → W p l e (rM 1 21) s m _ below meth c H locs 0 0 (mZ g below _ s (wX8 g a i xs) (wX8 g a i xs) (some (.int o))) (F0 m 0 ls []) from HH _ _ hH
  clear hH
  intro H locs hH
  refine lv_aload_n hx hb dX8_areTwoPoints_0 rfl (lv_at hl 0 rfl) ?_
  refine f_get X hH 0 rfl rfl 0 (by decide) inX8 fX8_10 rfl dX8_areTwoPoints_1 ?_
  refine lv_iload_n hx hb dX8_areTwoPoints_4 rfl (lv_at hl 1 rfl) ?_
  obtain ⟨o1, ho1, h⟩ := bd_x h
  refine r_V X hH (ws1 := (wX8 g a i xs)) (As := [.int pa]) (rest := []) (st1 := [.int o1]) (uX3_isPoint (a := a) (i := (i + 1)) ho1) kX3_isPoint mX8_154 iX3_isPoint vX3_isPoint zX3 okX3_isPoint ⟨Nat.le_of_ble_eq_true rfl, Nat.le_of_ble_eq_true rfl⟩ rfl rfl (q0 := 1) rfl rfl (bX8_1) (bX8_1) rfl hl.1 rfl (Nat.le_of_ble_eq_true rfl) ⟨Nat.le_refl 0, Nat.le_refl 0⟩ rfl dX8_areTwoPoints_5 (fun H locs hH => ?_)
  refine lv_if_eq (tgt := 31) hx hb dX8_areTwoPoints_8 (by decide) (fun c1 => ?_) (fun c1 => ?_)
  · have h := it_x h c1
    refine lv_iconst (v := (0 : Int32)) hx hb dX8_areTwoPoints_31 (by decide) ?_
    have h := Option.some.inj h
    subst h
    exact e_z X hH (Or.inl rfl) dX8_areTwoPoints_32
  · have h := ie_x h c1
    refine lv_aload_n hx hb dX8_areTwoPoints_11 rfl (lv_at hl 0 rfl) ?_
    refine f_get X hH 0 rfl rfl 0 (by decide) inX8 fX8_10 rfl dX8_areTwoPoints_12 ?_
    refine lv_iload_n hx hb dX8_areTwoPoints_15 rfl (lv_at hl 2 rfl) ?_
    obtain ⟨o2, ho2, h⟩ := bd_x h
    refine r_V X hH (ws1 := (wX8 g a i xs)) (As := [.int pb]) (rest := []) (st1 := [.int o2]) (uX3_isPoint (a := a) (i := (i + 1)) ho2) kX3_isPoint mX8_154 iX3_isPoint vX3_isPoint zX3 okX3_isPoint ⟨Nat.le_of_ble_eq_true rfl, Nat.le_of_ble_eq_true rfl⟩ rfl rfl (q0 := 1) rfl rfl (bX8_1) (bX8_1) rfl hl.1 rfl (Nat.le_of_ble_eq_true rfl) ⟨Nat.le_refl 0, Nat.le_refl 0⟩ rfl dX8_areTwoPoints_16 (fun H locs hH => ?_)
    refine lv_if_eq (tgt := 31) hx hb dX8_areTwoPoints_19 (by decide) (fun c2 => ?_) (fun c2 => ?_)
    · have h := it_x h c2
      refine lv_iconst (v := (0 : Int32)) hx hb dX8_areTwoPoints_31 (by decide) ?_
      have h := Option.some.inj h
      subst h
      exact e_z X hH (Or.inl rfl) dX8_areTwoPoints_32
    · have h := ie_x h c2
      refine lv_iload_n hx hb dX8_areTwoPoints_22 rfl (lv_at hl 1 rfl) ?_
      refine lv_iload_n hx hb dX8_areTwoPoints_23 rfl (lv_at hl 2 rfl) ?_
      refine lv_icmp_eq (tgt := 31) hx hb dX8_areTwoPoints_24 (by decide) (fun c3 => ?_) (fun c3 => ?_)
      · have h := it_x h c3
        refine lv_iconst (v := (0 : Int32)) hx hb dX8_areTwoPoints_31 (by decide) ?_
        have h := Option.some.inj h
        subst h
        exact e_z X hH (Or.inl rfl) dX8_areTwoPoints_32
      · have h := ie_x h c3
        refine lv_iconst (v := (1 : Int32)) hx hb dX8_areTwoPoints_27 (by decide) ?_
        refine lv_goto (tgt := 32) hx hb dX8_areTwoPoints_28 (by decide) ?_
        have h := Option.some.inj h
        subst h
        exact e_z X hH (Or.inr rfl) dX8_areTwoPoints_32

def fJ13_compare_74951 (pa : Int64) (pb : Int64) : Option Int32 :=
  (if pb ≤ pa then
  (if pa = pb then
  some (0 : Int32)
  else
  some (1 : Int32))
  else
  some (-1 : Int32))
set_option maxHeartbeats 4000000 in
set_option maxRecDepth 100000 in
theorem uJ13_compare_74951 {l : Launch} {g : GG}  {pa : Int64} {pb : Int64} {o : Int32} (h : fJ13_compare_74951 pa pb = some o) : mC l g yJ13_compare_74951 cJ13_compare_74951 4 (some .int) (rM 0 0) [.long pa, .long pb] [] [] (some (.int o)) := by
  refine mC.ofW (by decide) (fun p e s m below meth c X hH ls _ hl => ?_) (Nat.le_of_ble_eq_true rfl)
  have hx := X.1
  have hb := X.2.1
  have hl : lv_has ls 4 [(0, .long pa), (2, .long pb)] := hl
  unfold fJ13_compare_74951 at h
  suffices HH : ∀ (H : Heap) (locs : List Loc), mH g s [] [] H locs → W p l e (rM 0 0) s m _ below meth c H locs 0 0 (mZ g below _ s [] [] (some (.int o))) (F0 m 0 ls []) from HH _ _ hH
  clear hH
  intro H locs hH
  refine lv_lload_n hx hb dJ13_compare_74951_0 rfl (lv_at hl 0 rfl) ?_
  refine lv_lload_n hx hb dJ13_compare_74951_1 rfl (lv_at hl 1 rfl) ?_
  refine W.lcmp hx hb dJ13_compare_74951_2 ?_
  refine lv_if_ge (tgt := 10) hx hb dJ13_compare_74951_3 (by decide) (fun c1 => ?_) (fun c1 => ?_)
  · have h := it_x h ((lg_cmp_ge pa pb).mp c1)
    refine lv_lload_n hx hb dJ13_compare_74951_10 rfl (lv_at hl 0 rfl) ?_
    refine lv_lload_n hx hb dJ13_compare_74951_11 rfl (lv_at hl 1 rfl) ?_
    refine W.lcmp hx hb dJ13_compare_74951_12 ?_
    refine lv_if_ne (tgt := 20) hx hb dJ13_compare_74951_13 (by decide) (fun c2 => ?_) (fun c2 => ?_)
    · have h := ie_x h (mt (lg_cmp_eq pa pb).mpr c2)
      refine lv_iconst (v := (1 : Int32)) hx hb dJ13_compare_74951_20 (by decide) ?_
      have h := Option.some.inj h
      subst h
      exact e_i X hH dJ13_compare_74951_21
    · have h := it_x h ((lg_cmp_eq pa pb).mp c2)
      refine lv_iconst (v := (0 : Int32)) hx hb dJ13_compare_74951_16 (by decide) ?_
      refine lv_goto (tgt := 21) hx hb dJ13_compare_74951_17 (by decide) ?_
      have h := Option.some.inj h
      subst h
      exact e_i X hH dJ13_compare_74951_21
  · have h := ie_x h (mt (lg_cmp_ge pa pb).mpr c1)
    refine lv_iconst (v := (-1 : Int32)) hx hb dJ13_compare_74951_6 (by decide) ?_
    refine lv_goto (tgt := 21) hx hb dJ13_compare_74951_7 (by decide) ?_
    have h := Option.some.inj h
    subst h
    exact e_i X hH dJ13_compare_74951_21

def fX8_compare (pa : Int64) (pb : Int64) (pc_ : Int64) (pd : Int64) : Option Int32 :=
  (fX8_over pa pb).bind fun o1 =>
  (fX8_over pc_ pd).bind fun o2 =>
  (if o1 = o2 then
  ltt ((pa - (o1 * pb))) fun v1 =>
  ltt ((pc_ - (o2 * pd))) fun v2 =>
  (fJ13_compare_74951 (v1 * pd) (v2 * pb)).bind fun o3 =>
  some o3
  else
  (fJ13_compare_74951 o1 o2).bind fun o4 =>
  some o4)
set_option maxHeartbeats 4000000 in
set_option maxRecDepth 100000 in
theorem uX8_compare {l : Launch} {g : GG}  {pa : Int64} {pb : Int64} {pc_ : Int64} {pd : Int64} {o : Int32} (h : fX8_compare pa pb pc_ pd = some o) : mC l g yX8_compare cX8_compare 16 (some .int) (rM 1 23) [.long pa, .long pb, .long pc_, .long pd] [] [] (some (.int o)) := by
  refine mC.ofW (by decide) (fun p e s m below meth c X hH ls _ hl => ?_) (Nat.le_of_ble_eq_true rfl)
  have hx := X.1
  have hb := X.2.1
  have hl : lv_has ls 16 [(0, .long pa), (2, .long pb), (4, .long pc_), (6, .long pd)] := hl
  unfold fX8_compare at h
  suffices HH : ∀ (H : Heap) (locs : List Loc), mH g s [] [] H locs → W p l e (rM 1 23) s m _ below meth c H locs 0 0 (mZ g below _ s [] [] (some (.int o))) (F0 m 0 ls []) from HH _ _ hH
  clear hH
  intro H locs hH
  refine lv_lload_n hx hb dX8_compare_0 rfl (lv_at hl 0 rfl) ?_
  refine lv_lload_n hx hb dX8_compare_1 rfl (lv_at hl 1 rfl) ?_
  obtain ⟨o1, ho1, h⟩ := bd_x h
  refine r_S X hH (ws1 := []) (As := [.long pa, .long pb]) (rest := []) (st1 := [.long o1]) (uX8_over  ho1) kX8_over mX8_374 sX8_over zX8 okX8_over ⟨Nat.le_of_ble_eq_true rfl, Nat.le_of_ble_eq_true rfl⟩ rfl rfl (pm_none _) (pm_none _) rfl hl.1 rfl (Nat.le_of_ble_eq_true rfl) ⟨Nat.le_refl 0, Nat.le_refl 0⟩ rfl dX8_compare_2 (fun H locs hH => ?_)
  refine s_l X (lv' := [(8, .long o1), (0, .long pa), (2, .long pb), (4, .long pc_), (6, .long pd)]) hl rfl dX8_compare_5 (by decide) rfl (fun ls hl => ?_)
  refine lv_lload hx hb dX8_compare_7 (lv_at hl 3 rfl) ?_
  refine lv_lload hx hb dX8_compare_9 (lv_at hl 4 rfl) ?_
  obtain ⟨o2, ho2, h⟩ := bd_x h
  refine r_S X hH (ws1 := []) (As := [.long pc_, .long pd]) (rest := []) (st1 := [.long o2]) (uX8_over  ho2) kX8_over mX8_374 sX8_over zX8 okX8_over ⟨Nat.le_of_ble_eq_true rfl, Nat.le_of_ble_eq_true rfl⟩ rfl rfl (pm_none _) (pm_none _) rfl hl.1 rfl (Nat.le_of_ble_eq_true rfl) ⟨Nat.le_refl 0, Nat.le_refl 0⟩ rfl dX8_compare_11 (fun H locs hH => ?_)
  refine s_l X (lv' := [(10, .long o2), (8, .long o1), (0, .long pa), (2, .long pb), (4, .long pc_), (6, .long pd)]) hl rfl dX8_compare_14 (by decide) rfl (fun ls hl => ?_)
  refine lv_lload hx hb dX8_compare_16 (lv_at hl 1 rfl) ?_
  refine lv_lload hx hb dX8_compare_18 (lv_at hl 0 rfl) ?_
  refine W.lcmp hx hb dX8_compare_20 ?_
  refine lv_if_eq (tgt := 32) hx hb dX8_compare_21 (by decide) (fun c1 => ?_) (fun c1 => ?_)
  · have h := it_x h ((lg_cmp_eq o1 o2).mp c1)
    refine lv_lload_n hx hb dX8_compare_32 rfl (lv_at hl 2 rfl) ?_
    refine lv_lload hx hb dX8_compare_33 (lv_at hl 1 rfl) ?_
    refine lv_lload_n hx hb dX8_compare_35 rfl (lv_at hl 3 rfl) ?_
    refine lv_lmul hx hb dX8_compare_36 ?_
    refine lv_lsub hx hb dX8_compare_37 ?_
    obtain ⟨v1, ev1, h⟩ := ltt_x h
    refine s_l X (lv' := [(12, .long v1), (10, .long o2), (8, .long o1), (0, .long pa), (2, .long pb), (4, .long pc_), (6, .long pd)]) hl ev1 dX8_compare_38 (by decide) rfl (fun ls hl => ?_)
    refine lv_lload hx hb dX8_compare_40 (lv_at hl 5 rfl) ?_
    refine lv_lload hx hb dX8_compare_42 (lv_at hl 1 rfl) ?_
    refine lv_lload hx hb dX8_compare_44 (lv_at hl 6 rfl) ?_
    refine lv_lmul hx hb dX8_compare_46 ?_
    refine lv_lsub hx hb dX8_compare_47 ?_
    obtain ⟨v2, ev2, h⟩ := ltt_x h
    refine s_l X (lv' := [(14, .long v2), (12, .long v1), (10, .long o2), (8, .long o1), (0, .long pa), (2, .long pb), (4, .long pc_), (6, .long pd)]) hl ev2 dX8_compare_48 (by decide) rfl (fun ls hl => ?_)
    refine lv_lload hx hb dX8_compare_50 (lv_at hl 1 rfl) ?_
    refine lv_lload hx hb dX8_compare_52 (lv_at hl 7 rfl) ?_
    refine lv_lmul hx hb dX8_compare_54 ?_
    refine lv_lload hx hb dX8_compare_55 (lv_at hl 0 rfl) ?_
    refine lv_lload_n hx hb dX8_compare_57 rfl (lv_at hl 5 rfl) ?_
    refine lv_lmul hx hb dX8_compare_58 ?_
    obtain ⟨o3, ho3, h⟩ := bd_x h
    refine r_S X hH (ws1 := []) (As := [.long (v1 * pd), .long (v2 * pb)]) (rest := []) (st1 := [.int o3]) (uJ13_compare_74951  ho3) kJ13_compare_74951 mX8_377 sJ13_compare_74951 zJ13 okJ13_compare_74951 ⟨Nat.le_of_ble_eq_true rfl, Nat.le_of_ble_eq_true rfl⟩ rfl rfl (pm_none _) (pm_none _) rfl hl.1 rfl (Nat.le_of_ble_eq_true rfl) ⟨Nat.le_refl 0, Nat.le_refl 0⟩ rfl dX8_compare_59 (fun H locs hH => ?_)
    have h := Option.some.inj h
    subst h
    exact e_i X hH dX8_compare_62
  · have h := ie_x h (mt (lg_cmp_eq o1 o2).mpr c1)
    refine lv_lload hx hb dX8_compare_24 (lv_at hl 1 rfl) ?_
    refine lv_lload hx hb dX8_compare_26 (lv_at hl 0 rfl) ?_
    obtain ⟨o4, ho4, h⟩ := bd_x h
    refine r_S X hH (ws1 := []) (As := [.long o1, .long o2]) (rest := []) (st1 := [.int o4]) (uJ13_compare_74951  ho4) kJ13_compare_74951 mX8_377 sJ13_compare_74951 zJ13 okJ13_compare_74951 ⟨Nat.le_of_ble_eq_true rfl, Nat.le_of_ble_eq_true rfl⟩ rfl rfl (pm_none _) (pm_none _) rfl hl.1 rfl (Nat.le_of_ble_eq_true rfl) ⟨Nat.le_refl 0, Nat.le_refl 0⟩ rfl dX8_compare_28 (fun H locs hH => ?_)
    have h := Option.some.inj h
    subst h
    exact e_i X hH dX8_compare_31

def qX8_added_224 (pa : Int32) (pb : Int32) (k256 : SX8 → Int32 → Int64 → Int64 → Int32 → Int32 → Int32 → Int32 → Option (Int32 × SX8)) (xs : SX8) (l9 : Int32) (l10 : Int32) (l11 : Int32) : Option (Int32 × SX8) :=
  ga 6 pa fun j2 =>
  ltt (((eq_above (w_equations xs)) j2)) fun v5 =>
  ltt ((eq_below (w_equations xs))) fun v6 =>
  ltt ((((10 : Int32) * l10) + l11)) fun v7 =>
  k256 xs (1 : Int32) v5 v6 v7 l9 l10 l11
def qX8_added_256 (pa : Int32) (pb : Int32) (k121 : SX8 → Int32 → Int64 → Int64 → Int32 → Int32 → Int32 → Int32 → Option (Int32 × SX8)) (xs : SX8) (l3 : Int32) (l4 : Int64) (l6 : Int64) (l8 : Int32) (l9 : Int32) (l10 : Int32) (l11 : Int32) : Option (Int32 × SX8) :=
  ltt (l11 + (1 : Int32)) fun v8 =>
  k121 xs l3 l4 l6 l8 l9 l10 v8
def qX8_added_121 (pa : Int32) (pb : Int32) (k103 : SX8 → Int32 → Int64 → Int64 → Int32 → Int32 → Int32 → Option (Int32 × SX8)) : Nat → SX8 → Int32 → Int64 → Int64 → Int32 → Int32 → Int32 → Int32 → Option (Int32 × SX8)
  | 0, _, _, _, _, _, _, _, _ => none
  | fu + 1, xs, l3, l4, l6, l8, l9, l10, l11 =>
  (if (n_points (w_net xs)) ≤ l11 then
  ltt (l10 + (1 : Int32)) fun v4 =>
  k103 xs l3 l4 l6 l8 l9 v4
  else
  (fX3_lay (w_trial xs) l9 l10 l11 (1 : Int32) (1 : Int32)).bind fun o9 =>
  ltt ((w_trial_s xs o9)) fun xs4 =>
  (fX3_allWays (w_trial xs4)).bind fun o10 =>
  (fX3_reached (w_trial xs4) ((1 : Int32) <<< (pa &&& 31)) o10).bind fun o11 =>
  (fX8_has o11 pb).bind fun o12 =>
  (if o12 = (0 : Int32) then
  qX8_added_256 pa pb (qX8_added_121 pa pb k103 fu) xs4 l3 l4 l6 l8 l9 l10 l11
  else
  (fX3_allWays (w_trial xs4)).bind fun o13 =>
  (fX0_timesTo (w_equations xs4) (w_trial xs4) o13 pb).bind fun o14 =>
  ltt ((w_equations_s xs4 o14)) fun xs5 =>
  (if l3 = (0 : Int32) then
  qX8_added_224 pa pb (qX8_added_256 pa pb (qX8_added_121 pa pb k103 fu)) xs5 l9 l10 l11
  else
  ga 6 pa fun j3 =>
  (fX8_compare ((eq_above (w_equations xs5)) j3) (eq_below (w_equations xs5)) l4 l6).bind fun o15 =>
  (if (0 : Int32) ≤ o15 then
  qX8_added_256 pa pb (qX8_added_121 pa pb k103 fu) xs5 l3 l4 l6 l8 l9 l10 l11
  else
  qX8_added_224 pa pb (qX8_added_256 pa pb (qX8_added_121 pa pb k103 fu)) xs5 l9 l10 l11))))
def qX8_added_103 (pa : Int32) (pb : Int32)  : Nat → SX8 → Int32 → Int64 → Int64 → Int32 → Int32 → Int32 → Option (Int32 × SX8)
  | 0, _, _, _, _, _, _, _ => none
  | fu + 1, xs, l3, l4, l6, l8, l9, l10 =>
  (if (n_points (w_net xs)) ≤ l10 then
  some (l8, xs)
  else
  ltt ((l10 + (1 : Int32))) fun v3 =>
  qX8_added_121 pa pb (qX8_added_103 pa pb  fu) FU xs l3 l4 l6 l8 l9 l10 v3)
def fX8_added (xs : SX8) (pa : Int32) (pb : Int32) : Option (Int32 × SX8) :=
  (fX8_areTwoPoints xs pa pb).bind fun o1 =>
  (if o1 = (0 : Int32) then
  (fX8_counted xs (-1 : Int32)).bind fun o16 =>
  some (o16.1, o16.2)
  else
  (fX3_allWays (w_net xs)).bind fun o2 =>
  (fX3_reached (w_net xs) ((1 : Int32) <<< (pa &&& 31)) o2).bind fun o3 =>
  (fX8_has o3 pb).bind fun o4 =>
  (fX3_allWays (w_net xs)).bind fun o5 =>
  (fX0_timesTo (w_equations xs) (w_net xs) o5 pb).bind fun o6 =>
  ltt ((w_equations_s xs o6)) fun xs1 =>
  ga 6 pa fun j1 =>
  ltt (((eq_above (w_equations xs1)) j1)) fun v1 =>
  ltt ((eq_below (w_equations xs1))) fun v2 =>
  (fX3_copy (w_trial xs1) (w_net xs1)).bind fun o7 =>
  ltt ((w_trial_s xs1 o7)) fun xs2 =>
  (fX3_more (w_trial xs2)).bind fun o8 =>
  ltt ((w_trial_s xs2 o8.2)) fun xs3 =>
  qX8_added_103 pa pb FU xs3 o4 v1 v2 (-9 : Int32) o8.1 (0 : Int32))
set_option maxHeartbeats 4000000 in
set_option maxRecDepth 100000 in
theorem pX8_added_224 {p : Program} {l : Launch} {e : Env} {s : State} {m : MethodId} {args : Array Value} {below : List Frame} {meth : Method} {c : Code} {g : GG} {w0 : va_W} {a : Nat → Nat} {i : Nat} {pa : Int32} {pb : Int32} {o : (Int32 × SX8)} (X : mX g yX8_added cX8_added 12 (some .int) p s m args meth c w0)
  {k256 : SX8 → Int32 → Int64 → Int64 → Int32 → Int32 → Int32 → Int32 → Option (Int32 × SX8)} (K256 : ∀ (xs : SX8) (l3 : Int32) (l4 : Int64) (l6 : Int64) (l8 : Int32) (l9 : Int32) (l10 : Int32) (l11 : Int32) (H : Heap) (locs : List Loc) (ls : Array Slot), k256 xs l3 l4 l6 l8 l9 l10 l11 = some o → mH g s w0 (wX8 g a i xs) H locs → lv_has ls 12 [(0, .ref (a i)), (1, .int pa), (2, .int pb), (3, .int l3), (4, .long l4), (6, .long l6), (8, .int l8), (9, .int l9), (10, .int l10), (11, .int l11)] → W p l e (rM 4 102) s m args below meth c H locs 0 0 (mZ g below args s w0 (wX8 g a i o.2) (some (.int o.1))) (F0 m 256 ls [])) :
  ∀ (xs : SX8) (l9 : Int32) (l10 : Int32) (l11 : Int32) (H : Heap) (locs : List Loc) (ls : Array Slot), qX8_added_224 pa pb k256 xs l9 l10 l11 = some o → mH g s w0 (wX8 g a i xs) H locs → lv_has ls 12 [(0, .ref (a i)), (1, .int pa), (2, .int pb), (9, .int l9), (10, .int l10), (11, .int l11)] → W p l e (rM 4 102) s m args below meth c H locs 0 0 (mZ g below args s w0 (wX8 g a i o.2) (some (.int o.1))) (F0 m 224 ls []) := by
  have hx := X.1
  have hb := X.2.1
  intro xs l9 l10 l11 H locs ls h hH hl
  unfold qX8_added_224 at h
  refine lv_iconst (v := (1 : Int32)) hx hb dX8_added_224 (by decide) ?_
  refine s_in X (lv' := [(3, .int (1 : Int32)), (0, .ref (a i)), (1, .int pa), (2, .int pb), (9, .int l9), (10, .int l10), (11, .int l11)]) hl rfl dX8_added_225 rfl (by decide) rfl (fun ls hl => ?_)
  refine lv_aload_n hx hb dX8_added_226 rfl (lv_at hl 1 rfl) ?_
  refine f_get X hH 0 rfl rfl 4 (by decide) inX8 fX8_29 rfl dX8_added_227 ?_
  refine f_get X hH 22 rfl rfl 0 (by decide) inX0 fX8_175 rfl dX8_added_230 ?_
  refine lv_iload_n hx hb dX8_added_233 rfl (lv_at hl 2 rfl) ?_
  obtain ⟨j2, ej2, hinj2, h⟩ := ga_x h
  refine a_ll X hH 23 rfl hinj2 ej2 dX8_added_234 ?_
  obtain ⟨v5, ev5, h⟩ := ltt_x h
  refine s_l X (lv' := [(4, .long v5), (3, .int (1 : Int32)), (0, .ref (a i)), (1, .int pa), (2, .int pb), (9, .int l9), (10, .int l10), (11, .int l11)]) hl ev5 dX8_added_235 (by decide) rfl (fun ls hl => ?_)
  refine lv_aload_n hx hb dX8_added_237 rfl (lv_at hl 2 rfl) ?_
  refine f_get X hH 0 rfl rfl 4 (by decide) inX8 fX8_29 rfl dX8_added_238 ?_
  refine f_get X hH 22 rfl rfl 1 (by decide) inX0 fX8_178 rfl dX8_added_241 ?_
  obtain ⟨v6, ev6, h⟩ := ltt_x h
  refine s_l X (lv' := [(6, .long v6), (4, .long v5), (3, .int (1 : Int32)), (0, .ref (a i)), (1, .int pa), (2, .int pb), (9, .int l9), (10, .int l10), (11, .int l11)]) hl ev6 dX8_added_244 (by decide) rfl (fun ls hl => ?_)
  refine lv_bipush (v := (10 : Int32)) hx hb dX8_added_246 (by decide) ?_
  refine lv_iload hx hb dX8_added_248 (lv_at hl 7 rfl) ?_
  refine lv_imul hx hb dX8_added_250 ?_
  refine lv_iload hx hb dX8_added_251 (lv_at hl 8 rfl) ?_
  refine lv_iadd hx hb dX8_added_253 ?_
  obtain ⟨v7, ev7, h⟩ := ltt_x h
  refine s_i X (lv' := [(8, .int v7), (6, .long v6), (4, .long v5), (3, .int (1 : Int32)), (0, .ref (a i)), (1, .int pa), (2, .int pb), (9, .int l9), (10, .int l10), (11, .int l11)]) hl ev7 dX8_added_254 (by decide) rfl (fun ls hl => ?_)
  exact K256 xs (1 : Int32) v5 v6 v7 l9 l10 l11 H locs ls h hH (lv_sub hl [4, 5, 6, 3, 2, 1, 0, 7, 8, 9] rfl)
set_option maxHeartbeats 4000000 in
set_option maxRecDepth 100000 in
theorem pX8_added_256 {p : Program} {l : Launch} {e : Env} {s : State} {m : MethodId} {args : Array Value} {below : List Frame} {meth : Method} {c : Code} {g : GG} {w0 : va_W} {a : Nat → Nat} {i : Nat} {pa : Int32} {pb : Int32} {o : (Int32 × SX8)} (X : mX g yX8_added cX8_added 12 (some .int) p s m args meth c w0)
  {k121 : SX8 → Int32 → Int64 → Int64 → Int32 → Int32 → Int32 → Int32 → Option (Int32 × SX8)} (K121 : ∀ (xs : SX8) (l3 : Int32) (l4 : Int64) (l6 : Int64) (l8 : Int32) (l9 : Int32) (l10 : Int32) (l11 : Int32) (H : Heap) (locs : List Loc) (ls : Array Slot), k121 xs l3 l4 l6 l8 l9 l10 l11 = some o → mH g s w0 (wX8 g a i xs) H locs → lv_has ls 12 [(0, .ref (a i)), (1, .int pa), (2, .int pb), (3, .int l3), (4, .long l4), (6, .long l6), (8, .int l8), (9, .int l9), (10, .int l10), (11, .int l11)] → W p l e (rM 4 102) s m args below meth c H locs 0 0 (mZ g below args s w0 (wX8 g a i o.2) (some (.int o.1))) (F0 m 121 ls [])) :
  ∀ (xs : SX8) (l3 : Int32) (l4 : Int64) (l6 : Int64) (l8 : Int32) (l9 : Int32) (l10 : Int32) (l11 : Int32) (H : Heap) (locs : List Loc) (ls : Array Slot), qX8_added_256 pa pb k121 xs l3 l4 l6 l8 l9 l10 l11 = some o → mH g s w0 (wX8 g a i xs) H locs → lv_has ls 12 [(0, .ref (a i)), (1, .int pa), (2, .int pb), (3, .int l3), (4, .long l4), (6, .long l6), (8, .int l8), (9, .int l9), (10, .int l10), (11, .int l11)] → W p l e (rM 4 102) s m args below meth c H locs 0 0 (mZ g below args s w0 (wX8 g a i o.2) (some (.int o.1))) (F0 m 256 ls []) := by
  have hx := X.1
  have hb := X.2.1
  intro xs l3 l4 l6 l8 l9 l10 l11 H locs ls h hH hl
  unfold qX8_added_256 at h
  obtain ⟨v8, ev8, h⟩ := ltt_x h
  refine s_inc X (k := 9) (lv' := [(11, .int v8), (0, .ref (a i)), (1, .int pa), (2, .int pb), (3, .int l3), (4, .long l4), (6, .long l6), (8, .int l8), (9, .int l9), (10, .int l10)]) hl rfl (by rw [ev8]; rfl) dX8_added_256 (by decide) rfl (fun ls hl => ?_)
  refine lv_goto (tgt := 121) hx hb dX8_added_259 (by decide) ?_
  exact K121 xs l3 l4 l6 l8 l9 l10 v8 H locs ls h hH (lv_sub hl [1, 2, 3, 4, 5, 6, 7, 8, 9, 0] rfl)
set_option maxHeartbeats 4000000 in
set_option maxRecDepth 100000 in
theorem pX8_added_121 {p : Program} {l : Launch} {e : Env} {s : State} {m : MethodId} {args : Array Value} {below : List Frame} {meth : Method} {c : Code} {g : GG} {w0 : va_W} {a : Nat → Nat} {i : Nat} {pa : Int32} {pb : Int32} {o : (Int32 × SX8)} (X : mX g yX8_added cX8_added 12 (some .int) p s m args meth c w0)
  {k103 : SX8 → Int32 → Int64 → Int64 → Int32 → Int32 → Int32 → Option (Int32 × SX8)} (K103 : ∀ (xs : SX8) (l3 : Int32) (l4 : Int64) (l6 : Int64) (l8 : Int32) (l9 : Int32) (l10 : Int32) (H : Heap) (locs : List Loc) (ls : Array Slot), k103 xs l3 l4 l6 l8 l9 l10 = some o → mH g s w0 (wX8 g a i xs) H locs → lv_has ls 12 [(0, .ref (a i)), (1, .int pa), (2, .int pb), (3, .int l3), (4, .long l4), (6, .long l6), (8, .int l8), (9, .int l9), (10, .int l10)] → W p l e (rM 4 102) s m args below meth c H locs 0 0 (mZ g below args s w0 (wX8 g a i o.2) (some (.int o.1))) (F0 m 103 ls [])) :
  ∀ (fu : Nat) (xs : SX8) (l3 : Int32) (l4 : Int64) (l6 : Int64) (l8 : Int32) (l9 : Int32) (l10 : Int32) (l11 : Int32) (H : Heap) (locs : List Loc) (ls : Array Slot), qX8_added_121 pa pb k103 fu xs l3 l4 l6 l8 l9 l10 l11 = some o → mH g s w0 (wX8 g a i xs) H locs → lv_has ls 12 [(0, .ref (a i)), (1, .int pa), (2, .int pb), (3, .int l3), (4, .long l4), (6, .long l6), (8, .int l8), (9, .int l9), (10, .int l10), (11, .int l11)] → W p l e (rM 4 102) s m args below meth c H locs 0 0 (mZ g below args s w0 (wX8 g a i o.2) (some (.int o.1))) (F0 m 121 ls []) := by
  have hx := X.1
  have hb := X.2.1
  intro fu
  induction fu with
  | zero =>
    intro xs l3 l4 l6 l8 l9 l10 l11 H locs ls h
    unfold qX8_added_121 at h
    cases h
  | succ fu ih =>
    intro xs l3 l4 l6 l8 l9 l10 l11 H locs ls h hH hl
    unfold qX8_added_121 at h
    refine lv_iload hx hb dX8_added_121 (lv_at hl 9 rfl) ?_
    refine lv_aload_n hx hb dX8_added_123 rfl (lv_at hl 0 rfl) ?_
    refine f_get X hH 0 rfl rfl 0 (by decide) inX8 fX8_10 rfl dX8_added_124 ?_
    refine f_get X hH 1 rfl rfl 0 (by decide) inX3 fX8_216 rfl dX8_added_127 ?_
    refine lv_icmp_ge (tgt := 262) hx hb dX8_added_130 (by decide) (fun c3 => ?_) (fun c3 => ?_)
    · have h := it_x h c3
      obtain ⟨v4, ev4, h⟩ := ltt_x h
      refine s_inc X (k := 8) (lv' := [(10, .int v4), (0, .ref (a i)), (1, .int pa), (2, .int pb), (3, .int l3), (4, .long l4), (6, .long l6), (8, .int l8), (9, .int l9), (11, .int l11)]) hl rfl (by rw [ev4]; rfl) dX8_added_262 (by decide) rfl (fun ls hl => ?_)
      refine lv_goto (tgt := 103) hx hb dX8_added_265 (by decide) ?_
      exact K103 xs l3 l4 l6 l8 l9 v4 H locs ls h hH (lv_sub hl [1, 2, 3, 4, 5, 6, 7, 8, 0] rfl)
    · have h := ie_x h c3
      refine lv_aload_n hx hb dX8_added_133 rfl (lv_at hl 0 rfl) ?_
      refine f_get X hH 0 rfl rfl 1 (by decide) inX8 fX8_16 rfl dX8_added_134 ?_
      refine lv_iload hx hb dX8_added_137 (lv_at hl 7 rfl) ?_
      refine lv_iload hx hb dX8_added_139 (lv_at hl 8 rfl) ?_
      refine lv_iload hx hb dX8_added_141 (lv_at hl 9 rfl) ?_
      refine lv_iconst (v := (1 : Int32)) hx hb dX8_added_143 (by decide) ?_
      refine lv_iconst (v := (1 : Int32)) hx hb dX8_added_144 (by decide) ?_
      obtain ⟨o9, ho9, h⟩ := bd_x h
      obtain ⟨xs4, exs4, h⟩ := ltt_x h
      refine r_V X hH (ws1 := (wX8 g a i xs4)) (As := [.int l9, .int l10, .int l11, .int (1 : Int32), .int (1 : Int32)]) (rest := []) (st1 := []) (uX3_lay (a := a) (i := (i + 8)) ho9) kX3_lay mX8_219 iX3_lay vX3_lay zX3 okX3_lay ⟨Nat.le_of_ble_eq_true rfl, Nat.le_of_ble_eq_true rfl⟩ rfl rfl (q0 := 8) rfl rfl (bX8_2) (by rw [exs4]; exact (bX8_2)) rfl hl.1 rfl (Nat.le_of_ble_eq_true rfl) ⟨Nat.le_refl 0, Nat.le_refl 0⟩ rfl dX8_added_145 (fun H locs hH => ?_)
      refine lv_aload_n hx hb dX8_added_148 rfl (lv_at hl 0 rfl) ?_
      refine f_get X hH 0 rfl rfl 1 (by decide) inX8 fX8_16 rfl dX8_added_149 ?_
      refine lv_iconst (v := (1 : Int32)) hx hb dX8_added_152 (by decide) ?_
      refine lv_iload_n hx hb dX8_added_153 rfl (lv_at hl 1 rfl) ?_
      refine lv_ishl hx hb dX8_added_154 ?_
      refine lv_aload_n hx hb dX8_added_155 rfl (lv_at hl 0 rfl) ?_
      refine f_get X hH 0 rfl rfl 1 (by decide) inX8 fX8_16 rfl dX8_added_156 ?_
      obtain ⟨o10, ho10, h⟩ := bd_x h
      refine r_V X hH (ws1 := (wX8 g a i xs4)) (As := []) (rest := [.int ((1 : Int32) <<< (pa &&& 31)), .ref (a (i + 8))]) (st1 := [.int o10, .int ((1 : Int32) <<< (pa &&& 31)), .ref (a (i + 8))]) (uX3_allWays (a := a) (i := (i + 8)) ho10) kX3_allWays mX8_157 iX3_allWays vX3_allWays zX3 okX3_allWays ⟨Nat.le_of_ble_eq_true rfl, Nat.le_of_ble_eq_true rfl⟩ rfl rfl (q0 := 8) rfl rfl (bX8_2) (bX8_2) rfl hl.1 rfl (Nat.le_of_ble_eq_true rfl) ⟨Nat.le_refl 0, Nat.le_refl 0⟩ rfl dX8_added_159 (fun H locs hH => ?_)
      obtain ⟨o11, ho11, h⟩ := bd_x h
      refine r_V X hH (ws1 := (wX8 g a i xs4)) (As := [.int ((1 : Int32) <<< (pa &&& 31)), .int o10]) (rest := []) (st1 := [.int o11]) (uX3_reached (a := a) (i := (i + 8)) ho11) kX3_reached mX8_161 iX3_reached vX3_reached zX3 okX3_reached ⟨Nat.le_of_ble_eq_true rfl, Nat.le_of_ble_eq_true rfl⟩ rfl rfl (q0 := 8) rfl rfl (bX8_2) (bX8_2) rfl hl.1 rfl (Nat.le_of_ble_eq_true rfl) ⟨Nat.le_refl 0, Nat.le_refl 0⟩ rfl dX8_added_162 (fun H locs hH => ?_)
      refine lv_iload_n hx hb dX8_added_165 rfl (lv_at hl 2 rfl) ?_
      obtain ⟨o12, ho12, h⟩ := bd_x h
      refine r_S X hH (ws1 := (wX8 g a i xs4)) (As := [.int o11, .int pb]) (rest := []) (st1 := [.int o12]) (uX8_has  ho12) kX8_has mX8_203 sX8_has zX8 okX8_has ⟨Nat.le_of_ble_eq_true rfl, Nat.le_of_ble_eq_true rfl⟩ rfl rfl (pm_none _) (pm_none _) rfl hl.1 rfl (Nat.le_of_ble_eq_true rfl) ⟨Nat.le_refl 0, Nat.le_refl 0⟩ rfl dX8_added_166 (fun H locs hH => ?_)
      refine lv_if_ne (tgt := 175) hx hb dX8_added_169 (by decide) (fun c4 => ?_) (fun c4 => ?_)
      · have h := ie_x h c4
        refine lv_aload_n hx hb dX8_added_175 rfl (lv_at hl 0 rfl) ?_
        refine f_get X hH 0 rfl rfl 4 (by decide) inX8 fX8_29 rfl dX8_added_176 ?_
        refine lv_aload_n hx hb dX8_added_179 rfl (lv_at hl 0 rfl) ?_
        refine f_get X hH 0 rfl rfl 1 (by decide) inX8 fX8_16 rfl dX8_added_180 ?_
        refine lv_aload_n hx hb dX8_added_183 rfl (lv_at hl 0 rfl) ?_
        refine f_get X hH 0 rfl rfl 1 (by decide) inX8 fX8_16 rfl dX8_added_184 ?_
        obtain ⟨o13, ho13, h⟩ := bd_x h
        refine r_V X hH (ws1 := (wX8 g a i xs4)) (As := []) (rest := [.ref (a (i + 8)), .ref (a (i + 22))]) (st1 := [.int o13, .ref (a (i + 8)), .ref (a (i + 22))]) (uX3_allWays (a := a) (i := (i + 8)) ho13) kX3_allWays mX8_157 iX3_allWays vX3_allWays zX3 okX3_allWays ⟨Nat.le_of_ble_eq_true rfl, Nat.le_of_ble_eq_true rfl⟩ rfl rfl (q0 := 8) rfl rfl (bX8_2) (bX8_2) rfl hl.1 rfl (Nat.le_of_ble_eq_true rfl) ⟨Nat.le_refl 0, Nat.le_refl 0⟩ rfl dX8_added_187 (fun H locs hH => ?_)
        refine lv_iload_n hx hb dX8_added_190 rfl (lv_at hl 2 rfl) ?_
        obtain ⟨o14, ho14, h⟩ := bd_x h
        obtain ⟨xs5, exs5, h⟩ := ltt_x h
        refine r_V X hH (ws1 := (wX8 g a i xs5)) (As := [.ref (a (i + 8)), .int o13, .int pb]) (rest := []) (st1 := []) (uX0_timesTo (a := a) (i := (i + 22)) (b := a) (j := (i + 8)) ho14) kX0_timesTo mX8_171 iX0_timesTo vX0_timesTo zX0 okX0_timesTo ⟨Nat.le_of_ble_eq_true rfl, Nat.le_of_ble_eq_true rfl⟩ rfl rfl (q0 := 22) rfl rfl (pm_2 (bX8_4) (bX8_4_2)) (by rw [exs5]; exact (pm_2 (bX8_4) (bX8_4_2))) rfl hl.1 rfl (Nat.le_of_ble_eq_true rfl) ⟨Nat.le_refl 0, Nat.le_refl 0⟩ rfl dX8_added_191 (fun H locs hH => ?_)
        refine lv_iload_n hx hb dX8_added_194 rfl (lv_at hl 3 rfl) ?_
        refine lv_if_eq (tgt := 224) hx hb dX8_added_195 (by decide) (fun c5 => ?_) (fun c5 => ?_)
        · have h := it_x h c5
          exact pX8_added_224 X (pX8_added_256 X ih) xs5 l9 l10 l11 H locs ls h hH (lv_sub hl [0, 1, 2, 7, 8, 9] rfl)
        · have h := ie_x h c5
          refine lv_aload_n hx hb dX8_added_198 rfl (lv_at hl 0 rfl) ?_
          refine f_get X hH 0 rfl rfl 4 (by decide) inX8 fX8_29 rfl dX8_added_199 ?_
          refine f_get X hH 22 rfl rfl 0 (by decide) inX0 fX8_175 rfl dX8_added_202 ?_
          refine lv_iload_n hx hb dX8_added_205 rfl (lv_at hl 1 rfl) ?_
          obtain ⟨j3, ej3, hinj3, h⟩ := ga_x h
          refine a_ll X hH 23 rfl hinj3 ej3 dX8_added_206 ?_
          refine lv_aload_n hx hb dX8_added_207 rfl (lv_at hl 0 rfl) ?_
          refine f_get X hH 0 rfl rfl 4 (by decide) inX8 fX8_29 rfl dX8_added_208 ?_
          refine f_get X hH 22 rfl rfl 1 (by decide) inX0 fX8_178 rfl dX8_added_211 ?_
          refine lv_lload hx hb dX8_added_214 (lv_at hl 4 rfl) ?_
          refine lv_lload hx hb dX8_added_216 (lv_at hl 5 rfl) ?_
          obtain ⟨o15, ho15, h⟩ := bd_x h
          refine r_S X hH (ws1 := (wX8 g a i xs5)) (As := [.long ((eq_above (w_equations xs5)) j3), .long (eq_below (w_equations xs5)), .long l4, .long l6]) (rest := []) (st1 := [.int o15]) (uX8_compare  ho15) kX8_compare mX8_223 sX8_compare zX8 okX8_compare ⟨Nat.le_of_ble_eq_true rfl, Nat.le_of_ble_eq_true rfl⟩ rfl rfl (pm_none _) (pm_none _) rfl hl.1 rfl (Nat.le_of_ble_eq_true rfl) ⟨Nat.le_refl 0, Nat.le_refl 0⟩ rfl dX8_added_218 (fun H locs hH => ?_)
          refine lv_if_ge (tgt := 256) hx hb dX8_added_221 (by decide) (fun c6 => ?_) (fun c6 => ?_)
          · have h := it_x h c6
            exact pX8_added_256 X ih xs5 l3 l4 l6 l8 l9 l10 l11 H locs ls h hH (lv_sub hl [0, 1, 2, 3, 4, 5, 6, 7, 8, 9] rfl)
          · have h := ie_x h c6
            exact pX8_added_224 X (pX8_added_256 X ih) xs5 l9 l10 l11 H locs ls h hH (lv_sub hl [0, 1, 2, 7, 8, 9] rfl)
      · have h := it_x h c4
        refine lv_goto (tgt := 256) hx hb dX8_added_172 (by decide) ?_
        exact pX8_added_256 X ih xs4 l3 l4 l6 l8 l9 l10 l11 H locs ls h hH (lv_sub hl [0, 1, 2, 3, 4, 5, 6, 7, 8, 9] rfl)
set_option maxHeartbeats 4000000 in
set_option maxRecDepth 100000 in
theorem pX8_added_103 {p : Program} {l : Launch} {e : Env} {s : State} {m : MethodId} {args : Array Value} {below : List Frame} {meth : Method} {c : Code} {g : GG} {w0 : va_W} {a : Nat → Nat} {i : Nat} {pa : Int32} {pb : Int32} {o : (Int32 × SX8)} (X : mX g yX8_added cX8_added 12 (some .int) p s m args meth c w0) :
  ∀ (fu : Nat) (xs : SX8) (l3 : Int32) (l4 : Int64) (l6 : Int64) (l8 : Int32) (l9 : Int32) (l10 : Int32) (H : Heap) (locs : List Loc) (ls : Array Slot), qX8_added_103 pa pb fu xs l3 l4 l6 l8 l9 l10 = some o → mH g s w0 (wX8 g a i xs) H locs → lv_has ls 12 [(0, .ref (a i)), (1, .int pa), (2, .int pb), (3, .int l3), (4, .long l4), (6, .long l6), (8, .int l8), (9, .int l9), (10, .int l10)] → W p l e (rM 4 102) s m args below meth c H locs 0 0 (mZ g below args s w0 (wX8 g a i o.2) (some (.int o.1))) (F0 m 103 ls []) := by
  have hx := X.1
  have hb := X.2.1
  intro fu
  induction fu with
  | zero =>
    intro xs l3 l4 l6 l8 l9 l10 H locs ls h
    unfold qX8_added_103 at h
    cases h
  | succ fu ih =>
    intro xs l3 l4 l6 l8 l9 l10 H locs ls h hH hl
    unfold qX8_added_103 at h
    refine lv_iload hx hb dX8_added_103 (lv_at hl 8 rfl) ?_
    refine lv_aload_n hx hb dX8_added_105 rfl (lv_at hl 0 rfl) ?_
    refine f_get X hH 0 rfl rfl 0 (by decide) inX8 fX8_10 rfl dX8_added_106 ?_
    refine f_get X hH 1 rfl rfl 0 (by decide) inX3 fX8_216 rfl dX8_added_109 ?_
    refine lv_icmp_ge (tgt := 268) hx hb dX8_added_112 (by decide) (fun c2 => ?_) (fun c2 => ?_)
    · have h := it_x h c2
      refine lv_iload hx hb dX8_added_268 (lv_at hl 6 rfl) ?_
      have h := Option.some.inj h
      subst h
      exact e_i X hH dX8_added_270
    · have h := ie_x h c2
      refine lv_iload hx hb dX8_added_115 (lv_at hl 8 rfl) ?_
      refine lv_iconst (v := (1 : Int32)) hx hb dX8_added_117 (by decide) ?_
      refine lv_iadd hx hb dX8_added_118 ?_
      obtain ⟨v3, ev3, h⟩ := ltt_x h
      refine s_i X (lv' := [(11, .int v3), (0, .ref (a i)), (1, .int pa), (2, .int pb), (3, .int l3), (4, .long l4), (6, .long l6), (8, .int l8), (9, .int l9), (10, .int l10)]) hl ev3 dX8_added_119 (by decide) rfl (fun ls hl => ?_)
      exact pX8_added_121 X ih FU xs l3 l4 l6 l8 l9 l10 v3 H locs ls h hH (lv_sub hl [1, 2, 3, 4, 5, 6, 7, 8, 9, 0] rfl)
set_option maxHeartbeats 4000000 in
set_option maxRecDepth 100000 in
theorem uX8_added {l : Launch} {g : GG} {a : Nat → Nat} {i : Nat} {xs : SX8} {pa : Int32} {pb : Int32} {o : (Int32 × SX8)} (h : fX8_added xs pa pb = some o) : mC l g yX8_added cX8_added 12 (some .int) (rM 4 102) [.ref (a i), .int pa, .int pb] (wX8 g a i xs) (wX8 g a i o.2) (some (.int o.1)) := by
  refine mC.ofW (by decide) (fun p e s m below meth c X hH ls _ hl => ?_) (Nat.le_of_ble_eq_true rfl)
  have hx := X.1
  have hb := X.2.1
  have hl : lv_has ls 12 [(0, .ref (a i)), (1, .int pa), (2, .int pb)] := hl
  unfold fX8_added at h
  suffices HH : ∀ (H : Heap) (locs : List Loc), mH g s (wX8 g a i xs) (wX8 g a i xs) H locs → W p l e (rM 4 102) s m _ below meth c H locs 0 0 (mZ g below _ s (wX8 g a i xs) (wX8 g a i o.2) (some (.int o.1))) (F0 m 0 ls []) from HH _ _ hH
  clear hH
  intro H locs hH
  refine lv_aload_n hx hb dX8_added_0 rfl (lv_at hl 0 rfl) ?_
  refine lv_iload_n hx hb dX8_added_1 rfl (lv_at hl 1 rfl) ?_
  refine lv_iload_n hx hb dX8_added_2 rfl (lv_at hl 2 rfl) ?_
  obtain ⟨o1, ho1, h⟩ := bd_x h
  refine r_V X hH (ws1 := (wX8 g a i xs)) (As := [.int pa, .int pb]) (rest := []) (st1 := [.int o1]) (uX8_areTwoPoints (a := a) (i := i) ho1) kX8_areTwoPoints mX8_210 iX8_areTwoPoints vX8_areTwoPoints zX8 okX8_areTwoPoints ⟨Nat.le_of_ble_eq_true rfl, Nat.le_of_ble_eq_true rfl⟩ rfl rfl (q0 := 0) rfl rfl (pm_all _) (pm_all _) rfl hl.1 rfl (Nat.le_of_ble_eq_true rfl) ⟨Nat.le_refl 0, Nat.le_refl 0⟩ rfl dX8_added_3 (fun H locs hH => ?_)
  refine lv_if_ne (tgt := 15) hx hb dX8_added_6 (by decide) (fun c1 => ?_) (fun c1 => ?_)
  · have h := ie_x h c1
    refine lv_aload_n hx hb dX8_added_15 rfl (lv_at hl 0 rfl) ?_
    refine f_get X hH 0 rfl rfl 0 (by decide) inX8 fX8_10 rfl dX8_added_16 ?_
    refine lv_iconst (v := (1 : Int32)) hx hb dX8_added_19 (by decide) ?_
    refine lv_iload_n hx hb dX8_added_20 rfl (lv_at hl 1 rfl) ?_
    refine lv_ishl hx hb dX8_added_21 ?_
    refine lv_aload_n hx hb dX8_added_22 rfl (lv_at hl 0 rfl) ?_
    refine f_get X hH 0 rfl rfl 0 (by decide) inX8 fX8_10 rfl dX8_added_23 ?_
    obtain ⟨o2, ho2, h⟩ := bd_x h
    refine r_V X hH (ws1 := (wX8 g a i xs)) (As := []) (rest := [.int ((1 : Int32) <<< (pa &&& 31)), .ref (a (i + 1))]) (st1 := [.int o2, .int ((1 : Int32) <<< (pa &&& 31)), .ref (a (i + 1))]) (uX3_allWays (a := a) (i := (i + 1)) ho2) kX3_allWays mX8_157 iX3_allWays vX3_allWays zX3 okX3_allWays ⟨Nat.le_of_ble_eq_true rfl, Nat.le_of_ble_eq_true rfl⟩ rfl rfl (q0 := 1) rfl rfl (bX8_1) (bX8_1) rfl hl.1 rfl (Nat.le_of_ble_eq_true rfl) ⟨Nat.le_refl 0, Nat.le_refl 0⟩ rfl dX8_added_26 (fun H locs hH => ?_)
    obtain ⟨o3, ho3, h⟩ := bd_x h
    refine r_V X hH (ws1 := (wX8 g a i xs)) (As := [.int ((1 : Int32) <<< (pa &&& 31)), .int o2]) (rest := []) (st1 := [.int o3]) (uX3_reached (a := a) (i := (i + 1)) ho3) kX3_reached mX8_161 iX3_reached vX3_reached zX3 okX3_reached ⟨Nat.le_of_ble_eq_true rfl, Nat.le_of_ble_eq_true rfl⟩ rfl rfl (q0 := 1) rfl rfl (bX8_1) (bX8_1) rfl hl.1 rfl (Nat.le_of_ble_eq_true rfl) ⟨Nat.le_refl 0, Nat.le_refl 0⟩ rfl dX8_added_29 (fun H locs hH => ?_)
    refine lv_iload_n hx hb dX8_added_32 rfl (lv_at hl 2 rfl) ?_
    obtain ⟨o4, ho4, h⟩ := bd_x h
    refine r_S X hH (ws1 := (wX8 g a i xs)) (As := [.int o3, .int pb]) (rest := []) (st1 := [.int o4]) (uX8_has  ho4) kX8_has mX8_203 sX8_has zX8 okX8_has ⟨Nat.le_of_ble_eq_true rfl, Nat.le_of_ble_eq_true rfl⟩ rfl rfl (pm_none _) (pm_none _) rfl hl.1 rfl (Nat.le_of_ble_eq_true rfl) ⟨Nat.le_refl 0, Nat.le_refl 0⟩ rfl dX8_added_33 (fun H locs hH => ?_)
    refine s_in X (lv' := [(3, .int o4), (0, .ref (a i)), (1, .int pa), (2, .int pb)]) hl rfl dX8_added_36 rfl (by decide) rfl (fun ls hl => ?_)
    refine lv_aload_n hx hb dX8_added_37 rfl (lv_at hl 1 rfl) ?_
    refine f_get X hH 0 rfl rfl 4 (by decide) inX8 fX8_29 rfl dX8_added_38 ?_
    refine lv_aload_n hx hb dX8_added_41 rfl (lv_at hl 1 rfl) ?_
    refine f_get X hH 0 rfl rfl 0 (by decide) inX8 fX8_10 rfl dX8_added_42 ?_
    refine lv_aload_n hx hb dX8_added_45 rfl (lv_at hl 1 rfl) ?_
    refine f_get X hH 0 rfl rfl 0 (by decide) inX8 fX8_10 rfl dX8_added_46 ?_
    obtain ⟨o5, ho5, h⟩ := bd_x h
    refine r_V X hH (ws1 := (wX8 g a i xs)) (As := []) (rest := [.ref (a (i + 1)), .ref (a (i + 22))]) (st1 := [.int o5, .ref (a (i + 1)), .ref (a (i + 22))]) (uX3_allWays (a := a) (i := (i + 1)) ho5) kX3_allWays mX8_157 iX3_allWays vX3_allWays zX3 okX3_allWays ⟨Nat.le_of_ble_eq_true rfl, Nat.le_of_ble_eq_true rfl⟩ rfl rfl (q0 := 1) rfl rfl (bX8_1) (bX8_1) rfl hl.1 rfl (Nat.le_of_ble_eq_true rfl) ⟨Nat.le_refl 0, Nat.le_refl 0⟩ rfl dX8_added_49 (fun H locs hH => ?_)
    refine lv_iload_n hx hb dX8_added_52 rfl (lv_at hl 3 rfl) ?_
    obtain ⟨o6, ho6, h⟩ := bd_x h
    obtain ⟨xs1, exs1, h⟩ := ltt_x h
    refine r_V X hH (ws1 := (wX8 g a i xs1)) (As := [.ref (a (i + 1)), .int o5, .int pb]) (rest := []) (st1 := []) (uX0_timesTo (a := a) (i := (i + 22)) (b := a) (j := (i + 1)) ho6) kX0_timesTo mX8_171 iX0_timesTo vX0_timesTo zX0 okX0_timesTo ⟨Nat.le_of_ble_eq_true rfl, Nat.le_of_ble_eq_true rfl⟩ rfl rfl (q0 := 22) rfl rfl (pm_2 (bX8_4) (bX8_4_1)) (by rw [exs1]; exact (pm_2 (bX8_4) (bX8_4_1))) rfl hl.1 rfl (Nat.le_of_ble_eq_true rfl) ⟨Nat.le_refl 0, Nat.le_refl 0⟩ rfl dX8_added_53 (fun H locs hH => ?_)
    refine lv_aload_n hx hb dX8_added_56 rfl (lv_at hl 1 rfl) ?_
    refine f_get X hH 0 rfl rfl 4 (by decide) inX8 fX8_29 rfl dX8_added_57 ?_
    refine f_get X hH 22 rfl rfl 0 (by decide) inX0 fX8_175 rfl dX8_added_60 ?_
    refine lv_iload_n hx hb dX8_added_63 rfl (lv_at hl 2 rfl) ?_
    obtain ⟨j1, ej1, hinj1, h⟩ := ga_x h
    refine a_ll X hH 23 rfl hinj1 ej1 dX8_added_64 ?_
    obtain ⟨v1, ev1, h⟩ := ltt_x h
    refine s_l X (lv' := [(4, .long v1), (3, .int o4), (0, .ref (a i)), (1, .int pa), (2, .int pb)]) hl ev1 dX8_added_65 (by decide) rfl (fun ls hl => ?_)
    refine lv_aload_n hx hb dX8_added_67 rfl (lv_at hl 2 rfl) ?_
    refine f_get X hH 0 rfl rfl 4 (by decide) inX8 fX8_29 rfl dX8_added_68 ?_
    refine f_get X hH 22 rfl rfl 1 (by decide) inX0 fX8_178 rfl dX8_added_71 ?_
    obtain ⟨v2, ev2, h⟩ := ltt_x h
    refine s_l X (lv' := [(6, .long v2), (4, .long v1), (3, .int o4), (0, .ref (a i)), (1, .int pa), (2, .int pb)]) hl ev2 dX8_added_74 (by decide) rfl (fun ls hl => ?_)
    refine lv_bipush (v := (-9 : Int32)) hx hb dX8_added_76 (by decide) ?_
    refine s_i X (lv' := [(8, .int (-9 : Int32)), (6, .long v2), (4, .long v1), (3, .int o4), (0, .ref (a i)), (1, .int pa), (2, .int pb)]) hl rfl dX8_added_78 (by decide) rfl (fun ls hl => ?_)
    refine lv_aload_n hx hb dX8_added_80 rfl (lv_at hl 4 rfl) ?_
    refine f_get X hH 0 rfl rfl 1 (by decide) inX8 fX8_16 rfl dX8_added_81 ?_
    refine lv_aload_n hx hb dX8_added_84 rfl (lv_at hl 4 rfl) ?_
    refine f_get X hH 0 rfl rfl 0 (by decide) inX8 fX8_10 rfl dX8_added_85 ?_
    obtain ⟨o7, ho7, h⟩ := bd_x h
    obtain ⟨xs2, exs2, h⟩ := ltt_x h
    refine r_V X hH (ws1 := (wX8 g a i xs2)) (As := [.ref (a (i + 1))]) (rest := []) (st1 := []) (uX3_copy (a := a) (i := (i + 8)) (b := a) (j := (i + 1)) ho7) kX3_copy mX8_97 iX3_copy vX3_copy zX3 okX3_copy ⟨Nat.le_of_ble_eq_true rfl, Nat.le_of_ble_eq_true rfl⟩ rfl rfl (q0 := 8) rfl rfl (pm_2 (bX8_2) (bX8_2_1)) (by rw [exs2]; exact (pm_2 (bX8_2) (bX8_2_1))) rfl hl.1 rfl (Nat.le_of_ble_eq_true rfl) ⟨Nat.le_refl 0, Nat.le_refl 0⟩ rfl dX8_added_88 (fun H locs hH => ?_)
    refine lv_aload_n hx hb dX8_added_91 rfl (lv_at hl 4 rfl) ?_
    refine f_get X hH 0 rfl rfl 1 (by decide) inX8 fX8_16 rfl dX8_added_92 ?_
    obtain ⟨o8, ho8, h⟩ := bd_x h
    obtain ⟨xs3, exs3, h⟩ := ltt_x h
    refine r_V X hH (ws1 := (wX8 g a i xs3)) (As := []) (rest := []) (st1 := [.int o8.1]) (uX3_more (a := a) (i := (i + 8)) ho8) kX3_more mX8_213 iX3_more vX3_more zX3 okX3_more ⟨Nat.le_of_ble_eq_true rfl, Nat.le_of_ble_eq_true rfl⟩ rfl rfl (q0 := 8) rfl rfl (bX8_2) (by rw [exs3]; exact (bX8_2)) rfl hl.1 rfl (Nat.le_of_ble_eq_true rfl) ⟨Nat.le_refl 0, Nat.le_refl 0⟩ rfl dX8_added_95 (fun H locs hH => ?_)
    refine s_i X (lv' := [(9, .int o8.1), (8, .int (-9 : Int32)), (6, .long v2), (4, .long v1), (3, .int o4), (0, .ref (a i)), (1, .int pa), (2, .int pb)]) hl rfl dX8_added_98 (by decide) rfl (fun ls hl => ?_)
    refine lv_iconst (v := (0 : Int32)) hx hb dX8_added_100 (by decide) ?_
    refine s_i X (lv' := [(10, .int (0 : Int32)), (9, .int o8.1), (8, .int (-9 : Int32)), (6, .long v2), (4, .long v1), (3, .int o4), (0, .ref (a i)), (1, .int pa), (2, .int pb)]) hl rfl dX8_added_101 (by decide) rfl (fun ls hl => ?_)
    exact pX8_added_103 X FU xs3 o4 v1 v2 (-9 : Int32) o8.1 (0 : Int32) H locs ls h hH (lv_sub hl [6, 7, 8, 5, 4, 3, 2, 1, 0] rfl)
  · have h := it_x h c1
    refine lv_aload_n hx hb dX8_added_9 rfl (lv_at hl 0 rfl) ?_
    refine lv_iconst (v := (-1 : Int32)) hx hb dX8_added_10 (by decide) ?_
    obtain ⟨o16, ho16, h⟩ := bd_x h
    refine r_V X hH (ws1 := (wX8 g a i o16.2)) (As := [.int (-1 : Int32)]) (rest := []) (st1 := [.int o16.1]) (uX8_counted (a := a) (i := i) ho16) kX8_counted mX8_94 iX8_counted vX8_counted zX8 okX8_counted ⟨Nat.le_of_ble_eq_true rfl, Nat.le_of_ble_eq_true rfl⟩ rfl rfl (q0 := 0) rfl rfl (pm_all _) (pm_all _) rfl hl.1 rfl (Nat.le_of_ble_eq_true rfl) ⟨Nat.le_refl 0, Nat.le_refl 0⟩ rfl dX8_added_11 (fun H locs hH => ?_)
    have h := Option.some.inj h
    subst h
    exact e_i X hH dX8_added_14

def qX8_missed_122 (pa : Int32) (pb : Int32) (k145 : SX8 → Int32 → Int64 → Int64 → Int32 → Option (Int32 × SX8)) (xs : SX8) (l8 : Int32) : Option (Int32 × SX8) :=
  ga 6 pa fun j1 =>
  ltt (((eq_above (w_equations xs)) j1)) fun v2 =>
  ltt ((eq_below (w_equations xs))) fun v3 =>
  k145 xs l8 v2 v3 l8
def qX8_missed_145 (pa : Int32) (pb : Int32) (k27 : SX8 → Int32 → Int64 → Int64 → Int32 → Option (Int32 × SX8)) (xs : SX8) (l3 : Int32) (l4 : Int64) (l6 : Int64) (l8 : Int32) : Option (Int32 × SX8) :=
  ltt (l8 + (1 : Int32)) fun v4 =>
  k27 xs l3 l4 l6 v4
def qX8_missed_27 (pa : Int32) (pb : Int32)  : Nat → SX8 → Int32 → Int64 → Int64 → Int32 → Option (Int32 × SX8)
  | 0, _, _, _, _, _ => none
  | fu + 1, xs, l3, l4, l6, l8 =>
  (if (n_ways (w_net xs)) ≤ l8 then
  some (l3, xs)
  else
  (fX3_allWays (w_net xs)).bind fun o2 =>
  ltt ((o2 &&& (((1 : Int32) <<< (l8 &&& 31)) ^^^ (-1 : Int32)))) fun v1 =>
  (fX3_reached (w_net xs) ((1 : Int32) <<< (pa &&& 31)) v1).bind fun o3 =>
  (fX8_has o3 pb).bind fun o4 =>
  (if o4 = (0 : Int32) then
  some (l8, xs)
  else
  (fX0_currentTo (w_equations xs) (w_net xs) v1 pa pb).bind fun o5 =>
  ltt ((w_equations_s xs o5)) fun xs1 =>
  (if l3 < (0 : Int32) then
  qX8_missed_122 pa pb (qX8_missed_145 pa pb (qX8_missed_27 pa pb  fu)) xs1 l8
  else
  ga 6 pa fun j2 =>
  (fX8_compare ((eq_above (w_equations xs1)) j2) (eq_below (w_equations xs1)) l4 l6).bind fun o6 =>
  (if o6 ≤ (0 : Int32) then
  qX8_missed_145 pa pb (qX8_missed_27 pa pb  fu) xs1 l3 l4 l6 l8
  else
  qX8_missed_122 pa pb (qX8_missed_145 pa pb (qX8_missed_27 pa pb  fu)) xs1 l8))))
def fX8_missed (xs : SX8) (pa : Int32) (pb : Int32) : Option (Int32 × SX8) :=
  (fX8_areTwoPoints xs pa pb).bind fun o1 =>
  (if o1 = (0 : Int32) then
  (fX8_counted xs (-1 : Int32)).bind fun o7 =>
  some (o7.1, o7.2)
  else
  qX8_missed_27 pa pb FU xs (-9 : Int32) (0 : Int64) (1 : Int64) (0 : Int32))
set_option maxHeartbeats 4000000 in
set_option maxRecDepth 100000 in
theorem pX8_missed_122 {p : Program} {l : Launch} {e : Env} {s : State} {m : MethodId} {args : Array Value} {below : List Frame} {meth : Method} {c : Code} {g : GG} {w0 : va_W} {a : Nat → Nat} {i : Nat} {pa : Int32} {pb : Int32} {o : (Int32 × SX8)} (X : mX g yX8_missed cX8_missed 10 (some .int) p s m args meth c w0)
  {k145 : SX8 → Int32 → Int64 → Int64 → Int32 → Option (Int32 × SX8)} (K145 : ∀ (xs : SX8) (l3 : Int32) (l4 : Int64) (l6 : Int64) (l8 : Int32) (H : Heap) (locs : List Loc) (ls : Array Slot), k145 xs l3 l4 l6 l8 = some o → mH g s w0 (wX8 g a i xs) H locs → lv_has ls 10 [(0, .ref (a i)), (1, .int pa), (2, .int pb), (3, .int l3), (4, .long l4), (6, .long l6), (8, .int l8)] → W p l e (rM 4 100) s m args below meth c H locs 0 0 (mZ g below args s w0 (wX8 g a i o.2) (some (.int o.1))) (F0 m 145 ls [])) :
  ∀ (xs : SX8) (l8 : Int32) (H : Heap) (locs : List Loc) (ls : Array Slot), qX8_missed_122 pa pb k145 xs l8 = some o → mH g s w0 (wX8 g a i xs) H locs → lv_has ls 10 [(0, .ref (a i)), (1, .int pa), (2, .int pb), (8, .int l8)] → W p l e (rM 4 100) s m args below meth c H locs 0 0 (mZ g below args s w0 (wX8 g a i o.2) (some (.int o.1))) (F0 m 122 ls []) := by
  have hx := X.1
  have hb := X.2.1
  intro xs l8 H locs ls h hH hl
  unfold qX8_missed_122 at h
  refine lv_iload hx hb dX8_missed_122 (lv_at hl 3 rfl) ?_
  refine s_in X (lv' := [(3, .int l8), (0, .ref (a i)), (1, .int pa), (2, .int pb), (8, .int l8)]) hl rfl dX8_missed_124 rfl (by decide) rfl (fun ls hl => ?_)
  refine lv_aload_n hx hb dX8_missed_125 rfl (lv_at hl 1 rfl) ?_
  refine f_get X hH 0 rfl rfl 4 (by decide) inX8 fX8_29 rfl dX8_missed_126 ?_
  refine f_get X hH 22 rfl rfl 0 (by decide) inX0 fX8_175 rfl dX8_missed_129 ?_
  refine lv_iload_n hx hb dX8_missed_132 rfl (lv_at hl 2 rfl) ?_
  obtain ⟨j1, ej1, hinj1, h⟩ := ga_x h
  refine a_ll X hH 23 rfl hinj1 ej1 dX8_missed_133 ?_
  obtain ⟨v2, ev2, h⟩ := ltt_x h
  refine s_l X (lv' := [(4, .long v2), (3, .int l8), (0, .ref (a i)), (1, .int pa), (2, .int pb), (8, .int l8)]) hl ev2 dX8_missed_134 (by decide) rfl (fun ls hl => ?_)
  refine lv_aload_n hx hb dX8_missed_136 rfl (lv_at hl 2 rfl) ?_
  refine f_get X hH 0 rfl rfl 4 (by decide) inX8 fX8_29 rfl dX8_missed_137 ?_
  refine f_get X hH 22 rfl rfl 1 (by decide) inX0 fX8_178 rfl dX8_missed_140 ?_
  obtain ⟨v3, ev3, h⟩ := ltt_x h
  refine s_l X (lv' := [(6, .long v3), (4, .long v2), (3, .int l8), (0, .ref (a i)), (1, .int pa), (2, .int pb), (8, .int l8)]) hl ev3 dX8_missed_143 (by decide) rfl (fun ls hl => ?_)
  exact K145 xs l8 v2 v3 l8 H locs ls h hH (lv_sub hl [3, 4, 5, 2, 1, 0, 6] rfl)
set_option maxHeartbeats 4000000 in
set_option maxRecDepth 100000 in
theorem pX8_missed_145 {p : Program} {l : Launch} {e : Env} {s : State} {m : MethodId} {args : Array Value} {below : List Frame} {meth : Method} {c : Code} {g : GG} {w0 : va_W} {a : Nat → Nat} {i : Nat} {pa : Int32} {pb : Int32} {o : (Int32 × SX8)} (X : mX g yX8_missed cX8_missed 10 (some .int) p s m args meth c w0)
  {k27 : SX8 → Int32 → Int64 → Int64 → Int32 → Option (Int32 × SX8)} (K27 : ∀ (xs : SX8) (l3 : Int32) (l4 : Int64) (l6 : Int64) (l8 : Int32) (H : Heap) (locs : List Loc) (ls : Array Slot), k27 xs l3 l4 l6 l8 = some o → mH g s w0 (wX8 g a i xs) H locs → lv_has ls 10 [(0, .ref (a i)), (1, .int pa), (2, .int pb), (3, .int l3), (4, .long l4), (6, .long l6), (8, .int l8)] → W p l e (rM 4 100) s m args below meth c H locs 0 0 (mZ g below args s w0 (wX8 g a i o.2) (some (.int o.1))) (F0 m 27 ls [])) :
  ∀ (xs : SX8) (l3 : Int32) (l4 : Int64) (l6 : Int64) (l8 : Int32) (H : Heap) (locs : List Loc) (ls : Array Slot), qX8_missed_145 pa pb k27 xs l3 l4 l6 l8 = some o → mH g s w0 (wX8 g a i xs) H locs → lv_has ls 10 [(0, .ref (a i)), (1, .int pa), (2, .int pb), (3, .int l3), (4, .long l4), (6, .long l6), (8, .int l8)] → W p l e (rM 4 100) s m args below meth c H locs 0 0 (mZ g below args s w0 (wX8 g a i o.2) (some (.int o.1))) (F0 m 145 ls []) := by
  have hx := X.1
  have hb := X.2.1
  intro xs l3 l4 l6 l8 H locs ls h hH hl
  unfold qX8_missed_145 at h
  obtain ⟨v4, ev4, h⟩ := ltt_x h
  refine s_inc X (k := 6) (lv' := [(8, .int v4), (0, .ref (a i)), (1, .int pa), (2, .int pb), (3, .int l3), (4, .long l4), (6, .long l6)]) hl rfl (by rw [ev4]; rfl) dX8_missed_145 (by decide) rfl (fun ls hl => ?_)
  refine lv_goto (tgt := 27) hx hb dX8_missed_148 (by decide) ?_
  exact K27 xs l3 l4 l6 v4 H locs ls h hH (lv_sub hl [1, 2, 3, 4, 5, 6, 0] rfl)
set_option maxHeartbeats 4000000 in
set_option maxRecDepth 100000 in
theorem pX8_missed_27 {p : Program} {l : Launch} {e : Env} {s : State} {m : MethodId} {args : Array Value} {below : List Frame} {meth : Method} {c : Code} {g : GG} {w0 : va_W} {a : Nat → Nat} {i : Nat} {pa : Int32} {pb : Int32} {o : (Int32 × SX8)} (X : mX g yX8_missed cX8_missed 10 (some .int) p s m args meth c w0) :
  ∀ (fu : Nat) (xs : SX8) (l3 : Int32) (l4 : Int64) (l6 : Int64) (l8 : Int32) (H : Heap) (locs : List Loc) (ls : Array Slot), qX8_missed_27 pa pb fu xs l3 l4 l6 l8 = some o → mH g s w0 (wX8 g a i xs) H locs → lv_has ls 10 [(0, .ref (a i)), (1, .int pa), (2, .int pb), (3, .int l3), (4, .long l4), (6, .long l6), (8, .int l8)] → W p l e (rM 4 100) s m args below meth c H locs 0 0 (mZ g below args s w0 (wX8 g a i o.2) (some (.int o.1))) (F0 m 27 ls []) := by
  have hx := X.1
  have hb := X.2.1
  intro fu
  induction fu with
  | zero =>
    intro xs l3 l4 l6 l8 H locs ls h
    unfold qX8_missed_27 at h
    cases h
  | succ fu ih =>
    intro xs l3 l4 l6 l8 H locs ls h hH hl
    unfold qX8_missed_27 at h
    refine lv_iload hx hb dX8_missed_27 (lv_at hl 6 rfl) ?_
    refine lv_aload_n hx hb dX8_missed_29 rfl (lv_at hl 0 rfl) ?_
    refine f_get X hH 0 rfl rfl 0 (by decide) inX8 fX8_10 rfl dX8_missed_30 ?_
    refine f_get X hH 1 rfl rfl 1 (by decide) inX3 fX8_227 rfl dX8_missed_33 ?_
    refine lv_icmp_ge (tgt := 151) hx hb dX8_missed_36 (by decide) (fun c2 => ?_) (fun c2 => ?_)
    · have h := it_x h c2
      refine lv_iload_n hx hb dX8_missed_151 rfl (lv_at hl 3 rfl) ?_
      have h := Option.some.inj h
      subst h
      exact e_i X hH dX8_missed_152
    · have h := ie_x h c2
      refine lv_aload_n hx hb dX8_missed_39 rfl (lv_at hl 0 rfl) ?_
      refine f_get X hH 0 rfl rfl 0 (by decide) inX8 fX8_10 rfl dX8_missed_40 ?_
      obtain ⟨o2, ho2, h⟩ := bd_x h
      refine r_V X hH (ws1 := (wX8 g a i xs)) (As := []) (rest := []) (st1 := [.int o2]) (uX3_allWays (a := a) (i := (i + 1)) ho2) kX3_allWays mX8_157 iX3_allWays vX3_allWays zX3 okX3_allWays ⟨Nat.le_of_ble_eq_true rfl, Nat.le_of_ble_eq_true rfl⟩ rfl rfl (q0 := 1) rfl rfl (bX8_1) (bX8_1) rfl hl.1 rfl (Nat.le_of_ble_eq_true rfl) ⟨Nat.le_refl 0, Nat.le_refl 0⟩ rfl dX8_missed_43 (fun H locs hH => ?_)
      refine lv_iconst (v := (1 : Int32)) hx hb dX8_missed_46 (by decide) ?_
      refine lv_iload hx hb dX8_missed_47 (lv_at hl 6 rfl) ?_
      refine lv_ishl hx hb dX8_missed_49 ?_
      refine lv_iconst (v := (-1 : Int32)) hx hb dX8_missed_50 (by decide) ?_
      refine lv_ixor hx hb dX8_missed_51 ?_
      refine lv_iand hx hb dX8_missed_52 ?_
      obtain ⟨v1, ev1, h⟩ := ltt_x h
      refine s_i X (lv' := [(9, .int v1), (0, .ref (a i)), (1, .int pa), (2, .int pb), (3, .int l3), (4, .long l4), (6, .long l6), (8, .int l8)]) hl ev1 dX8_missed_53 (by decide) rfl (fun ls hl => ?_)
      refine lv_aload_n hx hb dX8_missed_55 rfl (lv_at hl 1 rfl) ?_
      refine f_get X hH 0 rfl rfl 0 (by decide) inX8 fX8_10 rfl dX8_missed_56 ?_
      refine lv_iconst (v := (1 : Int32)) hx hb dX8_missed_59 (by decide) ?_
      refine lv_iload_n hx hb dX8_missed_60 rfl (lv_at hl 2 rfl) ?_
      refine lv_ishl hx hb dX8_missed_61 ?_
      refine lv_iload hx hb dX8_missed_62 (lv_at hl 0 rfl) ?_
      obtain ⟨o3, ho3, h⟩ := bd_x h
      refine r_V X hH (ws1 := (wX8 g a i xs)) (As := [.int ((1 : Int32) <<< (pa &&& 31)), .int v1]) (rest := []) (st1 := [.int o3]) (uX3_reached (a := a) (i := (i + 1)) ho3) kX3_reached mX8_161 iX3_reached vX3_reached zX3 okX3_reached ⟨Nat.le_of_ble_eq_true rfl, Nat.le_of_ble_eq_true rfl⟩ rfl rfl (q0 := 1) rfl rfl (bX8_1) (bX8_1) rfl hl.1 rfl (Nat.le_of_ble_eq_true rfl) ⟨Nat.le_refl 0, Nat.le_refl 0⟩ rfl dX8_missed_64 (fun H locs hH => ?_)
      refine lv_iload_n hx hb dX8_missed_67 rfl (lv_at hl 3 rfl) ?_
      obtain ⟨o4, ho4, h⟩ := bd_x h
      refine r_S X hH (ws1 := (wX8 g a i xs)) (As := [.int o3, .int pb]) (rest := []) (st1 := [.int o4]) (uX8_has  ho4) kX8_has mX8_203 sX8_has zX8 okX8_has ⟨Nat.le_of_ble_eq_true rfl, Nat.le_of_ble_eq_true rfl⟩ rfl rfl (pm_none _) (pm_none _) rfl hl.1 rfl (Nat.le_of_ble_eq_true rfl) ⟨Nat.le_refl 0, Nat.le_refl 0⟩ rfl dX8_missed_68 (fun H locs hH => ?_)
      refine lv_if_ne (tgt := 77) hx hb dX8_missed_71 (by decide) (fun c3 => ?_) (fun c3 => ?_)
      · have h := ie_x h c3
        refine lv_aload_n hx hb dX8_missed_77 rfl (lv_at hl 1 rfl) ?_
        refine f_get X hH 0 rfl rfl 4 (by decide) inX8 fX8_29 rfl dX8_missed_78 ?_
        refine lv_aload_n hx hb dX8_missed_81 rfl (lv_at hl 1 rfl) ?_
        refine f_get X hH 0 rfl rfl 0 (by decide) inX8 fX8_10 rfl dX8_missed_82 ?_
        refine lv_iload hx hb dX8_missed_85 (lv_at hl 0 rfl) ?_
        refine lv_iload_n hx hb dX8_missed_87 rfl (lv_at hl 2 rfl) ?_
        refine lv_iload_n hx hb dX8_missed_88 rfl (lv_at hl 3 rfl) ?_
        obtain ⟨o5, ho5, h⟩ := bd_x h
        obtain ⟨xs1, exs1, h⟩ := ltt_x h
        refine r_V X hH (ws1 := (wX8 g a i xs1)) (As := [.ref (a (i + 1)), .int v1, .int pa, .int pb]) (rest := []) (st1 := []) (uX0_currentTo (a := a) (i := (i + 22)) (b := a) (j := (i + 1)) ho5) kX0_currentTo mX8_193 iX0_currentTo vX0_currentTo zX0 okX0_currentTo ⟨Nat.le_of_ble_eq_true rfl, Nat.le_of_ble_eq_true rfl⟩ rfl rfl (q0 := 22) rfl rfl (pm_2 (bX8_4) (bX8_4_1)) (by rw [exs1]; exact (pm_2 (bX8_4) (bX8_4_1))) rfl hl.1 rfl (Nat.le_of_ble_eq_true rfl) ⟨Nat.le_refl 0, Nat.le_refl 0⟩ rfl dX8_missed_89 (fun H locs hH => ?_)
        refine lv_iload_n hx hb dX8_missed_92 rfl (lv_at hl 4 rfl) ?_
        refine lv_if_lt (tgt := 122) hx hb dX8_missed_93 (by decide) (fun c4 => ?_) (fun c4 => ?_)
        · have h := it_x h c4
          exact pX8_missed_122 X (pX8_missed_145 X ih) xs1 l8 H locs ls h hH (lv_sub hl [1, 2, 3, 7] rfl)
        · have h := ie_x h c4
          refine lv_aload_n hx hb dX8_missed_96 rfl (lv_at hl 1 rfl) ?_
          refine f_get X hH 0 rfl rfl 4 (by decide) inX8 fX8_29 rfl dX8_missed_97 ?_
          refine f_get X hH 22 rfl rfl 0 (by decide) inX0 fX8_175 rfl dX8_missed_100 ?_
          refine lv_iload_n hx hb dX8_missed_103 rfl (lv_at hl 2 rfl) ?_
          obtain ⟨j2, ej2, hinj2, h⟩ := ga_x h
          refine a_ll X hH 23 rfl hinj2 ej2 dX8_missed_104 ?_
          refine lv_aload_n hx hb dX8_missed_105 rfl (lv_at hl 1 rfl) ?_
          refine f_get X hH 0 rfl rfl 4 (by decide) inX8 fX8_29 rfl dX8_missed_106 ?_
          refine f_get X hH 22 rfl rfl 1 (by decide) inX0 fX8_178 rfl dX8_missed_109 ?_
          refine lv_lload hx hb dX8_missed_112 (lv_at hl 5 rfl) ?_
          refine lv_lload hx hb dX8_missed_114 (lv_at hl 6 rfl) ?_
          obtain ⟨o6, ho6, h⟩ := bd_x h
          refine r_S X hH (ws1 := (wX8 g a i xs1)) (As := [.long ((eq_above (w_equations xs1)) j2), .long (eq_below (w_equations xs1)), .long l4, .long l6]) (rest := []) (st1 := [.int o6]) (uX8_compare  ho6) kX8_compare mX8_223 sX8_compare zX8 okX8_compare ⟨Nat.le_of_ble_eq_true rfl, Nat.le_of_ble_eq_true rfl⟩ rfl rfl (pm_none _) (pm_none _) rfl hl.1 rfl (Nat.le_of_ble_eq_true rfl) ⟨Nat.le_refl 0, Nat.le_refl 0⟩ rfl dX8_missed_116 (fun H locs hH => ?_)
          refine lv_if_le (tgt := 145) hx hb dX8_missed_119 (by decide) (fun c5 => ?_) (fun c5 => ?_)
          · have h := it_x h c5
            exact pX8_missed_145 X ih xs1 l3 l4 l6 l8 H locs ls h hH (lv_sub hl [1, 2, 3, 4, 5, 6, 7] rfl)
          · have h := ie_x h c5
            exact pX8_missed_122 X (pX8_missed_145 X ih) xs1 l8 H locs ls h hH (lv_sub hl [1, 2, 3, 7] rfl)
      · have h := it_x h c3
        refine lv_iload hx hb dX8_missed_74 (lv_at hl 7 rfl) ?_
        have h := Option.some.inj h
        subst h
        exact e_i X hH dX8_missed_76
set_option maxHeartbeats 4000000 in
set_option maxRecDepth 100000 in
theorem uX8_missed {l : Launch} {g : GG} {a : Nat → Nat} {i : Nat} {xs : SX8} {pa : Int32} {pb : Int32} {o : (Int32 × SX8)} (h : fX8_missed xs pa pb = some o) : mC l g yX8_missed cX8_missed 10 (some .int) (rM 4 100) [.ref (a i), .int pa, .int pb] (wX8 g a i xs) (wX8 g a i o.2) (some (.int o.1)) := by
  refine mC.ofW (by decide) (fun p e s m below meth c X hH ls _ hl => ?_) (Nat.le_of_ble_eq_true rfl)
  have hx := X.1
  have hb := X.2.1
  have hl : lv_has ls 10 [(0, .ref (a i)), (1, .int pa), (2, .int pb)] := hl
  unfold fX8_missed at h
  suffices HH : ∀ (H : Heap) (locs : List Loc), mH g s (wX8 g a i xs) (wX8 g a i xs) H locs → W p l e (rM 4 100) s m _ below meth c H locs 0 0 (mZ g below _ s (wX8 g a i xs) (wX8 g a i o.2) (some (.int o.1))) (F0 m 0 ls []) from HH _ _ hH
  clear hH
  intro H locs hH
  refine lv_aload_n hx hb dX8_missed_0 rfl (lv_at hl 0 rfl) ?_
  refine lv_iload_n hx hb dX8_missed_1 rfl (lv_at hl 1 rfl) ?_
  refine lv_iload_n hx hb dX8_missed_2 rfl (lv_at hl 2 rfl) ?_
  obtain ⟨o1, ho1, h⟩ := bd_x h
  refine r_V X hH (ws1 := (wX8 g a i xs)) (As := [.int pa, .int pb]) (rest := []) (st1 := [.int o1]) (uX8_areTwoPoints (a := a) (i := i) ho1) kX8_areTwoPoints mX8_210 iX8_areTwoPoints vX8_areTwoPoints zX8 okX8_areTwoPoints ⟨Nat.le_of_ble_eq_true rfl, Nat.le_of_ble_eq_true rfl⟩ rfl rfl (q0 := 0) rfl rfl (pm_all _) (pm_all _) rfl hl.1 rfl (Nat.le_of_ble_eq_true rfl) ⟨Nat.le_refl 0, Nat.le_refl 0⟩ rfl dX8_missed_3 (fun H locs hH => ?_)
  refine lv_if_ne (tgt := 15) hx hb dX8_missed_6 (by decide) (fun c1 => ?_) (fun c1 => ?_)
  · have h := ie_x h c1
    refine lv_bipush (v := (-9 : Int32)) hx hb dX8_missed_15 (by decide) ?_
    refine s_in X (lv' := [(3, .int (-9 : Int32)), (0, .ref (a i)), (1, .int pa), (2, .int pb)]) hl rfl dX8_missed_17 rfl (by decide) rfl (fun ls hl => ?_)
    refine lv_lconst (v := (0 : Int64)) hx hb dX8_missed_18 (by decide) ?_
    refine s_l X (lv' := [(4, .long (0 : Int64)), (3, .int (-9 : Int32)), (0, .ref (a i)), (1, .int pa), (2, .int pb)]) hl rfl dX8_missed_19 (by decide) rfl (fun ls hl => ?_)
    refine lv_lconst (v := (1 : Int64)) hx hb dX8_missed_21 (by decide) ?_
    refine s_l X (lv' := [(6, .long (1 : Int64)), (4, .long (0 : Int64)), (3, .int (-9 : Int32)), (0, .ref (a i)), (1, .int pa), (2, .int pb)]) hl rfl dX8_missed_22 (by decide) rfl (fun ls hl => ?_)
    refine lv_iconst (v := (0 : Int32)) hx hb dX8_missed_24 (by decide) ?_
    refine s_i X (lv' := [(8, .int (0 : Int32)), (6, .long (1 : Int64)), (4, .long (0 : Int64)), (3, .int (-9 : Int32)), (0, .ref (a i)), (1, .int pa), (2, .int pb)]) hl rfl dX8_missed_25 (by decide) rfl (fun ls hl => ?_)
    exact pX8_missed_27 X FU xs (-9 : Int32) (0 : Int64) (1 : Int64) (0 : Int32) H locs ls h hH (lv_sub hl [4, 5, 6, 3, 2, 1, 0] rfl)
  · have h := it_x h c1
    refine lv_aload_n hx hb dX8_missed_9 rfl (lv_at hl 0 rfl) ?_
    refine lv_iconst (v := (-1 : Int32)) hx hb dX8_missed_10 (by decide) ?_
    obtain ⟨o7, ho7, h⟩ := bd_x h
    refine r_V X hH (ws1 := (wX8 g a i o7.2)) (As := [.int (-1 : Int32)]) (rest := []) (st1 := [.int o7.1]) (uX8_counted (a := a) (i := i) ho7) kX8_counted mX8_94 iX8_counted vX8_counted zX8 okX8_counted ⟨Nat.le_of_ble_eq_true rfl, Nat.le_of_ble_eq_true rfl⟩ rfl rfl (q0 := 0) rfl rfl (pm_all _) (pm_all _) rfl hl.1 rfl (Nat.le_of_ble_eq_true rfl) ⟨Nat.le_refl 0, Nat.le_refl 0⟩ rfl dX8_missed_11 (fun H locs hH => ?_)
    have h := Option.some.inj h
    subst h
    exact e_i X hH dX8_missed_14

def qX8_bridges_101 (pa : Int32) (pb : Int32) (k51 : SX8 → Int32 → Int32 → Option (Int32 × SX8)) (xs : SX8) (l3 : Int32) (l4 : Int32) : Option (Int32 × SX8) :=
  ltt (l4 + (1 : Int32)) fun v1 =>
  k51 xs l3 v1
def qX8_bridges_51 (pa : Int32) (pb : Int32)  : Nat → SX8 → Int32 → Int32 → Option (Int32 × SX8)
  | 0, _, _, _ => none
  | fu + 1, xs, l3, l4 =>
  (if (n_ways (w_net xs)) ≤ l4 then
  some (l3, xs)
  else
  (fX3_allWays (w_net xs)).bind fun o5 =>
  (fX3_reached (w_net xs) ((1 : Int32) <<< (pa &&& 31)) (o5 &&& (((1 : Int32) <<< (l4 &&& 31)) ^^^ (-1 : Int32)))).bind fun o6 =>
  (fX8_has o6 pb).bind fun o7 =>
  (if o7 = (0 : Int32) then
  ltt ((l3 ||| ((1 : Int32) <<< (l4 &&& 31)))) fun v2 =>
  qX8_bridges_101 pa pb (qX8_bridges_51 pa pb  fu) xs v2 l4
  else
  qX8_bridges_101 pa pb (qX8_bridges_51 pa pb  fu) xs l3 l4))
def fX8_bridges (xs : SX8) (pa : Int32) (pb : Int32) : Option (Int32 × SX8) :=
  (fX8_areTwoPoints xs pa pb).bind fun o1 =>
  (if o1 = (0 : Int32) then
  (fX8_counted xs (-1 : Int32)).bind fun o9 =>
  some (o9.1, o9.2)
  else
  (fX3_allWays (w_net xs)).bind fun o2 =>
  (fX3_reached (w_net xs) ((1 : Int32) <<< (pa &&& 31)) o2).bind fun o3 =>
  (fX8_has o3 pb).bind fun o4 =>
  (if o4 = (0 : Int32) then
  (fX8_counted xs (-3 : Int32)).bind fun o8 =>
  some (o8.1, o8.2)
  else
  qX8_bridges_51 pa pb FU xs (0 : Int32) (0 : Int32)))
set_option maxHeartbeats 4000000 in
set_option maxRecDepth 100000 in
theorem pX8_bridges_101 {p : Program} {l : Launch} {e : Env} {s : State} {m : MethodId} {args : Array Value} {below : List Frame} {meth : Method} {c : Code} {g : GG} {w0 : va_W} {a : Nat → Nat} {i : Nat} {pa : Int32} {pb : Int32} {o : (Int32 × SX8)} (X : mX g yX8_bridges cX8_bridges 5 (some .int) p s m args meth c w0)
  {k51 : SX8 → Int32 → Int32 → Option (Int32 × SX8)} (K51 : ∀ (xs : SX8) (l3 : Int32) (l4 : Int32) (H : Heap) (locs : List Loc) (ls : Array Slot), k51 xs l3 l4 = some o → mH g s w0 (wX8 g a i xs) H locs → lv_has ls 5 [(0, .ref (a i)), (1, .int pa), (2, .int pb), (3, .int l3), (4, .int l4)] → W p l e (rM 2 48) s m args below meth c H locs 0 0 (mZ g below args s w0 (wX8 g a i o.2) (some (.int o.1))) (F0 m 51 ls [])) :
  ∀ (xs : SX8) (l3 : Int32) (l4 : Int32) (H : Heap) (locs : List Loc) (ls : Array Slot), qX8_bridges_101 pa pb k51 xs l3 l4 = some o → mH g s w0 (wX8 g a i xs) H locs → lv_has ls 5 [(0, .ref (a i)), (1, .int pa), (2, .int pb), (3, .int l3), (4, .int l4)] → W p l e (rM 2 48) s m args below meth c H locs 0 0 (mZ g below args s w0 (wX8 g a i o.2) (some (.int o.1))) (F0 m 101 ls []) := by
  have hx := X.1
  have hb := X.2.1
  intro xs l3 l4 H locs ls h hH hl
  unfold qX8_bridges_101 at h
  obtain ⟨v1, ev1, h⟩ := ltt_x h
  refine s_inc X (k := 4) (lv' := [(4, .int v1), (0, .ref (a i)), (1, .int pa), (2, .int pb), (3, .int l3)]) hl rfl (by rw [ev1]; rfl) dX8_bridges_101 (by decide) rfl (fun ls hl => ?_)
  refine lv_goto (tgt := 51) hx hb dX8_bridges_104 (by decide) ?_
  exact K51 xs l3 v1 H locs ls h hH (lv_sub hl [1, 2, 3, 4, 0] rfl)
set_option maxHeartbeats 4000000 in
set_option maxRecDepth 100000 in
theorem pX8_bridges_51 {p : Program} {l : Launch} {e : Env} {s : State} {m : MethodId} {args : Array Value} {below : List Frame} {meth : Method} {c : Code} {g : GG} {w0 : va_W} {a : Nat → Nat} {i : Nat} {pa : Int32} {pb : Int32} {o : (Int32 × SX8)} (X : mX g yX8_bridges cX8_bridges 5 (some .int) p s m args meth c w0) :
  ∀ (fu : Nat) (xs : SX8) (l3 : Int32) (l4 : Int32) (H : Heap) (locs : List Loc) (ls : Array Slot), qX8_bridges_51 pa pb fu xs l3 l4 = some o → mH g s w0 (wX8 g a i xs) H locs → lv_has ls 5 [(0, .ref (a i)), (1, .int pa), (2, .int pb), (3, .int l3), (4, .int l4)] → W p l e (rM 2 48) s m args below meth c H locs 0 0 (mZ g below args s w0 (wX8 g a i o.2) (some (.int o.1))) (F0 m 51 ls []) := by
  have hx := X.1
  have hb := X.2.1
  intro fu
  induction fu with
  | zero =>
    intro xs l3 l4 H locs ls h
    unfold qX8_bridges_51 at h
    cases h
  | succ fu ih =>
    intro xs l3 l4 H locs ls h hH hl
    unfold qX8_bridges_51 at h
    refine lv_iload hx hb dX8_bridges_51 (lv_at hl 4 rfl) ?_
    refine lv_aload_n hx hb dX8_bridges_53 rfl (lv_at hl 0 rfl) ?_
    refine f_get X hH 0 rfl rfl 0 (by decide) inX8 fX8_10 rfl dX8_bridges_54 ?_
    refine f_get X hH 1 rfl rfl 1 (by decide) inX3 fX8_227 rfl dX8_bridges_57 ?_
    refine lv_icmp_ge (tgt := 107) hx hb dX8_bridges_60 (by decide) (fun c3 => ?_) (fun c3 => ?_)
    · have h := it_x h c3
      refine lv_iload_n hx hb dX8_bridges_107 rfl (lv_at hl 3 rfl) ?_
      have h := Option.some.inj h
      subst h
      exact e_i X hH dX8_bridges_108
    · have h := ie_x h c3
      refine lv_aload_n hx hb dX8_bridges_63 rfl (lv_at hl 0 rfl) ?_
      refine f_get X hH 0 rfl rfl 0 (by decide) inX8 fX8_10 rfl dX8_bridges_64 ?_
      refine lv_iconst (v := (1 : Int32)) hx hb dX8_bridges_67 (by decide) ?_
      refine lv_iload_n hx hb dX8_bridges_68 rfl (lv_at hl 1 rfl) ?_
      refine lv_ishl hx hb dX8_bridges_69 ?_
      refine lv_aload_n hx hb dX8_bridges_70 rfl (lv_at hl 0 rfl) ?_
      refine f_get X hH 0 rfl rfl 0 (by decide) inX8 fX8_10 rfl dX8_bridges_71 ?_
      obtain ⟨o5, ho5, h⟩ := bd_x h
      refine r_V X hH (ws1 := (wX8 g a i xs)) (As := []) (rest := [.int ((1 : Int32) <<< (pa &&& 31)), .ref (a (i + 1))]) (st1 := [.int o5, .int ((1 : Int32) <<< (pa &&& 31)), .ref (a (i + 1))]) (uX3_allWays (a := a) (i := (i + 1)) ho5) kX3_allWays mX8_157 iX3_allWays vX3_allWays zX3 okX3_allWays ⟨Nat.le_of_ble_eq_true rfl, Nat.le_of_ble_eq_true rfl⟩ rfl rfl (q0 := 1) rfl rfl (bX8_1) (bX8_1) rfl hl.1 rfl (Nat.le_of_ble_eq_true rfl) ⟨Nat.le_refl 0, Nat.le_refl 0⟩ rfl dX8_bridges_74 (fun H locs hH => ?_)
      refine lv_iconst (v := (1 : Int32)) hx hb dX8_bridges_77 (by decide) ?_
      refine lv_iload hx hb dX8_bridges_78 (lv_at hl 4 rfl) ?_
      refine lv_ishl hx hb dX8_bridges_80 ?_
      refine lv_iconst (v := (-1 : Int32)) hx hb dX8_bridges_81 (by decide) ?_
      refine lv_ixor hx hb dX8_bridges_82 ?_
      refine lv_iand hx hb dX8_bridges_83 ?_
      obtain ⟨o6, ho6, h⟩ := bd_x h
      refine r_V X hH (ws1 := (wX8 g a i xs)) (As := [.int ((1 : Int32) <<< (pa &&& 31)), .int (o5 &&& (((1 : Int32) <<< (l4 &&& 31)) ^^^ (-1 : Int32)))]) (rest := []) (st1 := [.int o6]) (uX3_reached (a := a) (i := (i + 1)) ho6) kX3_reached mX8_161 iX3_reached vX3_reached zX3 okX3_reached ⟨Nat.le_of_ble_eq_true rfl, Nat.le_of_ble_eq_true rfl⟩ rfl rfl (q0 := 1) rfl rfl (bX8_1) (bX8_1) rfl hl.1 rfl (Nat.le_of_ble_eq_true rfl) ⟨Nat.le_refl 0, Nat.le_refl 0⟩ rfl dX8_bridges_84 (fun H locs hH => ?_)
      refine lv_iload_n hx hb dX8_bridges_87 rfl (lv_at hl 2 rfl) ?_
      obtain ⟨o7, ho7, h⟩ := bd_x h
      refine r_S X hH (ws1 := (wX8 g a i xs)) (As := [.int o6, .int pb]) (rest := []) (st1 := [.int o7]) (uX8_has  ho7) kX8_has mX8_203 sX8_has zX8 okX8_has ⟨Nat.le_of_ble_eq_true rfl, Nat.le_of_ble_eq_true rfl⟩ rfl rfl (pm_none _) (pm_none _) rfl hl.1 rfl (Nat.le_of_ble_eq_true rfl) ⟨Nat.le_refl 0, Nat.le_refl 0⟩ rfl dX8_bridges_88 (fun H locs hH => ?_)
      refine lv_if_ne (tgt := 101) hx hb dX8_bridges_91 (by decide) (fun c4 => ?_) (fun c4 => ?_)
      · have h := ie_x h c4
        exact pX8_bridges_101 X ih xs l3 l4 H locs ls h hH (lv_sub hl [0, 1, 2, 3, 4] rfl)
      · have h := it_x h c4
        refine lv_iload_n hx hb dX8_bridges_94 rfl (lv_at hl 3 rfl) ?_
        refine lv_iconst (v := (1 : Int32)) hx hb dX8_bridges_95 (by decide) ?_
        refine lv_iload hx hb dX8_bridges_96 (lv_at hl 4 rfl) ?_
        refine lv_ishl hx hb dX8_bridges_98 ?_
        refine lv_ior hx hb dX8_bridges_99 ?_
        obtain ⟨v2, ev2, h⟩ := ltt_x h
        refine s_in X (lv' := [(3, .int v2), (0, .ref (a i)), (1, .int pa), (2, .int pb), (4, .int l4)]) hl ev2 dX8_bridges_100 rfl (by decide) rfl (fun ls hl => ?_)
        exact pX8_bridges_101 X ih xs v2 l4 H locs ls h hH (lv_sub hl [1, 2, 3, 0, 4] rfl)
set_option maxHeartbeats 4000000 in
set_option maxRecDepth 100000 in
theorem uX8_bridges {l : Launch} {g : GG} {a : Nat → Nat} {i : Nat} {xs : SX8} {pa : Int32} {pb : Int32} {o : (Int32 × SX8)} (h : fX8_bridges xs pa pb = some o) : mC l g yX8_bridges cX8_bridges 5 (some .int) (rM 2 48) [.ref (a i), .int pa, .int pb] (wX8 g a i xs) (wX8 g a i o.2) (some (.int o.1)) := by
  refine mC.ofW (by decide) (fun p e s m below meth c X hH ls _ hl => ?_) (Nat.le_of_ble_eq_true rfl)
  have hx := X.1
  have hb := X.2.1
  have hl : lv_has ls 5 [(0, .ref (a i)), (1, .int pa), (2, .int pb)] := hl
  unfold fX8_bridges at h
  suffices HH : ∀ (H : Heap) (locs : List Loc), mH g s (wX8 g a i xs) (wX8 g a i xs) H locs → W p l e (rM 2 48) s m _ below meth c H locs 0 0 (mZ g below _ s (wX8 g a i xs) (wX8 g a i o.2) (some (.int o.1))) (F0 m 0 ls []) from HH _ _ hH
  clear hH
  intro H locs hH
  refine lv_aload_n hx hb dX8_bridges_0 rfl (lv_at hl 0 rfl) ?_
  refine lv_iload_n hx hb dX8_bridges_1 rfl (lv_at hl 1 rfl) ?_
  refine lv_iload_n hx hb dX8_bridges_2 rfl (lv_at hl 2 rfl) ?_
  obtain ⟨o1, ho1, h⟩ := bd_x h
  refine r_V X hH (ws1 := (wX8 g a i xs)) (As := [.int pa, .int pb]) (rest := []) (st1 := [.int o1]) (uX8_areTwoPoints (a := a) (i := i) ho1) kX8_areTwoPoints mX8_210 iX8_areTwoPoints vX8_areTwoPoints zX8 okX8_areTwoPoints ⟨Nat.le_of_ble_eq_true rfl, Nat.le_of_ble_eq_true rfl⟩ rfl rfl (q0 := 0) rfl rfl (pm_all _) (pm_all _) rfl hl.1 rfl (Nat.le_of_ble_eq_true rfl) ⟨Nat.le_refl 0, Nat.le_refl 0⟩ rfl dX8_bridges_3 (fun H locs hH => ?_)
  refine lv_if_ne (tgt := 15) hx hb dX8_bridges_6 (by decide) (fun c1 => ?_) (fun c1 => ?_)
  · have h := ie_x h c1
    refine lv_aload_n hx hb dX8_bridges_15 rfl (lv_at hl 0 rfl) ?_
    refine f_get X hH 0 rfl rfl 0 (by decide) inX8 fX8_10 rfl dX8_bridges_16 ?_
    refine lv_iconst (v := (1 : Int32)) hx hb dX8_bridges_19 (by decide) ?_
    refine lv_iload_n hx hb dX8_bridges_20 rfl (lv_at hl 1 rfl) ?_
    refine lv_ishl hx hb dX8_bridges_21 ?_
    refine lv_aload_n hx hb dX8_bridges_22 rfl (lv_at hl 0 rfl) ?_
    refine f_get X hH 0 rfl rfl 0 (by decide) inX8 fX8_10 rfl dX8_bridges_23 ?_
    obtain ⟨o2, ho2, h⟩ := bd_x h
    refine r_V X hH (ws1 := (wX8 g a i xs)) (As := []) (rest := [.int ((1 : Int32) <<< (pa &&& 31)), .ref (a (i + 1))]) (st1 := [.int o2, .int ((1 : Int32) <<< (pa &&& 31)), .ref (a (i + 1))]) (uX3_allWays (a := a) (i := (i + 1)) ho2) kX3_allWays mX8_157 iX3_allWays vX3_allWays zX3 okX3_allWays ⟨Nat.le_of_ble_eq_true rfl, Nat.le_of_ble_eq_true rfl⟩ rfl rfl (q0 := 1) rfl rfl (bX8_1) (bX8_1) rfl hl.1 rfl (Nat.le_of_ble_eq_true rfl) ⟨Nat.le_refl 0, Nat.le_refl 0⟩ rfl dX8_bridges_26 (fun H locs hH => ?_)
    obtain ⟨o3, ho3, h⟩ := bd_x h
    refine r_V X hH (ws1 := (wX8 g a i xs)) (As := [.int ((1 : Int32) <<< (pa &&& 31)), .int o2]) (rest := []) (st1 := [.int o3]) (uX3_reached (a := a) (i := (i + 1)) ho3) kX3_reached mX8_161 iX3_reached vX3_reached zX3 okX3_reached ⟨Nat.le_of_ble_eq_true rfl, Nat.le_of_ble_eq_true rfl⟩ rfl rfl (q0 := 1) rfl rfl (bX8_1) (bX8_1) rfl hl.1 rfl (Nat.le_of_ble_eq_true rfl) ⟨Nat.le_refl 0, Nat.le_refl 0⟩ rfl dX8_bridges_29 (fun H locs hH => ?_)
    refine lv_iload_n hx hb dX8_bridges_32 rfl (lv_at hl 2 rfl) ?_
    obtain ⟨o4, ho4, h⟩ := bd_x h
    refine r_S X hH (ws1 := (wX8 g a i xs)) (As := [.int o3, .int pb]) (rest := []) (st1 := [.int o4]) (uX8_has  ho4) kX8_has mX8_203 sX8_has zX8 okX8_has ⟨Nat.le_of_ble_eq_true rfl, Nat.le_of_ble_eq_true rfl⟩ rfl rfl (pm_none _) (pm_none _) rfl hl.1 rfl (Nat.le_of_ble_eq_true rfl) ⟨Nat.le_refl 0, Nat.le_refl 0⟩ rfl dX8_bridges_33 (fun H locs hH => ?_)
    refine lv_if_ne (tgt := 46) hx hb dX8_bridges_36 (by decide) (fun c2 => ?_) (fun c2 => ?_)
    · have h := ie_x h c2
      refine lv_iconst (v := (0 : Int32)) hx hb dX8_bridges_46 (by decide) ?_
      refine s_in X (lv' := [(3, .int (0 : Int32)), (0, .ref (a i)), (1, .int pa), (2, .int pb)]) hl rfl dX8_bridges_47 rfl (by decide) rfl (fun ls hl => ?_)
      refine lv_iconst (v := (0 : Int32)) hx hb dX8_bridges_48 (by decide) ?_
      refine s_i X (lv' := [(4, .int (0 : Int32)), (3, .int (0 : Int32)), (0, .ref (a i)), (1, .int pa), (2, .int pb)]) hl rfl dX8_bridges_49 (by decide) rfl (fun ls hl => ?_)
      exact pX8_bridges_51 X FU xs (0 : Int32) (0 : Int32) H locs ls h hH (lv_sub hl [2, 3, 4, 1, 0] rfl)
    · have h := it_x h c2
      refine lv_aload_n hx hb dX8_bridges_39 rfl (lv_at hl 0 rfl) ?_
      refine lv_bipush (v := (-3 : Int32)) hx hb dX8_bridges_40 (by decide) ?_
      obtain ⟨o8, ho8, h⟩ := bd_x h
      refine r_V X hH (ws1 := (wX8 g a i o8.2)) (As := [.int (-3 : Int32)]) (rest := []) (st1 := [.int o8.1]) (uX8_counted (a := a) (i := i) ho8) kX8_counted mX8_94 iX8_counted vX8_counted zX8 okX8_counted ⟨Nat.le_of_ble_eq_true rfl, Nat.le_of_ble_eq_true rfl⟩ rfl rfl (q0 := 0) rfl rfl (pm_all _) (pm_all _) rfl hl.1 rfl (Nat.le_of_ble_eq_true rfl) ⟨Nat.le_refl 0, Nat.le_refl 0⟩ rfl dX8_bridges_42 (fun H locs hH => ?_)
      have h := Option.some.inj h
      subst h
      exact e_i X hH dX8_bridges_45
  · have h := it_x h c1
    refine lv_aload_n hx hb dX8_bridges_9 rfl (lv_at hl 0 rfl) ?_
    refine lv_iconst (v := (-1 : Int32)) hx hb dX8_bridges_10 (by decide) ?_
    obtain ⟨o9, ho9, h⟩ := bd_x h
    refine r_V X hH (ws1 := (wX8 g a i o9.2)) (As := [.int (-1 : Int32)]) (rest := []) (st1 := [.int o9.1]) (uX8_counted (a := a) (i := i) ho9) kX8_counted mX8_94 iX8_counted vX8_counted zX8 okX8_counted ⟨Nat.le_of_ble_eq_true rfl, Nat.le_of_ble_eq_true rfl⟩ rfl rfl (q0 := 0) rfl rfl (pm_all _) (pm_all _) rfl hl.1 rfl (Nat.le_of_ble_eq_true rfl) ⟨Nat.le_refl 0, Nat.le_refl 0⟩ rfl dX8_bridges_11 (fun H locs hH => ?_)
    have h := Option.some.inj h
    subst h
    exact e_i X hH dX8_bridges_14
