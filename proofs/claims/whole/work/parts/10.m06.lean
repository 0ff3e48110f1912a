def qX8_farthest_150 (pa : Int32) (k47 : SX8 → Int32 → Int32 → Int64 → Int64 → Int32 → Option (Int32 × SX8)) (xs : SX8) (l2 : Int32) (l3 : Int32) (l4 : Int64) (l6 : Int64) (l8 : Int32) : Option (Int32 × SX8) :=
  ltt (l8 + (1 : Int32)) fun v1 =>
  k47 xs l2 l3 l4 l6 v1
def qX8_farthest_127 (pa : Int32) (k150 : SX8 → Int32 → Int32 → Int64 → Int64 → Int32 → Option (Int32 × SX8)) (xs : SX8) (l2 : Int32) (l8 : Int32) : Option (Int32 × SX8) :=
  ga 6 pa fun j1 =>
  ltt (((eq_above (w_equations xs)) j1)) fun v2 =>
  ltt ((eq_below (w_equations xs))) fun v3 =>
  k150 xs l2 l8 v2 v3 l8
def qX8_farthest_47 (pa : Int32)  : Nat → SX8 → Int32 → Int32 → Int64 → Int64 → Int32 → Option (Int32 × SX8)
  | 0, _, _, _, _, _, _ => none
  | fu + 1, xs, l2, l3, l4, l6, l8 =>
  (if (n_points (w_net xs)) ≤ l8 then
  some (l3, xs)
  else
  (if l8 = pa then
  qX8_farthest_150 pa (qX8_farthest_47 pa  fu) xs l2 l3 l4 l6 l8
  else
  (fX8_has l2 l8).bind fun o4 =>
  (if o4 = (0 : Int32) then
  qX8_farthest_150 pa (qX8_farthest_47 pa  fu) xs l2 l3 l4 l6 l8
  else
  (fX3_allWays (w_net xs)).bind fun o5 =>
  (fX0_timesTo (w_equations xs) (w_net xs) o5 l8).bind fun o6 =>
  ltt ((w_equations_s xs o6)) fun xs1 =>
  (if l3 < (0 : Int32) then
  qX8_farthest_127 pa (qX8_farthest_150 pa (qX8_farthest_47 pa  fu)) xs1 l2 l8
  else
  ga 6 pa fun j2 =>
  (fX8_compare ((eq_above (w_equations xs1)) j2) (eq_below (w_equations xs1)) l4 l6).bind fun o7 =>
  (if o7 ≤ (0 : Int32) then
  qX8_farthest_150 pa (qX8_farthest_47 pa  fu) xs1 l2 l3 l4 l6 l8
  else
  qX8_farthest_127 pa (qX8_farthest_150 pa (qX8_farthest_47 pa  fu)) xs1 l2 l8)))))
def fX8_farthest (xs : SX8) (pa : Int32) : Option (Int32 × SX8) :=
  (fX3_isPoint (w_net xs) pa).bind fun o1 =>
  (if o1 = (0 : Int32) then
  (fX8_counted xs (-1 : Int32)).bind fun o8 =>
  some (o8.1, o8.2)
  else
  (fX3_allWays (w_net xs)).bind fun o2 =>
  (fX3_reached (w_net xs) ((1 : Int32) <<< (pa &&& 31)) o2).bind fun o3 =>
  qX8_farthest_47 pa FU xs o3 (-9 : Int32) (0 : Int64) (1 : Int64) (0 : Int32))
set_option maxHeartbeats 4000000 in
set_option maxRecDepth 100000 in
theorem pX8_farthest_150 {p : Program} {l : Launch} {e : Env} {s : State} {m : MethodId} {args : Array Value} {below : List Frame} {meth : Method} {c : Code} {g : GG} {w0 : va_W} {a : Nat → Nat} {i : Nat} {pa : Int32} {o : (Int32 × SX8)} (X : mX g yX8_farthest cX8_farthest 9 (some .int) p s m args meth c w0)
  {k47 : SX8 → Int32 → Int32 → Int64 → Int64 → Int32 → Option (Int32 × SX8)} (K47 : ∀ (xs : SX8) (l2 : Int32) (l3 : Int32) (l4 : Int64) (l6 : Int64) (l8 : Int32) (H : Heap) (locs : List Loc) (ls : Array Slot), k47 xs l2 l3 l4 l6 l8 = some o → mH g s w0 (wX8 g a i xs) H locs → lv_has ls 9 [(0, .ref (a i)), (1, .int pa), (2, .int l2), (3, .int l3), (4, .long l4), (6, .long l6), (8, .int l8)] → W p l e (rM 4 102) s m args below meth c H locs 0 0 (mZ g below args s w0 (wX8 g a i o.2) (some (.int o.1))) (F0 m 47 ls [])) :
  ∀ (xs : SX8) (l2 : Int32) (l3 : Int32) (l4 : Int64) (l6 : Int64) (l8 : Int32) (H : Heap) (locs : List Loc) (ls : Array Slot), qX8_farthest_150 pa k47 xs l2 l3 l4 l6 l8 = some o → mH g s w0 (wX8 g a i xs) H locs → lv_has ls 9 [(0, .ref (a i)), (1, .int pa), (2, .int l2), (3, .int l3), (4, .long l4), (6, .long l6), (8, .int l8)] → W p l e (rM 4 102) s m args below meth c H locs 0 0 (mZ g below args s w0 (wX8 g a i o.2) (some (.int o.1))) (F0 m 150 ls []) := by
  have hx := X.1
  have hb := X.2.1
  intro xs l2 l3 l4 l6 l8 H locs ls h hH hl
  unfold qX8_farthest_150 at h
  obtain ⟨v1, ev1, h⟩ := ltt_x h
  refine s_inc X (k := 6) (lv' := [(8, .int v1), (0, .ref (a i)), (1, .int pa), (2, .int l2), (3, .int l3), (4, .long l4), (6, .long l6)]) hl rfl (by rw [ev1]; rfl) dX8_farthest_150 (by decide) rfl (fun ls hl => ?_)
  refine lv_goto (tgt := 47) hx hb dX8_farthest_153 (by decide) ?_
  exact K47 xs l2 l3 l4 l6 v1 H locs ls h hH (lv_sub hl [1, 2, 3, 4, 5, 6, 0] rfl)
set_option maxHeartbeats 4000000 in
set_option maxRecDepth 100000 in
theorem pX8_farthest_127 {p : Program} {l : Launch} {e : Env} {s : State} {m : MethodId} {args : Array Value} {below : List Frame} {meth : Method} {c : Code} {g : GG} {w0 : va_W} {a : Nat → Nat} {i : Nat} {pa : Int32} {o : (Int32 × SX8)} (X : mX g yX8_farthest cX8_farthest 9 (some .int) p s m args meth c w0)
  {k150 : SX8 → Int32 → Int32 → Int64 → Int64 → Int32 → Option (Int32 × SX8)} (K150 : ∀ (xs : SX8) (l2 : Int32) (l3 : Int32) (l4 : Int64) (l6 : Int64) (l8 : Int32) (H : Heap) (locs : List Loc) (ls : Array Slot), k150 xs l2 l3 l4 l6 l8 = some o → mH g s w0 (wX8 g a i xs) H locs → lv_has ls 9 [(0, .ref (a i)), (1, .int pa), (2, .int l2), (3, .int l3), (4, .long l4), (6, .long l6), (8, .int l8)] → W p l e (rM 4 102) s m args below meth c H locs 0 0 (mZ g below args s w0 (wX8 g a i o.2) (some (.int o.1))) (F0 m 150 ls [])) :
  ∀ (xs : SX8) (l2 : Int32) (l8 : Int32) (H : Heap) (locs : List Loc) (ls : Array Slot), qX8_farthest_127 pa k150 xs l2 l8 = some o → mH g s w0 (wX8 g a i xs) H locs → lv_has ls 9 [(0, .ref (a i)), (1, .int pa), (2, .int l2), (8, .int l8)] → W p l e (rM 4 102) s m args below meth c H locs 0 0 (mZ g below args s w0 (wX8 g a i o.2) (some (.int o.1))) (F0 m 127 ls []) := by
  have hx := X.1
  have hb := X.2.1
  intro xs l2 l8 H locs ls h hH hl
  unfold qX8_farthest_127 at h
  refine lv_iload hx hb dX8_farthest_127 (lv_at hl 3 rfl) ?_
  refine s_in X (lv' := [(3, .int l8), (0, .ref (a i)), (1, .int pa), (2, .int l2), (8, .int l8)]) hl rfl dX8_farthest_129 rfl (by decide) rfl (fun ls hl => ?_)
  refine lv_aload_n hx hb dX8_farthest_130 rfl (lv_at hl 1 rfl) ?_
  refine f_get X hH 0 rfl rfl 4 (by decide) inX8 fX8_29 rfl dX8_farthest_131 ?_
  refine f_get X hH 22 rfl rfl 0 (by decide) inX0 fX8_175 rfl dX8_farthest_134 ?_
  refine lv_iload_n hx hb dX8_farthest_137 rfl (lv_at hl 2 rfl) ?_
  obtain ⟨j1, ej1, hinj1, h⟩ := ga_x h
  refine a_ll X hH 23 rfl hinj1 ej1 dX8_farthest_138 ?_
  obtain ⟨v2, ev2, h⟩ := ltt_x h
  refine s_l X (lv' := [(4, .long v2), (3, .int l8), (0, .ref (a i)), (1, .int pa), (2, .int l2), (8, .int l8)]) hl ev2 dX8_farthest_139 (by decide) rfl (fun ls hl => ?_)
  refine lv_aload_n hx hb dX8_farthest_141 rfl (lv_at hl 2 rfl) ?_
  refine f_get X hH 0 rfl rfl 4 (by decide) inX8 fX8_29 rfl dX8_farthest_142 ?_
  refine f_get X hH 22 rfl rfl 1 (by decide) inX0 fX8_178 rfl dX8_farthest_145 ?_
  obtain ⟨v3, ev3, h⟩ := ltt_x h
  refine s_l X (lv' := [(6, .long v3), (4, .long v2), (3, .int l8), (0, .ref (a i)), (1, .int pa), (2, .int l2), (8, .int l8)]) hl ev3 dX8_farthest_148 (by decide) rfl (fun ls hl => ?_)
  exact K150 xs l2 l8 v2 v3 l8 H locs ls h hH (lv_sub hl [3, 4, 5, 2, 1, 0, 6] rfl)
set_option maxHeartbeats 4000000 in
set_option maxRecDepth 100000 in
theorem pX8_farthest_47 {p : Program} {l : Launch} {e : Env} {s : State} {m : MethodId} {args : Array Value} {below : List Frame} {meth : Method} {c : Code} {g : GG} {w0 : va_W} {a : Nat → Nat} {i : Nat} {pa : Int32} {o : (Int32 × SX8)} (X : mX g yX8_farthest cX8_farthest 9 (some .int) p s m args meth c w0) :
  ∀ (fu : Nat) (xs : SX8) (l2 : Int32) (l3 : Int32) (l4 : Int64) (l6 : Int64) (l8 : Int32) (H : Heap) (locs : List Loc) (ls : Array Slot), qX8_farthest_47 pa fu xs l2 l3 l4 l6 l8 = some o → mH g s w0 (wX8 g a i xs) H locs → lv_has ls 9 [(0, .ref (a i)), (1, .int pa), (2, .int l2), (3, .int l3), (4, .long l4), (6, .long l6), (8, .int l8)] → W p l e (rM 4 102) s m args below meth c H locs 0 0 (mZ g below args s w0 (wX8 g a i o.2) (some (.int o.1))) (F0 m 47 ls []) := by
  have hx := X.1
  have hb := X.2.1
  intro fu
  induction fu with
  | zero =>
    intro xs l2 l3 l4 l6 l8 H locs ls h
    unfold qX8_farthest_47 at h
    cases h
  | succ fu ih =>
    intro xs l2 l3 l4 l6 l8 H locs ls h hH hl
    unfold qX8_farthest_47 at h
    refine lv_iload hx hb dX8_farthest_47 (lv_at hl 6 rfl) ?_
    refine lv_aload_n hx hb dX8_farthest_49 rfl (lv_at hl 0 rfl) ?_
    refine f_get X hH 0 rfl rfl 0 (by decide) inX8 fX8_10 rfl dX8_farthest_50 ?_
    refine f_get X hH 1 rfl rfl 0 (by decide) inX3 fX8_216 rfl dX8_farthest_53 ?_
    refine lv_icmp_ge (tgt := 156) hx hb dX8_farthest_56 (by decide) (fun c2 => ?_) (fun c2 => ?_)
    · have h := it_x h c2
      refine lv_iload_n hx hb dX8_farthest_156 rfl (lv_at hl 3 rfl) ?_
      have h := Option.some.inj h
      subst h
      exact e_i X hH dX8_farthest_157
    · have h := ie_x h c2
      refine lv_iload hx hb dX8_farthest_59 (lv_at hl 6 rfl) ?_
      refine lv_iload_n hx hb dX8_farthest_61 rfl (lv_at hl 1 rfl) ?_
      refine lv_icmp_eq (tgt := 150) hx hb dX8_farthest_62 (by decide) (fun c3 => ?_) (fun c3 => ?_)
      · have h := it_x h c3
        exact pX8_farthest_150 X ih xs l2 l3 l4 l6 l8 H locs ls h hH (lv_sub hl [0, 1, 2, 3, 4, 5, 6] rfl)
      · have h := ie_x h c3
        refine lv_iload_n hx hb dX8_farthest_65 rfl (lv_at hl 2 rfl) ?_
        refine lv_iload hx hb dX8_farthest_66 (lv_at hl 6 rfl) ?_
        obtain ⟨o4, ho4, h⟩ := bd_x h
        refine r_S X hH (ws1 := (wX8 g a i xs)) (As := [.int l2, .int l8]) (rest := []) (st1 := [.int o4]) (uX8_has  ho4) kX8_has mX8_203 sX8_has zX8 okX8_has ⟨Nat.le_of_ble_eq_true rfl, Nat.le_of_ble_eq_true rfl⟩ rfl rfl (pm_none _) (pm_none _) rfl hl.1 rfl (Nat.le_of_ble_eq_true rfl) ⟨Nat.le_refl 0, Nat.le_refl 0⟩ rfl dX8_farthest_68 (fun H locs hH => ?_)
        refine lv_if_ne (tgt := 77) hx hb dX8_farthest_71 (by decide) (fun c4 => ?_) (fun c4 => ?_)
        · have h := ie_x h c4
          refine lv_aload_n hx hb dX8_farthest_77 rfl (lv_at hl 0 rfl) ?_
          refine f_get X hH 0 rfl rfl 4 (by decide) inX8 fX8_29 rfl dX8_farthest_78 ?_
          refine lv_aload_n hx hb dX8_farthest_81 rfl (lv_at hl 0 rfl) ?_
          refine f_get X hH 0 rfl rfl 0 (by decide) inX8 fX8_10 rfl dX8_farthest_82 ?_
          refine lv_aload_n hx hb dX8_farthest_85 rfl (lv_at hl 0 rfl) ?_
          refine f_get X hH 0 rfl rfl 0 (by decide) inX8 fX8_10 rfl dX8_farthest_86 ?_
          obtain ⟨o5, ho5, h⟩ := bd_x h
          refine r_V X hH (ws1 := (wX8 g a i xs)) (As := []) (rest := [.ref (a (i + 1)), .ref (a (i + 22))]) (st1 := [.int o5, .ref (a (i + 1)), .ref (a (i + 22))]) (uX3_allWays (a := a) (i := (i + 1)) ho5) kX3_allWays mX8_157 iX3_allWays vX3_allWays zX3 okX3_allWays ⟨Nat.le_of_ble_eq_true rfl, Nat.le_of_ble_eq_true rfl⟩ rfl rfl (q0 := 1) rfl rfl (bX8_1) (bX8_1) rfl hl.1 rfl (Nat.le_of_ble_eq_true rfl) ⟨Nat.le_refl 0, Nat.le_refl 0⟩ rfl dX8_farthest_89 (fun H locs hH => ?_)
          refine lv_iload hx hb dX8_farthest_92 (lv_at hl 6 rfl) ?_
          obtain ⟨o6, ho6, h⟩ := bd_x h
          obtain ⟨xs1, exs1, h⟩ := ltt_x h
          refine r_V X hH (ws1 := (wX8 g a i xs1)) (As := [.ref (a (i + 1)), .int o5, .int l8]) (rest := []) (st1 := []) (uX0_timesTo (a := a) (i := (i + 22)) (b := a) (j := (i + 1)) ho6) kX0_timesTo mX8_171 iX0_timesTo vX0_timesTo zX0 okX0_timesTo ⟨Nat.le_of_ble_eq_true rfl, Nat.le_of_ble_eq_true rfl⟩ rfl rfl (q0 := 22) rfl rfl (pm_2 (bX8_4) (bX8_4_1)) (by rw [exs1]; exact (pm_2 (bX8_4) (bX8_4_1))) rfl hl.1 rfl (Nat.le_of_ble_eq_true rfl) ⟨Nat.le_refl 0, Nat.le_refl 0⟩ rfl dX8_farthest_94 (fun H locs hH => ?_)
          refine lv_iload_n hx hb dX8_farthest_97 rfl (lv_at hl 3 rfl) ?_
          refine lv_if_lt (tgt := 127) hx hb dX8_farthest_98 (by decide) (fun c5 => ?_) (fun c5 => ?_)
          · have h := it_x h c5
            exact pX8_farthest_127 X (pX8_farthest_150 X ih) xs1 l2 l8 H locs ls h hH (lv_sub hl [0, 1, 2, 6] rfl)
          · have h := ie_x h c5
            refine lv_aload_n hx hb dX8_farthest_101 rfl (lv_at hl 0 rfl) ?_
            refine f_get X hH 0 rfl rfl 4 (by decide) inX8 fX8_29 rfl dX8_farthest_102 ?_
            refine f_get X hH 22 rfl rfl 0 (by decide) inX0 fX8_175 rfl dX8_farthest_105 ?_
            refine lv_iload_n hx hb dX8_farthest_108 rfl (lv_at hl 1 rfl) ?_
            obtain ⟨j2, ej2, hinj2, h⟩ := ga_x h
            refine a_ll X hH 23 rfl hinj2 ej2 dX8_farthest_109 ?_
            refine lv_aload_n hx hb dX8_farthest_110 rfl (lv_at hl 0 rfl) ?_
            refine f_get X hH 0 rfl rfl 4 (by decide) inX8 fX8_29 rfl dX8_farthest_111 ?_
            refine f_get X hH 22 rfl rfl 1 (by decide) inX0 fX8_178 rfl dX8_farthest_114 ?_
            refine lv_lload hx hb dX8_farthest_117 (lv_at hl 4 rfl) ?_
            refine lv_lload hx hb dX8_farthest_119 (lv_at hl 5 rfl) ?_
            obtain ⟨o7, ho7, h⟩ := bd_x h
            refine r_S X hH (ws1 := (wX8 g a i xs1)) (As := [.long ((eq_above (w_equations xs1)) j2), .long (eq_below (w_equations xs1)), .long l4, .long l6]) (rest := []) (st1 := [.int o7]) (uX8_compare  ho7) kX8_compare mX8_223 sX8_compare zX8 okX8_compare ⟨Nat.le_of_ble_eq_true rfl, Nat.le_of_ble_eq_true rfl⟩ rfl rfl (pm_none _) (pm_none _) rfl hl.1 rfl (Nat.le_of_ble_eq_true rfl) ⟨Nat.le_refl 0, Nat.le_refl 0⟩ rfl dX8_farthest_121 (fun H locs hH => ?_)
            refine lv_if_le (tgt := 150) hx hb dX8_farthest_124 (by decide) (fun c6 => ?_) (fun c6 => ?_)
            · have h := it_x h c6
              exact pX8_farthest_150 X ih xs1 l2 l3 l4 l6 l8 H locs ls h hH (lv_sub hl [0, 1, 2, 3, 4, 5, 6] rfl)
            · have h := ie_x h c6
              exact pX8_farthest_127 X (pX8_farthest_150 X ih) xs1 l2 l8 H locs ls h hH (lv_sub hl [0, 1, 2, 6] rfl)
        · have h := it_x h c4
          refine lv_goto (tgt := 150) hx hb dX8_farthest_74 (by decide) ?_
          exact pX8_farthest_150 X ih xs l2 l3 l4 l6 l8 H locs ls h hH (lv_sub hl [0, 1, 2, 3, 4, 5, 6] rfl)
set_option maxHeartbeats 4000000 in
set_option maxRecDepth 100000 in
theorem uX8_farthest {l : Launch} {g : GG} {a : Nat → Nat} {i : Nat} {xs : SX8} {pa : Int32} {o : (Int32 × SX8)} (h : fX8_farthest xs pa = some o) : mC l g yX8_farthest cX8_farthest 9 (some .int) (rM 4 102) [.ref (a i), .int pa] (wX8 g a i xs) (wX8 g a i o.2) (some (.int o.1)) := by
  refine mC.ofW (by decide) (fun p e s m below meth c X hH ls _ hl => ?_) (Nat.le_of_ble_eq_true rfl)
  have hx := X.1
  have hb := X.2.1
  have hl : lv_has ls 9 [(0, .ref (a i)), (1, .int pa)] := hl
  unfold fX8_farthest at h
  suffices HH : ∀ (H : Heap) (locs : List Loc), mH g s (wX8 g a i xs) (wX8 g a i xs) H locs → W p l e (rM 4 102) s m _ below meth c H locs 0 0 (mZ g below _ s (wX8 g a i xs) (wX8 g a i o.2) (some (.int o.1))) (F0 m 0 ls []) from HH _ _ hH
  clear hH
  intro H locs hH
  refine lv_aload_n hx hb dX8_farthest_0 rfl (lv_at hl 0 rfl) ?_
  refine f_get X hH 0 rfl rfl 0 (by decide) inX8 fX8_10 rfl dX8_farthest_1 ?_
  refine lv_iload_n hx hb dX8_farthest_4 rfl (lv_at hl 1 rfl) ?_
  obtain ⟨o1, ho1, h⟩ := bd_x h
  refine r_V X hH (ws1 := (wX8 g a i xs)) (As := [.int pa]) (rest := []) (st1 := [.int o1]) (uX3_isPoint (a := a) (i := (i + 1)) ho1) kX3_isPoint mX8_154 iX3_isPoint vX3_isPoint zX3 okX3_isPoint ⟨Nat.le_of_ble_eq_true rfl, Nat.le_of_ble_eq_true rfl⟩ rfl rfl (q0 := 1) rfl rfl (bX8_1) (bX8_1) rfl hl.1 rfl (Nat.le_of_ble_eq_true rfl) ⟨Nat.le_refl 0, Nat.le_refl 0⟩ rfl dX8_farthest_5 (fun H locs hH => ?_)
  refine lv_if_ne (tgt := 17) hx hb dX8_farthest_8 (by decide) (fun c1 => ?_) (fun c1 => ?_)
  · have h := ie_x h c1
    refine lv_aload_n hx hb dX8_farthest_17 rfl (lv_at hl 0 rfl) ?_
    refine f_get X hH 0 rfl rfl 0 (by decide) inX8 fX8_10 rfl dX8_farthest_18 ?_
    refine lv_iconst (v := (1 : Int32)) hx hb dX8_farthest_21 (by decide) ?_
    refine lv_iload_n hx hb dX8_farthest_22 rfl (lv_at hl 1 rfl) ?_
    refine lv_ishl hx hb dX8_farthest_23 ?_
    refine lv_aload_n hx hb dX8_farthest_24 rfl (lv_at hl 0 rfl) ?_
    refine f_get X hH 0 rfl rfl 0 (by decide) inX8 fX8_10 rfl dX8_farthest_25 ?_
    obtain ⟨o2, ho2, h⟩ := bd_x h
    refine r_V X hH (ws1 := (wX8 g a i xs)) (As := []) (rest := [.int ((1 : Int32) <<< (pa &&& 31)), .ref (a (i + 1))]) (st1 := [.int o2, .int ((1 : Int32) <<< (pa &&& 31)), .ref (a (i + 1))]) (uX3_allWays (a := a) (i := (i + 1)) ho2) kX3_allWays mX8_157 iX3_allWays vX3_allWays zX3 okX3_allWays ⟨Nat.le_of_ble_eq_true rfl, Nat.le_of_ble_eq_true rfl⟩ rfl rfl (q0 := 1) rfl rfl (bX8_1) (bX8_1) rfl hl.1 rfl (Nat.le_of_ble_eq_true rfl) ⟨Nat.le_refl 0, Nat.le_refl 0⟩ rfl dX8_farthest_28 (fun H locs hH => ?_)
    obtain ⟨o3, ho3, h⟩ := bd_x h
    refine r_V X hH (ws1 := (wX8 g a i xs)) (As := [.int ((1 : Int32) <<< (pa &&& 31)), .int o2]) (rest := []) (st1 := [.int o3]) (uX3_reached (a := a) (i := (i + 1)) ho3) kX3_reached mX8_161 iX3_reached vX3_reached zX3 okX3_reached ⟨Nat.le_of_ble_eq_true rfl, Nat.le_of_ble_eq_true rfl⟩ rfl rfl (q0 := 1) rfl rfl (bX8_1) (bX8_1) rfl hl.1 rfl (Nat.le_of_ble_eq_true rfl) ⟨Nat.le_refl 0, Nat.le_refl 0⟩ rfl dX8_farthest_31 (fun H locs hH => ?_)
    refine s_in X (lv' := [(2, .int o3), (0, .ref (a i)), (1, .int pa)]) hl rfl dX8_farthest_34 rfl (by decide) rfl (fun ls hl => ?_)
    refine lv_bipush (v := (-9 : Int32)) hx hb dX8_farthest_35 (by decide) ?_
    refine s_in X (lv' := [(3, .int (-9 : Int32)), (2, .int o3), (0, .ref (a i)), (1, .int pa)]) hl rfl dX8_farthest_37 rfl (by decide) rfl (fun ls hl => ?_)
    refine lv_lconst (v := (0 : Int64)) hx hb dX8_farthest_38 (by decide) ?_
    refine s_l X (lv' := [(4, .long (0 : Int64)), (3, .int (-9 : Int32)), (2, .int o3), (0, .ref (a i)), (1, .int pa)]) hl rfl dX8_farthest_39 (by decide) rfl (fun ls hl => ?_)
    refine lv_lconst (v := (1 : Int64)) hx hb dX8_farthest_41 (by decide) ?_
    refine s_l X (lv' := [(6, .long (1 : Int64)), (4, .long (0 : Int64)), (3, .int (-9 : Int32)), (2, .int o3), (0, .ref (a i)), (1, .int pa)]) hl rfl dX8_farthest_42 (by decide) rfl (fun ls hl => ?_)
    refine lv_iconst (v := (0 : Int32)) hx hb dX8_farthest_44 (by decide) ?_
    refine s_i X (lv' := [(8, .int (0 : Int32)), (6, .long (1 : Int64)), (4, .long (0 : Int64)), (3, .int (-9 : Int32)), (2, .int o3), (0, .ref (a i)), (1, .int pa)]) hl rfl dX8_farthest_45 (by decide) rfl (fun ls hl => ?_)
    exact pX8_farthest_47 X FU xs o3 (-9 : Int32) (0 : Int64) (1 : Int64) (0 : Int32) H locs ls h hH (lv_sub hl [5, 6, 4, 3, 2, 1, 0] rfl)
  · have h := it_x h c1
    refine lv_aload_n hx hb dX8_farthest_11 rfl (lv_at hl 0 rfl) ?_
    refine lv_iconst (v := (-1 : Int32)) hx hb dX8_farthest_12 (by decide) ?_
    obtain ⟨o8, ho8, h⟩ := bd_x h
    refine r_V X hH (ws1 := (wX8 g a i o8.2)) (As := [.int (-1 : Int32)]) (rest := []) (st1 := [.int o8.1]) (uX8_counted (a := a) (i := i) ho8) kX8_counted mX8_94 iX8_counted vX8_counted zX8 okX8_counted ⟨Nat.le_of_ble_eq_true rfl, Nat.le_of_ble_eq_true rfl⟩ rfl rfl (q0 := 0) rfl rfl (pm_all _) (pm_all _) rfl hl.1 rfl (Nat.le_of_ble_eq_true rfl) ⟨Nat.le_refl 0, Nat.le_refl 0⟩ rfl dX8_farthest_13 (fun H locs hH => ?_)
    have h := Option.some.inj h
    subst h
    exact e_i X hH dX8_farthest_16

def qX8_middle_162  (k133 : SX8 → Int32 → Int32 → Option (Int32 × SX8)) (xs : SX8) (l1 : Int32) (l2 : Int32) : Option (Int32 × SX8) :=
  ltt (l2 + (1 : Int32)) fun v1 =>
  k133 xs l1 v1
def qX8_middle_133   : Nat → SX8 → Int32 → Int32 → Option (Int32 × SX8)
  | 0, _, _, _ => none
  | fu + 1, xs, l1, l2 =>
  (if (n_points (w_net xs)) ≤ l2 then
  some (l1, xs)
  else
  ga 6 l2 fun j1 =>
  ga 6 l1 fun j2 =>
  (if ((w_together xs) j2) ≤ ((w_together xs) j1) then
  qX8_middle_162 (qX8_middle_133  fu) xs l1 l2
  else
  qX8_middle_162 (qX8_middle_133  fu) xs l2 l2))
def qX8_middle_88  (k56 : SX8 → Int32 → Option (Int32 × SX8)) : Nat → SX8 → Int32 → Int32 → Option (Int32 × SX8)
  | 0, _, _, _ => none
  | fu + 1, xs, l1, l2 =>
  (if (n_points (w_net xs)) ≤ l2 then
  ltt (l1 + (1 : Int32)) fun v2 =>
  k56 xs v2
  else
  ga 6 l2 fun j3 =>
  ga 6 l2 fun j4 =>
  ltt ((((w_together xs) j3) + ((eq_above (w_equations xs)) j4))) fun v3 =>
  ga 6 l2 fun j5 =>
  ltt ((w_together_s xs (vp_updL (w_together xs) j5 v3))) fun xs2 =>
  ltt (l2 + (1 : Int32)) fun v4 =>
  qX8_middle_88 k56 fu xs2 l1 v4)
def qX8_middle_56   : Nat → SX8 → Int32 → Option (Int32 × SX8)
  | 0, _, _ => none
  | fu + 1, xs, l1 =>
  (if (n_points (w_net xs)) ≤ l1 then
  qX8_middle_133 FU xs (0 : Int32) (1 : Int32)
  else
  (fX3_allWays (w_net xs)).bind fun o4 =>
  (fX0_timesTo (w_equations xs) (w_net xs) o4 l1).bind fun o5 =>
  ltt ((w_equations_s xs o5)) fun xs1 =>
  qX8_middle_88 (qX8_middle_56  fu) FU xs1 l1 (0 : Int32))
def qX8_middle_30   : Nat → SX8 → Int32 → Option (Int32 × SX8)
  | 0, _, _ => none
  | fu + 1, xs, l1 =>
  (if (n_points (w_net xs)) ≤ l1 then
  qX8_middle_56 FU xs (0 : Int32)
  else
  ga 6 l1 fun j6 =>
  ltt ((w_together_s xs (vp_updL (w_together xs) j6 (0 : Int64)))) fun xs3 =>
  ltt (l1 + (1 : Int32)) fun v5 =>
  qX8_middle_30  fu xs3 v5)
def fX8_middle (xs : SX8) : Option (Int32 × SX8) :=
  (fX3_allWays (w_net xs)).bind fun o1 =>
  (fX3_reached (w_net xs) (1 : Int32) o1).bind fun o2 =>
  (fX3_allPoints (w_net xs)).bind fun o3 =>
  (if o2 = o3 then
  qX8_middle_30 FU xs (0 : Int32)
  else
  some ((-9 : Int32), xs))
set_option maxHeartbeats 4000000 in
set_option maxRecDepth 100000 in
theorem pX8_middle_162 {p : Program} {l : Launch} {e : Env} {s : State} {m : MethodId} {args : Array Value} {below : List Frame} {meth : Method} {c : Code} {g : GG} {w0 : va_W} {a : Nat → Nat} {i : Nat}  {o : (Int32 × SX8)} (X : mX g yX8_middle cX8_middle 3 (some .int) p s m args meth c w0)
  {k133 : SX8 → Int32 → Int32 → Option (Int32 × SX8)} (K133 : ∀ (xs : SX8) (l1 : Int32) (l2 : Int32) (H : Heap) (locs : List Loc) (ls : Array Slot), k133 xs l1 l2 = some o → mH g s w0 (wX8 g a i xs) H locs → lv_has ls 3 [(0, .ref (a i)), (1, .int l1), (2, .int l2)] → W p l e (rM 4 102) s m args below meth c H locs 0 0 (mZ g below args s w0 (wX8 g a i o.2) (some (.int o.1))) (F0 m 133 ls [])) :
  ∀ (xs : SX8) (l1 : Int32) (l2 : Int32) (H : Heap) (locs : List Loc) (ls : Array Slot), qX8_middle_162 k133 xs l1 l2 = some o → mH g s w0 (wX8 g a i xs) H locs → lv_has ls 3 [(0, .ref (a i)), (1, .int l1), (2, .int l2)] → W p l e (rM 4 102) s m args below meth c H locs 0 0 (mZ g below args s w0 (wX8 g a i o.2) (some (.int o.1))) (F0 m 162 ls []) := by
  have hx := X.1
  have hb := X.2.1
  intro xs l1 l2 H locs ls h hH hl
  unfold qX8_middle_162 at h
  obtain ⟨v1, ev1, h⟩ := ltt_x h
  refine s_inc X (k := 2) (lv' := [(2, .int v1), (0, .ref (a i)), (1, .int l1)]) hl rfl (by rw [ev1]; rfl) dX8_middle_162 (by decide) rfl (fun ls hl => ?_)
  refine lv_goto (tgt := 133) hx hb dX8_middle_165 (by decide) ?_
  exact K133 xs l1 v1 H locs ls h hH (lv_sub hl [1, 2, 0] rfl)
set_option maxHeartbeats 4000000 in
set_option maxRecDepth 100000 in
theorem pX8_middle_133 {p : Program} {l : Launch} {e : Env} {s : State} {m : MethodId} {args : Array Value} {below : List Frame} {meth : Method} {c : Code} {g : GG} {w0 : va_W} {a : Nat → Nat} {i : Nat}  {o : (Int32 × SX8)} (X : mX g yX8_middle cX8_middle 3 (some .int) p s m args meth c w0) :
  ∀ (fu : Nat) (xs : SX8) (l1 : Int32) (l2 : Int32) (H : Heap) (locs : List Loc) (ls : Array Slot), qX8_middle_133 fu xs l1 l2 = some o → mH g s w0 (wX8 g a i xs) H locs → lv_has ls 3 [(0, .ref (a i)), (1, .int l1), (2, .int l2)] → W p l e (rM 4 102) s m args below meth c H locs 0 0 (mZ g below args s w0 (wX8 g a i o.2) (some (.int o.1))) (F0 m 133 ls []) := by
  have hx := X.1
  have hb := X.2.1
  intro fu
  induction fu with
  | zero =>
    intro xs l1 l2 H locs ls h
    unfold qX8_middle_133 at h
    cases h
  | succ fu ih =>
    intro xs l1 l2 H locs ls h hH hl
    unfold qX8_middle_133 at h
    refine lv_iload_n hx hb dX8_middle_133 rfl (lv_at hl 2 rfl) ?_
    refine lv_aload_n hx hb dX8_middle_134 rfl (lv_at hl 0 rfl) ?_
    refine f_get X hH 0 rfl rfl 0 (by decide) inX8 fX8_10 rfl dX8_middle_135 ?_
    refine f_get X hH 1 rfl rfl 0 (by decide) inX3 fX8_216 rfl dX8_middle_138 ?_
    refine lv_icmp_ge (tgt := 168) hx hb dX8_middle_141 (by decide) (fun c4 => ?_) (fun c4 => ?_)
    · have h := it_x h c4
      refine lv_iload_n hx hb dX8_middle_168 rfl (lv_at hl 1 rfl) ?_
      have h := Option.some.inj h
      subst h
      exact e_i X hH dX8_middle_169
    · have h := ie_x h c4
      refine lv_aload_n hx hb dX8_middle_144 rfl (lv_at hl 0 rfl) ?_
      refine f_get X hH 0 rfl rfl 5 (by decide) inX8 fX8_33 rfl dX8_middle_145 ?_
      refine lv_iload_n hx hb dX8_middle_148 rfl (lv_at hl 2 rfl) ?_
      obtain ⟨j1, ej1, hinj1, h⟩ := ga_x h
      refine a_ll X hH 33 rfl hinj1 ej1 dX8_middle_149 ?_
      refine lv_aload_n hx hb dX8_middle_150 rfl (lv_at hl 0 rfl) ?_
      refine f_get X hH 0 rfl rfl 5 (by decide) inX8 fX8_33 rfl dX8_middle_151 ?_
      refine lv_iload_n hx hb dX8_middle_154 rfl (lv_at hl 1 rfl) ?_
      obtain ⟨j2, ej2, hinj2, h⟩ := ga_x h
      refine a_ll X hH 33 rfl hinj2 ej2 dX8_middle_155 ?_
      refine W.lcmp hx hb dX8_middle_156 ?_
      refine lv_if_ge (tgt := 162) hx hb dX8_middle_157 (by decide) (fun c5 => ?_) (fun c5 => ?_)
      · have h := it_x h ((lg_cmp_ge ((w_together xs) j1) ((w_together xs) j2)).mp c5)
        exact pX8_middle_162 X ih xs l1 l2 H locs ls h hH (lv_sub hl [0, 1, 2] rfl)
      · have h := ie_x h (mt (lg_cmp_ge ((w_together xs) j1) ((w_together xs) j2)).mpr c5)
        refine lv_iload_n hx hb dX8_middle_160 rfl (lv_at hl 2 rfl) ?_
        refine s_in X (lv' := [(1, .int l2), (0, .ref (a i)), (2, .int l2)]) hl rfl dX8_middle_161 rfl (by decide) rfl (fun ls hl => ?_)
        exact pX8_middle_162 X ih xs l2 l2 H locs ls h hH (lv_sub hl [1, 0, 2] rfl)
set_option maxHeartbeats 4000000 in
set_option maxRecDepth 100000 in
theorem pX8_middle_88 {p : Program} {l : Launch} {e : Env} {s : State} {m : MethodId} {args : Array Value} {below : List Frame} {meth : Method} {c : Code} {g : GG} {w0 : va_W} {a : Nat → Nat} {i : Nat}  {o : (Int32 × SX8)} (X : mX g yX8_middle cX8_middle 3 (some .int) p s m args meth c w0)
  {k56 : SX8 → Int32 → Option (Int32 × SX8)} (K56 : ∀ (xs : SX8) (l1 : Int32) (H : Heap) (locs : List Loc) (ls : Array Slot), k56 xs l1 = some o → mH g s w0 (wX8 g a i xs) H locs → lv_has ls 3 [(0, .ref (a i)), (1, .int l1)] → W p l e (rM 4 102) s m args below meth c H locs 0 0 (mZ g below args s w0 (wX8 g a i o.2) (some (.int o.1))) (F0 m 56 ls [])) :
  ∀ (fu : Nat) (xs : SX8) (l1 : Int32) (l2 : Int32) (H : Heap) (locs : List Loc) (ls : Array Slot), qX8_middle_88 k56 fu xs l1 l2 = some o → mH g s w0 (wX8 g a i xs) H locs → lv_has ls 3 [(0, .ref (a i)), (1, .int l1), (2, .int l2)] → W p l e (rM 4 102) s m args below meth c H locs 0 0 (mZ g below args s w0 (wX8 g a i o.2) (some (.int o.1))) (F0 m 88 ls []) := by
  have hx := X.1
  have hb := X.2.1
  intro fu
  induction fu with
  | zero =>
    intro xs l1 l2 H locs ls h
    unfold qX8_middle_88 at h
    cases h
  | succ fu ih =>
    intro xs l1 l2 H locs ls h hH hl
    unfold qX8_middle_88 at h
    refine lv_iload_n hx hb dX8_middle_88 rfl (lv_at hl 2 rfl) ?_
    refine lv_aload_n hx hb dX8_middle_89 rfl (lv_at hl 0 rfl) ?_
    refine f_get X hH 0 rfl rfl 0 (by decide) inX8 fX8_10 rfl dX8_middle_90 ?_
    refine f_get X hH 1 rfl rfl 0 (by decide) inX3 fX8_216 rfl dX8_middle_93 ?_
    refine lv_icmp_ge (tgt := 123) hx hb dX8_middle_96 (by decide) (fun c6 => ?_) (fun c6 => ?_)
    · have h := it_x h c6
      obtain ⟨v2, ev2, h⟩ := ltt_x h
      refine s_inc X (k := 1) (lv' := [(1, .int v2), (0, .ref (a i)), (2, .int l2)]) hl rfl (by rw [ev2]; rfl) dX8_middle_123 (by decide) rfl (fun ls hl => ?_)
      refine lv_goto (tgt := 56) hx hb dX8_middle_126 (by decide) ?_
      exact K56 xs v2 H locs ls h hH (lv_sub hl [1, 0] rfl)
    · have h := ie_x h c6
      refine lv_aload_n hx hb dX8_middle_99 rfl (lv_at hl 0 rfl) ?_
      refine f_get X hH 0 rfl rfl 5 (by decide) inX8 fX8_33 rfl dX8_middle_100 ?_
      refine lv_iload_n hx hb dX8_middle_103 rfl (lv_at hl 2 rfl) ?_
      refine lv_dup2_11 hx hb dX8_middle_104 rfl rfl ?_
      obtain ⟨j3, ej3, hinj3, h⟩ := ga_x h
      refine a_ll X hH 33 rfl hinj3 ej3 dX8_middle_105 ?_
      refine lv_aload_n hx hb dX8_middle_106 rfl (lv_at hl 0 rfl) ?_
      refine f_get X hH 0 rfl rfl 4 (by decide) inX8 fX8_29 rfl dX8_middle_107 ?_
      refine f_get X hH 22 rfl rfl 0 (by decide) inX0 fX8_175 rfl dX8_middle_110 ?_
      refine lv_iload_n hx hb dX8_middle_113 rfl (lv_at hl 2 rfl) ?_
      obtain ⟨j4, ej4, hinj4, h⟩ := ga_x h
      refine a_ll X hH 23 rfl hinj4 ej4 dX8_middle_114 ?_
      refine lv_ladd hx hb dX8_middle_115 ?_
      obtain ⟨v3, ev3, h⟩ := ltt_x h
      refine lv_topl (fun y0 e0 => ?_)
      rw [← ev3] at e0
      subst y0
      obtain ⟨j5, ej5, hinj5, h⟩ := ga_x h
      obtain ⟨xs2, exs2, h⟩ := ltt_x h
      refine a_ls X hH (ws1 := (wX8 g a i xs2)) 33 rfl hinj5 ej5 (by rw [exs2]; rfl) dX8_middle_116 (fun H locs hH => ?_)
      obtain ⟨v4, ev4, h⟩ := ltt_x h
      refine s_inc X (k := 2) (lv' := [(2, .int v4), (0, .ref (a i)), (1, .int l1)]) hl rfl (by rw [ev4]; rfl) dX8_middle_117 (by decide) rfl (fun ls hl => ?_)
      refine lv_goto (tgt := 88) hx hb dX8_middle_120 (by decide) ?_
      exact ih xs2 l1 v4 H locs ls h hH (lv_sub hl [1, 2, 0] rfl)
set_option maxHeartbeats 4000000 in
set_option maxRecDepth 100000 in
theorem pX8_middle_56 {p : Program} {l : Launch} {e : Env} {s : State} {m : MethodId} {args : Array Value} {below : List Frame} {meth : Method} {c : Code} {g : GG} {w0 : va_W} {a : Nat → Nat} {i : Nat}  {o : (Int32 × SX8)} (X : mX g yX8_middle cX8_middle 3 (some .int) p s m args meth c w0) :
  ∀ (fu : Nat) (xs : SX8) (l1 : Int32) (H : Heap) (locs : List Loc) (ls : Array Slot), qX8_middle_56 fu xs l1 = some o → mH g s w0 (wX8 g a i xs) H locs → lv_has ls 3 [(0, .ref (a i)), (1, .int l1)] → W p l e (rM 4 102) s m args below meth c H locs 0 0 (mZ g below args s w0 (wX8 g a i o.2) (some (.int o.1))) (F0 m 56 ls []) := by
  have hx := X.1
  have hb := X.2.1
  intro fu
  induction fu with
  | zero =>
    intro xs l1 H locs ls h
    unfold qX8_middle_56 at h
    cases h
  | succ fu ih =>
    intro xs l1 H locs ls h hH hl
    unfold qX8_middle_56 at h
    refine lv_iload_n hx hb dX8_middle_56 rfl (lv_at hl 1 rfl) ?_
    refine lv_aload_n hx hb dX8_middle_57 rfl (lv_at hl 0 rfl) ?_
    refine f_get X hH 0 rfl rfl 0 (by decide) inX8 fX8_10 rfl dX8_middle_58 ?_
    refine f_get X hH 1 rfl rfl 0 (by decide) inX3 fX8_216 rfl dX8_middle_61 ?_
    refine lv_icmp_ge (tgt := 129) hx hb dX8_middle_64 (by decide) (fun c3 => ?_) (fun c3 => ?_)
    · have h := it_x h c3
      refine lv_iconst (v := (0 : Int32)) hx hb dX8_middle_129 (by decide) ?_
      refine s_in X (lv' := [(1, .int (0 : Int32)), (0, .ref (a i))]) hl rfl dX8_middle_130 rfl (by decide) rfl (fun ls hl => ?_)
      refine lv_iconst (v := (1 : Int32)) hx hb dX8_middle_131 (by decide) ?_
      refine s_in X (lv' := [(2, .int (1 : Int32)), (1, .int (0 : Int32)), (0, .ref (a i))]) hl rfl dX8_middle_132 rfl (by decide) rfl (fun ls hl => ?_)
      exact pX8_middle_133 X FU xs (0 : Int32) (1 : Int32) H locs ls h hH (lv_sub hl [2, 1, 0] rfl)
    · have h := ie_x h c3
      refine lv_aload_n hx hb dX8_middle_67 rfl (lv_at hl 0 rfl) ?_
      refine f_get X hH 0 rfl rfl 4 (by decide) inX8 fX8_29 rfl dX8_middle_68 ?_
      refine lv_aload_n hx hb dX8_middle_71 rfl (lv_at hl 0 rfl) ?_
      refine f_get X hH 0 rfl rfl 0 (by decide) inX8 fX8_10 rfl dX8_middle_72 ?_
      refine lv_aload_n hx hb dX8_middle_75 rfl (lv_at hl 0 rfl) ?_
      refine f_get X hH 0 rfl rfl 0 (by decide) inX8 fX8_10 rfl dX8_middle_76 ?_
      obtain ⟨o4, ho4, h⟩ := bd_x h
      refine r_V X hH (ws1 := (wX8 g a i xs)) (As := []) (rest := [.ref (a (i + 1)), .ref (a (i + 22))]) (st1 := [.int o4, .ref (a (i + 1)), .ref (a (i + 22))]) (uX3_allWays (a := a) (i := (i + 1)) ho4) kX3_allWays mX8_157 iX3_allWays vX3_allWays zX3 okX3_allWays ⟨Nat.le_of_ble_eq_true rfl, Nat.le_of_ble_eq_true rfl⟩ rfl rfl (q0 := 1) rfl rfl (bX8_1) (bX8_1) rfl hl.1 rfl (Nat.le_of_ble_eq_true rfl) ⟨Nat.le_refl 0, Nat.le_refl 0⟩ rfl dX8_middle_79 (fun H locs hH => ?_)
      refine lv_iload_n hx hb dX8_middle_82 rfl (lv_at hl 1 rfl) ?_
      obtain ⟨o5, ho5, h⟩ := bd_x h
      obtain ⟨xs1, exs1, h⟩ := ltt_x h
      refine r_V X hH (ws1 := (wX8 g a i xs1)) (As := [.ref (a (i + 1)), .int o4, .int l1]) (rest := []) (st1 := []) (uX0_timesTo (a := a) (i := (i + 22)) (b := a) (j := (i + 1)) ho5) kX0_timesTo mX8_171 iX0_timesTo vX0_timesTo zX0 okX0_timesTo ⟨Nat.le_of_ble_eq_true rfl, Nat.le_of_ble_eq_true rfl⟩ rfl rfl (q0 := 22) rfl rfl (pm_2 (bX8_4) (bX8_4_1)) (by rw [exs1]; exact (pm_2 (bX8_4) (bX8_4_1))) rfl hl.1 rfl (Nat.le_of_ble_eq_true rfl) ⟨Nat.le_refl 0, Nat.le_refl 0⟩ rfl dX8_middle_83 (fun H locs hH => ?_)
      refine lv_iconst (v := (0 : Int32)) hx hb dX8_middle_86 (by decide) ?_
      refine s_in X (lv' := [(2, .int (0 : Int32)), (0, .ref (a i)), (1, .int l1)]) hl rfl dX8_middle_87 rfl (by decide) rfl (fun ls hl => ?_)
      exact pX8_middle_88 X ih FU xs1 l1 (0 : Int32) H locs ls h hH (lv_sub hl [1, 2, 0] rfl)
set_option maxHeartbeats 4000000 in
set_option maxRecDepth 100000 in
theorem pX8_middle_30 {p : Program} {l : Launch} {e : Env} {s : State} {m : MethodId} {args : Array Value} {below : List Frame} {meth : Method} {c : Code} {g : GG} {w0 : va_W} {a : Nat → Nat} {i : Nat}  {o : (Int32 × SX8)} (X : mX g yX8_middle cX8_middle 3 (some .int) p s m args meth c w0) :
  ∀ (fu : Nat) (xs : SX8) (l1 : Int32) (H : Heap) (locs : List Loc) (ls : Array Slot), qX8_middle_30 fu xs l1 = some o → mH g s w0 (wX8 g a i xs) H locs → lv_has ls 3 [(0, .ref (a i)), (1, .int l1)] → W p l e (rM 4 102) s m args below meth c H locs 0 0 (mZ g below args s w0 (wX8 g a i o.2) (some (.int o.1))) (F0 m 30 ls []) := by
  have hx := X.1
  have hb := X.2.1
  intro fu
  induction fu with
  | zero =>
    intro xs l1 H locs ls h
    unfold qX8_middle_30 at h
    cases h
  | succ fu ih =>
    intro xs l1 H locs ls h hH hl
    unfold qX8_middle_30 at h
    refine lv_iload_n hx hb dX8_middle_30 rfl (lv_at hl 1 rfl) ?_
    refine lv_aload_n hx hb dX8_middle_31 rfl (lv_at hl 0 rfl) ?_
    refine f_get X hH 0 rfl rfl 0 (by decide) inX8 fX8_10 rfl dX8_middle_32 ?_
    refine f_get X hH 1 rfl rfl 0 (by decide) inX3 fX8_216 rfl dX8_middle_35 ?_
    refine lv_icmp_ge (tgt := 54) hx hb dX8_middle_38 (by decide) (fun c2 => ?_) (fun c2 => ?_)
    · have h := it_x h c2
      refine lv_iconst (v := (0 : Int32)) hx hb dX8_middle_54 (by decide) ?_
      refine s_in X (lv' := [(1, .int (0 : Int32)), (0, .ref (a i))]) hl rfl dX8_middle_55 rfl (by decide) rfl (fun ls hl => ?_)
      exact pX8_middle_56 X FU xs (0 : Int32) H locs ls h hH (lv_sub hl [1, 0] rfl)
    · have h := ie_x h c2
      refine lv_aload_n hx hb dX8_middle_41 rfl (lv_at hl 0 rfl) ?_
      refine f_get X hH 0 rfl rfl 5 (by decide) inX8 fX8_33 rfl dX8_middle_42 ?_
      refine lv_iload_n hx hb dX8_middle_45 rfl (lv_at hl 1 rfl) ?_
      refine lv_lconst (v := (0 : Int64)) hx hb dX8_middle_46 (by decide) ?_
      obtain ⟨j6, ej6, hinj6, h⟩ := ga_x h
      obtain ⟨xs3, exs3, h⟩ := ltt_x h
      refine a_ls X hH (ws1 := (wX8 g a i xs3)) 33 rfl hinj6 ej6 (by rw [exs3]; rfl) dX8_middle_47 (fun H locs hH => ?_)
      obtain ⟨v5, ev5, h⟩ := ltt_x h
      refine s_inc X (k := 1) (lv' := [(1, .int v5), (0, .ref (a i))]) hl rfl (by rw [ev5]; rfl) dX8_middle_48 (by decide) rfl (fun ls hl => ?_)
      refine lv_goto (tgt := 30) hx hb dX8_middle_51 (by decide) ?_
      exact ih xs3 v5 H locs ls h hH (lv_sub hl [1, 0] rfl)
set_option maxHeartbeats 4000000 in
set_option maxRecDepth 100000 in
theorem uX8_middle {l : Launch} {g : GG} {a : Nat → Nat} {i : Nat} {xs : SX8} {o : (Int32 × SX8)} (h : fX8_middle xs = some o) : mC l g yX8_middle cX8_middle 3 (some .int) (rM 4 102) [.ref (a i)] (wX8 g a i xs) (wX8 g a i o.2) (some (.int o.1)) := by
  refine mC.ofW (by decide) (fun p e s m below meth c X hH ls _ hl => ?_) (Nat.le_of_ble_eq_true rfl)
  have hx := X.1
  have hb := X.2.1
  have hl : lv_has ls 3 [(0, .ref (a i))] := hl
  unfold fX8_middle at h
  suffices HH : ∀ (H : Heap) (locs : List Loc), mH g s (wX8 g a i xs) (wX8 g a i xs) H locs → W p l e (rM 4 102) s m _ below meth c H locs 0 0 (mZ g below _ s (wX8 g a i xs) (wX8 g a i o.2) (some (.int o.1))) (F0 m 0 ls []) from HH _ _ hH
  clear hH
  intro H locs hH
  refine lv_aload_n hx hb dX8_middle_0 rfl (lv_at hl 0 rfl) ?_
  refine f_get X hH 0 rfl rfl 0 (by decide) inX8 fX8_10 rfl dX8_middle_1 ?_
  refine lv_iconst (v := (1 : Int32)) hx hb dX8_middle_4 (by decide) ?_
  refine lv_aload_n hx hb dX8_middle_5 rfl (lv_at hl 0 rfl) ?_
  refine f_get X hH 0 rfl rfl 0 (by decide) inX8 fX8_10 rfl dX8_middle_6 ?_
  obtain ⟨o1, ho1, h⟩ := bd_x h
  refine r_V X hH (ws1 := (wX8 g a i xs)) (As := []) (rest := [.int (1 : Int32), .ref (a (i + 1))]) (st1 := [.int o1, .int (1 : Int32), .ref (a (i + 1))]) (uX3_allWays (a := a) (i := (i + 1)) ho1) kX3_allWays mX8_157 iX3_allWays vX3_allWays zX3 okX3_allWays ⟨Nat.le_of_ble_eq_true rfl, Nat.le_of_ble_eq_true rfl⟩ rfl rfl (q0 := 1) rfl rfl (bX8_1) (bX8_1) rfl hl.1 rfl (Nat.le_of_ble_eq_true rfl) ⟨Nat.le_refl 0, Nat.le_refl 0⟩ rfl dX8_middle_9 (fun H locs hH => ?_)
  obtain ⟨o2, ho2, h⟩ := bd_x h
  refine r_V X hH (ws1 := (wX8 g a i xs)) (As := [.int (1 : Int32), .int o1]) (rest := []) (st1 := [.int o2]) (uX3_reached (a := a) (i := (i + 1)) ho2) kX3_reached mX8_161 iX3_reached vX3_reached zX3 okX3_reached ⟨Nat.le_of_ble_eq_true rfl, Nat.le_of_ble_eq_true rfl⟩ rfl rfl (q0 := 1) rfl rfl (bX8_1) (bX8_1) rfl hl.1 rfl (Nat.le_of_ble_eq_true rfl) ⟨Nat.le_refl 0, Nat.le_refl 0⟩ rfl dX8_middle_12 (fun H locs hH => ?_)
  refine lv_aload_n hx hb dX8_middle_15 rfl (lv_at hl 0 rfl) ?_
  refine f_get X hH 0 rfl rfl 0 (by decide) inX8 fX8_10 rfl dX8_middle_16 ?_
  obtain ⟨o3, ho3, h⟩ := bd_x h
  refine r_V X hH (ws1 := (wX8 g a i xs)) (As := []) (rest := [.int o2]) (st1 := [.int o3, .int o2]) (uX3_allPoints (a := a) (i := (i + 1)) ho3) kX3_allPoints mX8_230 iX3_allPoints vX3_allPoints zX3 okX3_allPoints ⟨Nat.le_of_ble_eq_true rfl, Nat.le_of_ble_eq_true rfl⟩ rfl rfl (q0 := 1) rfl rfl (bX8_1) (bX8_1) rfl hl.1 rfl (Nat.le_of_ble_eq_true rfl) ⟨Nat.le_refl 0, Nat.le_refl 0⟩ rfl dX8_middle_19 (fun H locs hH => ?_)
  refine lv_icmp_eq (tgt := 28) hx hb dX8_middle_22 (by decide) (fun c1 => ?_) (fun c1 => ?_)
  · have h := it_x h c1
    refine lv_iconst (v := (0 : Int32)) hx hb dX8_middle_28 (by decide) ?_
    refine s_in X (lv' := [(1, .int (0 : Int32)), (0, .ref (a i))]) hl rfl dX8_middle_29 rfl (by decide) rfl (fun ls hl => ?_)
    exact pX8_middle_30 X FU xs (0 : Int32) H locs ls h hH (lv_sub hl [1, 0] rfl)
  · have h := ie_x h c1
    refine lv_bipush (v := (-9 : Int32)) hx hb dX8_middle_25 (by decide) ?_
    have h := Option.some.inj h
    subst h
    exact e_i X hH dX8_middle_27

def fX8_refusalOfUnsure (xs : SX8) (pa : Int32) (pb : Int32) (pc_ : Int32) (pd : Int32) (pe : Int32) : Option Int32 :=
  (fX3_isPoint (w_net xs) pa).bind fun o1 =>
  (if o1 = (0 : Int32) then
  some (-1 : Int32)
  else
  (fX3_isPoint (w_net xs) pb).bind fun o2 =>
  (if o2 = (0 : Int32) then
  some (-1 : Int32)
  else
  (if pc_ < (2 : Int32) then
  some (-4 : Int32)
  else
  (if (0 : Int32) ≤ pd then
  (if (20 : Int32) < pc_ then
  some (-6 : Int32)
  else
  (if pd ≤ (999 : Int32) then
  (fX8_isPart pe).bind fun o3 =>
  (if o3 = (0 : Int32) then
  some (-2 : Int32)
  else
  some (0 : Int32))
  else
  some (-6 : Int32)))
  else
  some (-4 : Int32)))))
set_option maxHeartbeats 4000000 in
set_option maxRecDepth 100000 in
theorem uX8_refusalOfUnsure {l : Launch} {g : GG} {a : Nat → Nat} {i : Nat} {xs : SX8} {pa : Int32} {pb : Int32} {pc_ : Int32} {pd : Int32} {pe : Int32} {o : Int32} (h : fX8_refusalOfUnsure xs pa pb pc_ pd pe = some o) : mC l g yX8_refusalOfUnsure cX8_refusalOfUnsure 6 (some .int) (rM 1 21) [.ref (a i), .int pa, .int pb, .int pc_, .int pd, .int pe] (wX8 g a i xs) (wX8 g a i xs) (some (.int o)) := by
  refine mC.ofW (by decide) (fun p e s m below meth c X hH ls _ hl => ?_) (Nat.le_of_ble_eq_true rfl)
  have hx := X.1
  have hb := X.2.1
  have hl : lv_has ls 6 [(0, .ref (a i)), (1, .int pa), (2, .int pb), (3, .int pc_), (4, .int pd), (5, .int pe)] := hl
  unfold fX8_refusalOfUnsure at h
  suffices HH : ∀ (H : Heap) (locs : List Loc), mH g s (wX8 g a i xs) (wX8 g a i xs) H locs → W p l e (rM 1 21) s m _ below meth c H locs 0 0 (mZ g below _ s (wX8 g a i xs) (wX8 g a i xs) (some (.int o))) (F0 m 0 ls []) from HH _ _ hH
  clear hH
  intro H locs hH
  refine lv_aload_n hx hb dX8_refusalOfUnsure_0 rfl (lv_at hl 0 rfl) ?_
  refine f_get X hH 0 rfl rfl 0 (by decide) inX8 fX8_10 rfl dX8_refusalOfUnsure_1 ?_
  refine lv_iload_n hx hb dX8_refusalOfUnsure_4 rfl (lv_at hl 1 rfl) ?_
  obtain ⟨o1, ho1, h⟩ := bd_x h
  refine r_V X hH (ws1 := (wX8 g a i xs)) (As := [.int pa]) (rest := []) (st1 := [.int o1]) (uX3_isPoint (a := a) (i := (i + 1)) ho1) kX3_isPoint mX8_154 iX3_isPoint vX3_isPoint zX3 okX3_isPoint ⟨Nat.le_of_ble_eq_true rfl, Nat.le_of_ble_eq_true rfl⟩ rfl rfl (q0 := 1) rfl rfl (bX8_1) (bX8_1) rfl hl.1 rfl (Nat.le_of_ble_eq_true rfl) ⟨Nat.le_refl 0, Nat.le_refl 0⟩ rfl dX8_refusalOfUnsure_5 (fun H locs hH => ?_)
  refine lv_if_eq (tgt := 22) hx hb dX8_refusalOfUnsure_8 (by decide) (fun c1 => ?_) (fun c1 => ?_)
  · have h := it_x h c1
    refine lv_iconst (v := (-1 : Int32)) hx hb dX8_refusalOfUnsure_22 (by decide) ?_
    have h := Option.some.inj h
    subst h
    exact e_i X hH dX8_refusalOfUnsure_23
  · have h := ie_x h c1
    refine lv_aload_n hx hb dX8_refusalOfUnsure_11 rfl (lv_at hl 0 rfl) ?_
    refine f_get X hH 0 rfl rfl 0 (by decide) inX8 fX8_10 rfl dX8_refusalOfUnsure_12 ?_
    refine lv_iload_n hx hb dX8_refusalOfUnsure_15 rfl (lv_at hl 2 rfl) ?_
    obtain ⟨o2, ho2, h⟩ := bd_x h
    refine r_V X hH (ws1 := (wX8 g a i xs)) (As := [.int pb]) (rest := []) (st1 := [.int o2]) (uX3_isPoint (a := a) (i := (i + 1)) ho2) kX3_isPoint mX8_154 iX3_isPoint vX3_isPoint zX3 okX3_isPoint ⟨Nat.le_of_ble_eq_true rfl, Nat.le_of_ble_eq_true rfl⟩ rfl rfl (q0 := 1) rfl rfl (bX8_1) (bX8_1) rfl hl.1 rfl (Nat.le_of_ble_eq_true rfl) ⟨Nat.le_refl 0, Nat.le_refl 0⟩ rfl dX8_refusalOfUnsure_16 (fun H locs hH => ?_)
    refine lv_if_ne (tgt := 24) hx hb dX8_refusalOfUnsure_19 (by decide) (fun c2 => ?_) (fun c2 => ?_)
    · have h := ie_x h c2
      refine lv_iload_n hx hb dX8_refusalOfUnsure_24 rfl (lv_at hl 3 rfl) ?_
      refine lv_iconst (v := (2 : Int32)) hx hb dX8_refusalOfUnsure_25 (by decide) ?_
      refine lv_icmp_lt (tgt := 34) hx hb dX8_refusalOfUnsure_26 (by decide) (fun c3 => ?_) (fun c3 => ?_)
      · have h := it_x h c3
        refine lv_bipush (v := (-4 : Int32)) hx hb dX8_refusalOfUnsure_34 (by decide) ?_
        have h := Option.some.inj h
        subst h
        exact e_i X hH dX8_refusalOfUnsure_36
      · have h := ie_x h c3
        refine lv_iload hx hb dX8_refusalOfUnsure_29 (lv_at hl 4 rfl) ?_
        refine lv_if_ge (tgt := 37) hx hb dX8_refusalOfUnsure_31 (by decide) (fun c4 => ?_) (fun c4 => ?_)
        · have h := it_x h c4
          refine lv_iload_n hx hb dX8_refusalOfUnsure_37 rfl (lv_at hl 3 rfl) ?_
          refine lv_bipush (v := (20 : Int32)) hx hb dX8_refusalOfUnsure_38 (by decide) ?_
          refine lv_icmp_gt (tgt := 51) hx hb dX8_refusalOfUnsure_40 (by decide) (fun c5 => ?_) (fun c5 => ?_)
          · have h := it_x h c5
            refine lv_bipush (v := (-6 : Int32)) hx hb dX8_refusalOfUnsure_51 (by decide) ?_
            have h := Option.some.inj h
            subst h
            exact e_i X hH dX8_refusalOfUnsure_53
          · have h := ie_x h c5
            refine lv_iload hx hb dX8_refusalOfUnsure_43 (lv_at hl 4 rfl) ?_
            refine lv_sipush (v := (999 : Int32)) hx hb dX8_refusalOfUnsure_45 (by decide) ?_
            refine lv_icmp_le (tgt := 54) hx hb dX8_refusalOfUnsure_48 (by decide) (fun c6 => ?_) (fun c6 => ?_)
            · have h := it_x h c6
              refine lv_iload hx hb dX8_refusalOfUnsure_54 (lv_at hl 5 rfl) ?_
              obtain ⟨o3, ho3, h⟩ := bd_x h
              refine r_S X hH (ws1 := (wX8 g a i xs)) (As := [.int pe]) (rest := []) (st1 := [.int o3]) (uX8_isPart  ho3) kX8_isPart mX8_313 sX8_isPart zX8 okX8_isPart ⟨Nat.le_of_ble_eq_true rfl, Nat.le_of_ble_eq_true rfl⟩ rfl rfl (pm_none _) (pm_none _) rfl hl.1 rfl (Nat.le_of_ble_eq_true rfl) ⟨Nat.le_refl 0, Nat.le_refl 0⟩ rfl dX8_refusalOfUnsure_56 (fun H locs hH => ?_)
              refine lv_if_eq (tgt := 66) hx hb dX8_refusalOfUnsure_59 (by decide) (fun c7 => ?_) (fun c7 => ?_)
              · have h := it_x h c7
                refine lv_bipush (v := (-2 : Int32)) hx hb dX8_refusalOfUnsure_66 (by decide) ?_
                have h := Option.some.inj h
                subst h
                exact e_i X hH dX8_refusalOfUnsure_68
              · have h := ie_x h c7
                refine lv_iconst (v := (0 : Int32)) hx hb dX8_refusalOfUnsure_62 (by decide) ?_
                refine lv_goto (tgt := 68) hx hb dX8_refusalOfUnsure_63 (by decide) ?_
                have h := Option.some.inj h
                subst h
                exact e_i X hH dX8_refusalOfUnsure_68
            · have h := ie_x h c6
              refine lv_bipush (v := (-6 : Int32)) hx hb dX8_refusalOfUnsure_51 (by decide) ?_
              have h := Option.some.inj h
              subst h
              exact e_i X hH dX8_refusalOfUnsure_53
        · have h := ie_x h c4
          refine lv_bipush (v := (-4 : Int32)) hx hb dX8_refusalOfUnsure_34 (by decide) ?_
          have h := Option.some.inj h
          subst h
          exact e_i X hH dX8_refusalOfUnsure_36
    · have h := it_x h c2
      refine lv_iconst (v := (-1 : Int32)) hx hb dX8_refusalOfUnsure_22 (by decide) ?_
      have h := Option.some.inj h
      subst h
      exact e_i X hH dX8_refusalOfUnsure_23

def qX8_power_5 (pa : Int64) (pb : Int32)  : Nat → Int64 → Int32 → Option Int64
  | 0, _, _ => none
  | fu + 1, l3, l5 =>
  (if pb ≤ l5 then
  some l3
  else
  ltt ((l3 * pa)) fun v1 =>
  ltt (l5 + (1 : Int32)) fun v2 =>
  qX8_power_5 pa pb  fu v1 v2)
def fX8_power (pa : Int64) (pb : Int32) : Option Int64 :=
  qX8_power_5 pa pb FU (1 : Int64) (0 : Int32)
set_option maxHeartbeats 4000000 in
set_option maxRecDepth 100000 in
theorem pX8_power_5 {p : Program} {l : Launch} {e : Env} {s : State} {m : MethodId} {args : Array Value} {below : List Frame} {meth : Method} {c : Code} {g : GG} {w0 : va_W}  {pa : Int64} {pb : Int32} {o : Int64} (X : mX g yX8_power cX8_power 6 (some .long) p s m args meth c w0) :
  ∀ (fu : Nat) (l3 : Int64) (l5 : Int32) (H : Heap) (locs : List Loc) (ls : Array Slot), qX8_power_5 pa pb fu l3 l5 = some o → mH g s w0 [] H locs → lv_has ls 6 [(0, .long pa), (2, .int pb), (3, .long l3), (5, .int l5)] → W p l e (rM 0 0) s m args below meth c H locs 0 0 (mZ g below args s w0 [] (some (.long o))) (F0 m 5 ls []) := by
  have hx := X.1
  have hb := X.2.1
  intro fu
  induction fu with
  | zero =>
    intro l3 l5 H locs ls h
    unfold qX8_power_5 at h
    cases h
  | succ fu ih =>
    intro l3 l5 H locs ls h hH hl
    unfold qX8_power_5 at h
    refine lv_iload hx hb dX8_power_5 (lv_at hl 3 rfl) ?_
    refine lv_iload_n hx hb dX8_power_7 rfl (lv_at hl 1 rfl) ?_
    refine lv_icmp_ge (tgt := 21) hx hb dX8_power_8 (by decide) (fun c1 => ?_) (fun c1 => ?_)
    · have h := it_x h c1
      refine lv_lload_n hx hb dX8_power_21 rfl (lv_at hl 2 rfl) ?_
      have h := Option.some.inj h
      subst h
      exact e_l X hH dX8_power_22
    · have h := ie_x h c1
      refine lv_lload_n hx hb dX8_power_11 rfl (lv_at hl 2 rfl) ?_
      refine lv_lload_n hx hb dX8_power_12 rfl (lv_at hl 0 rfl) ?_
      refine lv_lmul hx hb dX8_power_13 ?_
      obtain ⟨v1, ev1, h⟩ := ltt_x h
      refine s_ln X (lv' := [(3, .long v1), (0, .long pa), (2, .int pb), (5, .int l5)]) hl ev1 dX8_power_14 rfl (by decide) rfl (fun ls hl => ?_)
      obtain ⟨v2, ev2, h⟩ := ltt_x h
      refine s_inc X (k := 3) (lv' := [(5, .int v2), (3, .long v1), (0, .long pa), (2, .int pb)]) hl rfl (by rw [ev2]; rfl) dX8_power_15 (by decide) rfl (fun ls hl => ?_)
      refine lv_goto (tgt := 5) hx hb dX8_power_18 (by decide) ?_
      exact ih v1 v2 H locs ls h hH (lv_sub hl [2, 3, 1, 0] rfl)
set_option maxHeartbeats 4000000 in
set_option maxRecDepth 100000 in
theorem uX8_power {l : Launch} {g : GG}  {pa : Int64} {pb : Int32} {o : Int64} (h : fX8_power pa pb = some o) : mC l g yX8_power cX8_power 6 (some .long) (rM 0 0) [.long pa, .int pb] [] [] (some (.long o)) := by
  refine mC.ofW (by decide) (fun p e s m below meth c X hH ls _ hl => ?_) (Nat.le_of_ble_eq_true rfl)
  have hx := X.1
  have hb := X.2.1
  have hl : lv_has ls 6 [(0, .long pa), (2, .int pb)] := hl
  unfold fX8_power at h
  suffices HH : ∀ (H : Heap) (locs : List Loc), mH g s [] [] H locs → W p l e (rM 0 0) s m _ below meth c H locs 0 0 (mZ g below _ s [] [] (some (.long o))) (F0 m 0 ls []) from HH _ _ hH
  clear hH
  intro H locs hH
  refine lv_lconst (v := (1 : Int64)) hx hb dX8_power_0 (by decide) ?_
  refine s_ln X (lv' := [(3, .long (1 : Int64)), (0, .long pa), (2, .int pb)]) hl rfl dX8_power_1 rfl (by decide) rfl (fun ls hl => ?_)
  refine lv_iconst (v := (0 : Int32)) hx hb dX8_power_2 (by decide) ?_
  refine s_i X (lv' := [(5, .int (0 : Int32)), (3, .long (1 : Int64)), (0, .long pa), (2, .int pb)]) hl rfl dX8_power_3 (by decide) rfl (fun ls hl => ?_)
  exact pX8_power_5 X FU (1 : Int64) (0 : Int32) H locs ls h hH (lv_sub hl [2, 3, 1, 0] rfl)

def fX8_comesWithin (xs : SX8) (pa : Int32) (pb : Int32) (pc_ : Int32) (pd : Int32) : Option (Int32 × SX8) :=
  (fX3_reached (w_net xs) ((1 : Int32) <<< (pa &&& 31)) pd).bind fun o1 =>
  (fX8_has o1 pb).bind fun o2 =>
  (if o2 = (0 : Int32) then
  some ((0 : Int32), xs)
  else
  (if (0 : Int32) ≤ pc_ then
  (fX0_timesTo (w_equations xs) (w_net xs) pd pb).bind fun o3 =>
  ltt ((w_equations_s xs o3)) fun xs1 =>
  ga 6 pa fun j1 =>
  (if ((pc_.toInt64) * (eq_below (w_equations xs1))) < ((eq_above (w_equations xs1)) j1) then
  some ((0 : Int32), xs1)
  else
  some ((1 : Int32), xs1))
  else
  some ((1 : Int32), xs)))
set_option maxHeartbeats 4000000 in
set_option maxRecDepth 100000 in
theorem uX8_comesWithin {l : Launch} {g : GG} {a : Nat → Nat} {i : Nat} {xs : SX8} {pa : Int32} {pb : Int32} {pc_ : Int32} {pd : Int32} {o : (Int32 × SX8)} (h : fX8_comesWithin xs pa pb pc_ pd = some o) : mC l g yX8_comesWithin cX8_comesWithin 5 (some .boolean) (rM 4 102) [.ref (a i), .int pa, .int pb, .int pc_, .int pd] (wX8 g a i xs) (wX8 g a i o.2) (some (.int o.1)) := by
  refine mC.ofW (by decide) (fun p e s m below meth c X hH ls _ hl => ?_) (Nat.le_of_ble_eq_true rfl)
  have hx := X.1
  have hb := X.2.1
  have hl : lv_has ls 5 [(0, .ref (a i)), (1, .int pa), (2, .int pb), (3, .int pc_), (4, .int pd)] := hl
  unfold fX8_comesWithin at h
  suffices HH : ∀ (H : Heap) (locs : List Loc), mH g s (wX8 g a i xs) (wX8 g a i xs) H locs → W p l e (rM 4 102) s m _ below meth c H locs 0 0 (mZ g below _ s (wX8 g a i xs) (wX8 g a i o.2) (some (.int o.1))) (F0 m 0 ls []) from HH _ _ hH
  clear hH
  intro H locs hH
  refine lv_aload_n hx hb dX8_comesWithin_0 rfl (lv_at hl 0 rfl) ?_
  refine f_get X hH 0 rfl rfl 0 (by decide) inX8 fX8_10 rfl dX8_comesWithin_1 ?_
  refine lv_iconst (v := (1 : Int32)) hx hb dX8_comesWithin_4 (by decide) ?_
  refine lv_iload_n hx hb dX8_comesWithin_5 rfl (lv_at hl 1 rfl) ?_
  refine lv_ishl hx hb dX8_comesWithin_6 ?_
  refine lv_iload hx hb dX8_comesWithin_7 (lv_at hl 4 rfl) ?_
  obtain ⟨o1, ho1, h⟩ := bd_x h
  refine r_V X hH (ws1 := (wX8 g a i xs)) (As := [.int ((1 : Int32) <<< (pa &&& 31)), .int pd]) (rest := []) (st1 := [.int o1]) (uX3_reached (a := a) (i := (i + 1)) ho1) kX3_reached mX8_161 iX3_reached vX3_reached zX3 okX3_reached ⟨Nat.le_of_ble_eq_true rfl, Nat.le_of_ble_eq_true rfl⟩ rfl rfl (q0 := 1) rfl rfl (bX8_1) (bX8_1) rfl hl.1 rfl (Nat.le_of_ble_eq_true rfl) ⟨Nat.le_refl 0, Nat.le_refl 0⟩ rfl dX8_comesWithin_9 (fun H locs hH => ?_)
  refine lv_iload_n hx hb dX8_comesWithin_12 rfl (lv_at hl 2 rfl) ?_
  obtain ⟨o2, ho2, h⟩ := bd_x h
  refine r_S X hH (ws1 := (wX8 g a i xs)) (As := [.int o1, .int pb]) (rest := []) (st1 := [.int o2]) (uX8_has  ho2) kX8_has mX8_203 sX8_has zX8 okX8_has ⟨Nat.le_of_ble_eq_true rfl, Nat.le_of_ble_eq_true rfl⟩ rfl rfl (pm_none _) (pm_none _) rfl hl.1 rfl (Nat.le_of_ble_eq_true rfl) ⟨Nat.le_refl 0, Nat.le_refl 0⟩ rfl dX8_comesWithin_13 (fun H locs hH => ?_)
  refine lv_if_ne (tgt := 21) hx hb dX8_comesWithin_16 (by decide) (fun c1 => ?_) (fun c1 => ?_)
  · have h := ie_x h c1
    refine lv_iload_n hx hb dX8_comesWithin_21 rfl (lv_at hl 3 rfl) ?_
    refine lv_if_ge (tgt := 27) hx hb dX8_comesWithin_22 (by decide) (fun c2 => ?_) (fun c2 => ?_)
    · have h := it_x h c2
      refine lv_aload_n hx hb dX8_comesWithin_27 rfl (lv_at hl 0 rfl) ?_
      refine f_get X hH 0 rfl rfl 4 (by decide) inX8 fX8_29 rfl dX8_comesWithin_28 ?_
      refine lv_aload_n hx hb dX8_comesWithin_31 rfl (lv_at hl 0 rfl) ?_
      refine f_get X hH 0 rfl rfl 0 (by decide) inX8 fX8_10 rfl dX8_comesWithin_32 ?_
      refine lv_iload hx hb dX8_comesWithin_35 (lv_at hl 4 rfl) ?_
      refine lv_iload_n hx hb dX8_comesWithin_37 rfl (lv_at hl 2 rfl) ?_
      obtain ⟨o3, ho3, h⟩ := bd_x h
      obtain ⟨xs1, exs1, h⟩ := ltt_x h
      refine r_V X hH (ws1 := (wX8 g a i xs1)) (As := [.ref (a (i + 1)), .int pd, .int pb]) (rest := []) (st1 := []) (uX0_timesTo (a := a) (i := (i + 22)) (b := a) (j := (i + 1)) ho3) kX0_timesTo mX8_171 iX0_timesTo vX0_timesTo zX0 okX0_timesTo ⟨Nat.le_of_ble_eq_true rfl, Nat.le_of_ble_eq_true rfl⟩ rfl rfl (q0 := 22) rfl rfl (pm_2 (bX8_4) (bX8_4_1)) (by rw [exs1]; exact (pm_2 (bX8_4) (bX8_4_1))) rfl hl.1 rfl (Nat.le_of_ble_eq_true rfl) ⟨Nat.le_refl 0, Nat.le_refl 0⟩ rfl dX8_comesWithin_38 (fun H locs hH => ?_)
      refine lv_aload_n hx hb dX8_comesWithin_41 rfl (lv_at hl 0 rfl) ?_
      refine f_get X hH 0 rfl rfl 4 (by decide) inX8 fX8_29 rfl dX8_comesWithin_42 ?_
      refine f_get X hH 22 rfl rfl 0 (by decide) inX0 fX8_175 rfl dX8_comesWithin_45 ?_
      refine lv_iload_n hx hb dX8_comesWithin_48 rfl (lv_at hl 1 rfl) ?_
      obtain ⟨j1, ej1, hinj1, h⟩ := ga_x h
      refine a_ll X hH 23 rfl hinj1 ej1 dX8_comesWithin_49 ?_
      refine lv_iload_n hx hb dX8_comesWithin_50 rfl (lv_at hl 3 rfl) ?_
      refine lv_i2l hx hb dX8_comesWithin_51 rfl ?_
      refine lv_aload_n hx hb dX8_comesWithin_52 rfl (lv_at hl 0 rfl) ?_
      refine f_get X hH 0 rfl rfl 4 (by decide) inX8 fX8_29 rfl dX8_comesWithin_53 ?_
      refine f_get X hH 22 rfl rfl 1 (by decide) inX0 fX8_178 rfl dX8_comesWithin_56 ?_
      refine lv_lmul hx hb dX8_comesWithin_59 ?_
      refine W.lcmp hx hb dX8_comesWithin_60 ?_
      refine lv_if_gt (tgt := 68) hx hb dX8_comesWithin_61 (by decide) (fun c3 => ?_) (fun c3 => ?_)
      · have h := it_x h ((lg_cmp_gt ((eq_above (w_equations xs1)) j1) ((pc_.toInt64) * (eq_below (w_equations xs1)))).mp c3)
        refine lv_iconst (v := (0 : Int32)) hx hb dX8_comesWithin_68 (by decide) ?_
        have h := Option.some.inj h
        subst h
        exact e_z X hH (Or.inl rfl) dX8_comesWithin_69
      · have h := ie_x h (mt (lg_cmp_gt ((eq_above (w_equations xs1)) j1) ((pc_.toInt64) * (eq_below (w_equations xs1)))).mpr c3)
        refine lv_iconst (v := (1 : Int32)) hx hb dX8_comesWithin_64 (by decide) ?_
        refine lv_goto (tgt := 69) hx hb dX8_comesWithin_65 (by decide) ?_
        have h := Option.some.inj h
        subst h
        exact e_z X hH (Or.inr rfl) dX8_comesWithin_69
    · have h := ie_x h c2
      refine lv_iconst (v := (1 : Int32)) hx hb dX8_comesWithin_25 (by decide) ?_
      have h := Option.some.inj h
      subst h
      exact e_z X hH (Or.inr rfl) dX8_comesWithin_26
  · have h := it_x h c1
    refine lv_iconst (v := (0 : Int32)) hx hb dX8_comesWithin_19 (by decide) ?_
    have h := Option.some.inj h
    subst h
    exact e_z X hH (Or.inl rfl) dX8_comesWithin_20

def fJ6_bitCount_0f7a4 (pa : Int32) : Option Int32 :=
  ltt ((pa - (((pa.toUInt32 >>> ((1 : Int32).toUInt32 &&& Int32.toUInt32 31)).toInt32) &&& (1431655765 : Int32)))) fun v1 =>
  ltt (((v1 &&& (858993459 : Int32)) + (((v1.toUInt32 >>> ((2 : Int32).toUInt32 &&& Int32.toUInt32 31)).toInt32) &&& (858993459 : Int32)))) fun v2 =>
  ltt (((v2 + ((v2.toUInt32 >>> ((4 : Int32).toUInt32 &&& Int32.toUInt32 31)).toInt32)) &&& (252645135 : Int32))) fun v3 =>
  ltt ((v3 + ((v3.toUInt32 >>> ((8 : Int32).toUInt32 &&& Int32.toUInt32 31)).toInt32))) fun v4 =>
  ltt ((v4 + ((v4.toUInt32 >>> ((16 : Int32).toUInt32 &&& Int32.toUInt32 31)).toInt32))) fun v5 =>
  some (v5 &&& (63 : Int32))
set_option maxHeartbeats 4000000 in
set_option maxRecDepth 100000 in
theorem uJ6_bitCount_0f7a4 {l : Launch} {g : GG}  {pa : Int32} {o : Int32} (h : fJ6_bitCount_0f7a4 pa = some o) : mC l g yJ6_bitCount_0f7a4 cJ6_bitCount_0f7a4 1 (some .int) (rM 0 0) [.int pa] [] [] (some (.int o)) := by
  refine mC.ofW (by decide) (fun p e s m below meth c X hH ls _ hl => ?_) (Nat.le_of_ble_eq_true rfl)
  have hx := X.1
  have hb := X.2.1
  have hl : lv_has ls 1 [(0, .int pa)] := hl
  unfold fJ6_bitCount_0f7a4 at h
  suffices HH : ∀ (H : Heap) (locs : List Loc), mH g s [] [] H locs → W p l e (rM 0 0) s m _ below meth c H locs 0 0 (mZ g below _ s [] [] (some (.int o))) (F0 m 0 ls []) from HH _ _ hH
  clear hH
  intro H locs hH
  refine lv_iload_n hx hb dJ6_bitCount_0f7a4_0 rfl (lv_at hl 0 rfl) ?_
  refine lv_iload_n hx hb dJ6_bitCount_0f7a4_1 rfl (lv_at hl 0 rfl) ?_
  refine lv_iconst (v := (1 : Int32)) hx hb dJ6_bitCount_0f7a4_2 (by decide) ?_
  refine lv_iushr hx hb dJ6_bitCount_0f7a4_3 rfl ?_
  refine lv_ldcw hx hb X.2.2.2.2.1 (X.2.2.2.2.2.1 _ nJ6_265) dJ6_bitCount_0f7a4_4 ?_
  refine lv_iand hx hb dJ6_bitCount_0f7a4_7 ?_
  refine lv_isub hx hb dJ6_bitCount_0f7a4_8 ?_
  obtain ⟨v1, ev1, h⟩ := ltt_x h
  refine s_in X (lv' := [(0, .int v1)]) hl ev1 dJ6_bitCount_0f7a4_9 rfl (by decide) rfl (fun ls hl => ?_)
  refine lv_iload_n hx hb dJ6_bitCount_0f7a4_10 rfl (lv_at hl 0 rfl) ?_
  refine lv_ldcw hx hb X.2.2.2.2.1 (X.2.2.2.2.2.1 _ nJ6_266) dJ6_bitCount_0f7a4_11 ?_
  refine lv_iand hx hb dJ6_bitCount_0f7a4_14 ?_
  refine lv_iload_n hx hb dJ6_bitCount_0f7a4_15 rfl (lv_at hl 0 rfl) ?_
  refine lv_iconst (v := (2 : Int32)) hx hb dJ6_bitCount_0f7a4_16 (by decide) ?_
  refine lv_iushr hx hb dJ6_bitCount_0f7a4_17 rfl ?_
  refine lv_ldcw hx hb X.2.2.2.2.1 (X.2.2.2.2.2.1 _ nJ6_266) dJ6_bitCount_0f7a4_18 ?_
  refine lv_iand hx hb dJ6_bitCount_0f7a4_21 ?_
  refine lv_iadd hx hb dJ6_bitCount_0f7a4_22 ?_
  obtain ⟨v2, ev2, h⟩ := ltt_x h
  refine s_in X (lv' := [(0, .int v2)]) hl ev2 dJ6_bitCount_0f7a4_23 rfl (by decide) rfl (fun ls hl => ?_)
  refine lv_iload_n hx hb dJ6_bitCount_0f7a4_24 rfl (lv_at hl 0 rfl) ?_
  refine lv_iload_n hx hb dJ6_bitCount_0f7a4_25 rfl (lv_at hl 0 rfl) ?_
  refine lv_iconst (v := (4 : Int32)) hx hb dJ6_bitCount_0f7a4_26 (by decide) ?_
  refine lv_iushr hx hb dJ6_bitCount_0f7a4_27 rfl ?_
  refine lv_iadd hx hb dJ6_bitCount_0f7a4_28 ?_
  refine lv_ldcw hx hb X.2.2.2.2.1 (X.2.2.2.2.2.1 _ nJ6_267) dJ6_bitCount_0f7a4_29 ?_
  refine lv_iand hx hb dJ6_bitCount_0f7a4_32 ?_
  obtain ⟨v3, ev3, h⟩ := ltt_x h
  refine s_in X (lv' := [(0, .int v3)]) hl ev3 dJ6_bitCount_0f7a4_33 rfl (by decide) rfl (fun ls hl => ?_)
  refine lv_iload_n hx hb dJ6_bitCount_0f7a4_34 rfl (lv_at hl 0 rfl) ?_
  refine lv_iload_n hx hb dJ6_bitCount_0f7a4_35 rfl (lv_at hl 0 rfl) ?_
  refine lv_bipush (v := (8 : Int32)) hx hb dJ6_bitCount_0f7a4_36 (by decide) ?_
  refine lv_iushr hx hb dJ6_bitCount_0f7a4_38 rfl ?_
  refine lv_iadd hx hb dJ6_bitCount_0f7a4_39 ?_
  obtain ⟨v4, ev4, h⟩ := ltt_x h
  refine s_in X (lv' := [(0, .int v4)]) hl ev4 dJ6_bitCount_0f7a4_40 rfl (by decide) rfl (fun ls hl => ?_)
  refine lv_iload_n hx hb dJ6_bitCount_0f7a4_41 rfl (lv_at hl 0 rfl) ?_
  refine lv_iload_n hx hb dJ6_bitCount_0f7a4_42 rfl (lv_at hl 0 rfl) ?_
  refine lv_bipush (v := (16 : Int32)) hx hb dJ6_bitCount_0f7a4_43 (by decide) ?_
  refine lv_iushr hx hb dJ6_bitCount_0f7a4_45 rfl ?_
  refine lv_iadd hx hb dJ6_bitCount_0f7a4_46 ?_
  obtain ⟨v5, ev5, h⟩ := ltt_x h
  refine s_in X (lv' := [(0, .int v5)]) hl ev5 dJ6_bitCount_0f7a4_47 rfl (by decide) rfl (fun ls hl => ?_)
  refine lv_iload_n hx hb dJ6_bitCount_0f7a4_48 rfl (lv_at hl 0 rfl) ?_
  refine lv_bipush (v := (63 : Int32)) hx hb dJ6_bitCount_0f7a4_49 (by decide) ?_
  refine lv_iand hx hb dJ6_bitCount_0f7a4_51 ?_
  have h := Option.some.inj h
  subst h
  exact e_i X hH dJ6_bitCount_0f7a4_52

def qX8_likely_76 (pa : Int32) (pb : Int32) (pc_ : Int32) (pd : Int32) (pe : Int32) (k20 : SX8 → Int32 → Int64 → Int32 → Option (Int64 × SX8)) (xs : SX8) (l6 : Int32) (l7 : Int64) (l9 : Int32) : Option (Int64 × SX8) :=
  ltt (l9 + (1 : Int32)) fun v3 =>
  k20 xs l6 l7 v3
def qX8_likely_20 (pa : Int32) (pb : Int32) (pc_ : Int32) (pd : Int32) (pe : Int32)  : Nat → SX8 → Int32 → Int64 → Int32 → Option (Int64 × SX8)
  | 0, _, _, _, _ => none
  | fu + 1, xs, l6, l7, l9 =>
  (if ((1 : Int32) <<< (l6 &&& 31)) ≤ l9 then
  (fX8_power (pc_.toInt64) l6).bind fun o1 =>
  (fX8_leastTerms l7 o1 pe).bind fun o2 =>
  some (o2, xs)
  else
  (fX3_allWays (w_net xs)).bind fun o3 =>
  ltt ((o3 &&& (l9 ^^^ (-1 : Int32)))) fun v2 =>
  (fX8_comesWithin xs pa pb pd v2).bind fun o4 =>
  (if o4.1 = (0 : Int32) then
  qX8_likely_76 pa pb pc_ pd pe (qX8_likely_20 pa pb pc_ pd pe  fu) o4.2 l6 l7 l9
  else
  (fJ6_bitCount_0f7a4 l9).bind fun o5 =>
  (fX8_power ((pc_ - (1 : Int32)).toInt64) (l6 - o5)).bind fun o6 =>
  ltt ((l7 + o6)) fun v4 =>
  qX8_likely_76 pa pb pc_ pd pe (qX8_likely_20 pa pb pc_ pd pe  fu) o4.2 l6 v4 l9))
def fX8_likely (xs : SX8) (pa : Int32) (pb : Int32) (pc_ : Int32) (pd : Int32) (pe : Int32) : Option (Int64 × SX8) :=
  ltt ((if (6 : Int32) < (n_ways (w_net xs)) then (6 : Int32) else (n_ways (w_net xs)))) fun v1 =>
  qX8_likely_20 pa pb pc_ pd pe FU xs v1 (0 : Int64) (0 : Int32)
set_option maxHeartbeats 4000000 in
set_option maxRecDepth 100000 in
theorem pX8_likely_76 {p : Program} {l : Launch} {e : Env} {s : State} {m : MethodId} {args : Array Value} {below : List Frame} {meth : Method} {c : Code} {g : GG} {w0 : va_W} {a : Nat → Nat} {i : Nat} {pa : Int32} {pb : Int32} {pc_ : Int32} {pd : Int32} {pe : Int32} {o : (Int64 × SX8)} (X : mX g yX8_likely cX8_likely 11 (some .long) p s m args meth c w0)
  {k20 : SX8 → Int32 → Int64 → Int32 → Option (Int64 × SX8)} (K20 : ∀ (xs : SX8) (l6 : Int32) (l7 : Int64) (l9 : Int32) (H : Heap) (locs : List Loc) (ls : Array Slot), k20 xs l6 l7 l9 = some o → mH g s w0 (wX8 g a i xs) H locs → lv_has ls 11 [(0, .ref (a i)), (1, .int pa), (2, .int pb), (3, .int pc_), (4, .int pd), (5, .int pe), (6, .int l6), (7, .long l7), (9, .int l9)] → W p l e (rM 5 126) s m args below meth c H locs 0 0 (mZ g below args s w0 (wX8 g a i o.2) (some (.long o.1))) (F0 m 20 ls [])) :
  ∀ (xs : SX8) (l6 : Int32) (l7 : Int64) (l9 : Int32) (H : Heap) (locs : List Loc) (ls : Array Slot), qX8_likely_76 pa pb pc_ pd pe k20 xs l6 l7 l9 = some o → mH g s w0 (wX8 g a i xs) H locs → lv_has ls 11 [(0, .ref (a i)), (1, .int pa), (2, .int pb), (3, .int pc_), (4, .int pd), (5, .int pe), (6, .int l6), (7, .long l7), (9, .int l9)] → W p l e (rM 5 126) s m args below meth c H locs 0 0 (mZ g below args s w0 (wX8 g a i o.2) (some (.long o.1))) (F0 m 76 ls []) := by
  have hx := X.1
  have hb := X.2.1
  intro xs l6 l7 l9 H locs ls h hH hl
  unfold qX8_likely_76 at h
  obtain ⟨v3, ev3, h⟩ := ltt_x h
  refine s_inc X (k := 8) (lv' := [(9, .int v3), (0, .ref (a i)), (1, .int pa), (2, .int pb), (3, .int pc_), (4, .int pd), (5, .int pe), (6, .int l6), (7, .long l7)]) hl rfl (by rw [ev3]; rfl) dX8_likely_76 (by decide) rfl (fun ls hl => ?_)
  refine lv_goto (tgt := 20) hx hb dX8_likely_79 (by decide) ?_
  exact K20 xs l6 l7 v3 H locs ls h hH (lv_sub hl [1, 2, 3, 4, 5, 6, 7, 8, 0] rfl)
set_option maxHeartbeats 4000000 in
set_option maxRecDepth 100000 in
theorem pX8_likely_20 {p : Program} {l : Launch} {e : Env} {s : State} {m : MethodId} {args : Array Value} {below : List Frame} {meth : Method} {c : Code} {g : GG} {w0 : va_W} {a : Nat → Nat} {i : Nat} {pa : Int32} {pb : Int32} {pc_ : Int32} {pd : Int32} {pe : Int32} {o : (Int64 × SX8)} (X : mX g yX8_likely cX8_likely 11 (some .long) p s m args meth c w0) :
  ∀ (fu : Nat) (xs : SX8) (l6 : Int32) (l7 : Int64) (l9 : Int32) (H : Heap) (locs : List Loc) (ls : Array Slot), qX8_likely_20 pa pb pc_ pd pe fu xs l6 l7 l9 = some o → mH g s w0 (wX8 g a i xs) H locs → lv_has ls 11 [(0, .ref (a i)), (1, .int pa), (2, .int pb), (3, .int pc_), (4, .int pd), (5, .int pe), (6, .int l6), (7, .long l7), (9, .int l9)] → W p l e (rM 5 126) s m args below meth c H locs 0 0 (mZ g below args s w0 (wX8 g a i o.2) (some (.long o.1))) (F0 m 20 ls []) := by
  have hx := X.1
  have hb := X.2.1
  intro fu
  induction fu with
  | zero =>
    intro xs l6 l7 l9 H locs ls h
    unfold qX8_likely_20 at h
    cases h
  | succ fu ih =>
    intro xs l6 l7 l9 H locs ls h hH hl
    unfold qX8_likely_20 at h
    refine lv_iload hx hb dX8_likely_20 (lv_at hl 8 rfl) ?_
    refine lv_iconst (v := (1 : Int32)) hx hb dX8_likely_22 (by decide) ?_
    refine lv_iload hx hb dX8_likely_23 (lv_at hl 6 rfl) ?_
    refine lv_ishl hx hb dX8_likely_25 ?_
    refine lv_icmp_ge (tgt := 82) hx hb dX8_likely_26 (by decide) (fun c1 => ?_) (fun c1 => ?_)
    · have h := it_x h c1
      refine lv_lload hx hb dX8_likely_82 (lv_at hl 7 rfl) ?_
      refine lv_iload_n hx hb dX8_likely_84 rfl (lv_at hl 3 rfl) ?_
      refine lv_i2l hx hb dX8_likely_85 rfl ?_
      refine lv_iload hx hb dX8_likely_86 (lv_at hl 6 rfl) ?_
      obtain ⟨o1, ho1, h⟩ := bd_x h
      refine r_S X hH (ws1 := (wX8 g a i xs)) (As := [.long (pc_.toInt64), .int l6]) (rest := [.long l7]) (st1 := [.long o1, .long l7]) (uX8_power  ho1) kX8_power mX8_330 sX8_power zX8 okX8_power ⟨Nat.le_of_ble_eq_true rfl, Nat.le_of_ble_eq_true rfl⟩ rfl rfl (pm_none _) (pm_none _) rfl hl.1 rfl (Nat.le_of_ble_eq_true rfl) ⟨Nat.le_refl 0, Nat.le_refl 0⟩ rfl dX8_likely_88 (fun H locs hH => ?_)
      refine lv_iload hx hb dX8_likely_91 (lv_at hl 5 rfl) ?_
      obtain ⟨o2, ho2, h⟩ := bd_x h
      refine r_S X hH (ws1 := (wX8 g a i xs)) (As := [.long l7, .long o1, .int pe]) (rest := []) (st1 := [.long o2]) (uX8_leastTerms  ho2) kX8_leastTerms mX8_182 sX8_leastTerms zX8 okX8_leastTerms ⟨Nat.le_of_ble_eq_true rfl, Nat.le_of_ble_eq_true rfl⟩ rfl rfl (pm_none _) (pm_none _) rfl hl.1 rfl (Nat.le_of_ble_eq_true rfl) ⟨Nat.le_refl 0, Nat.le_refl 0⟩ rfl dX8_likely_93 (fun H locs hH => ?_)
      have h := Option.some.inj h
      subst h
      exact e_l X hH dX8_likely_96
    · have h := ie_x h c1
      refine lv_aload_n hx hb dX8_likely_29 rfl (lv_at hl 0 rfl) ?_
      refine f_get X hH 0 rfl rfl 0 (by decide) inX8 fX8_10 rfl dX8_likely_30 ?_
      obtain ⟨o3, ho3, h⟩ := bd_x h
      refine r_V X hH (ws1 := (wX8 g a i xs)) (As := []) (rest := []) (st1 := [.int o3]) (uX3_allWays (a := a) (i := (i + 1)) ho3) kX3_allWays mX8_157 iX3_allWays vX3_allWays zX3 okX3_allWays ⟨Nat.le_of_ble_eq_true rfl, Nat.le_of_ble_eq_true rfl⟩ rfl rfl (q0 := 1) rfl rfl (bX8_1) (bX8_1) rfl hl.1 rfl (Nat.le_of_ble_eq_true rfl) ⟨Nat.le_refl 0, Nat.le_refl 0⟩ rfl dX8_likely_33 (fun H locs hH => ?_)
      refine lv_iload hx hb dX8_likely_36 (lv_at hl 8 rfl) ?_
      refine lv_iconst (v := (-1 : Int32)) hx hb dX8_likely_38 (by decide) ?_
      refine lv_ixor hx hb dX8_likely_39 ?_
      refine lv_iand hx hb dX8_likely_40 ?_
      obtain ⟨v2, ev2, h⟩ := ltt_x h
      refine s_i X (lv' := [(10, .int v2), (0, .ref (a i)), (1, .int pa), (2, .int pb), (3, .int pc_), (4, .int pd), (5, .int pe), (6, .int l6), (7, .long l7), (9, .int l9)]) hl ev2 dX8_likely_41 (by decide) rfl (fun ls hl => ?_)
      refine lv_aload_n hx hb dX8_likely_43 rfl (lv_at hl 1 rfl) ?_
      refine lv_iload_n hx hb dX8_likely_44 rfl (lv_at hl 2 rfl) ?_
      refine lv_iload_n hx hb dX8_likely_45 rfl (lv_at hl 3 rfl) ?_
      refine lv_iload hx hb dX8_likely_46 (lv_at hl 5 rfl) ?_
      refine lv_iload hx hb dX8_likely_48 (lv_at hl 0 rfl) ?_
      obtain ⟨o4, ho4, h⟩ := bd_x h
      refine r_V X hH (ws1 := (wX8 g a i o4.2)) (As := [.int pa, .int pb, .int pd, .int v2]) (rest := []) (st1 := [.int o4.1]) (uX8_comesWithin (a := a) (i := i) ho4) kX8_comesWithin mX8_321 iX8_comesWithin vX8_comesWithin zX8 okX8_comesWithin ⟨Nat.le_of_ble_eq_true rfl, Nat.le_of_ble_eq_true rfl⟩ rfl rfl (q0 := 0) rfl rfl (pm_all _) (pm_all _) rfl hl.1 rfl (Nat.le_of_ble_eq_true rfl) ⟨Nat.le_refl 0, Nat.le_refl 0⟩ rfl dX8_likely_50 (fun H locs hH => ?_)
      refine lv_if_eq (tgt := 76) hx hb dX8_likely_53 (by decide) (fun c2 => ?_) (fun c2 => ?_)
      · have h := it_x h c2
        exact pX8_likely_76 X ih o4.2 l6 l7 l9 H locs ls h hH (lv_sub hl [1, 2, 3, 4, 5, 6, 7, 8, 9] rfl)
      · have h := ie_x h c2
        refine lv_lload hx hb dX8_likely_56 (lv_at hl 8 rfl) ?_
        refine lv_iload_n hx hb dX8_likely_58 rfl (lv_at hl 4 rfl) ?_
        refine lv_iconst (v := (1 : Int32)) hx hb dX8_likely_59 (by decide) ?_
        refine lv_isub hx hb dX8_likely_60 ?_
        refine lv_i2l hx hb dX8_likely_61 rfl ?_
        refine lv_iload hx hb dX8_likely_62 (lv_at hl 7 rfl) ?_
        refine lv_iload hx hb dX8_likely_64 (lv_at hl 9 rfl) ?_
        obtain ⟨o5, ho5, h⟩ := bd_x h
        refine r_S X hH (ws1 := (wX8 g a i o4.2)) (As := [.int l9]) (rest := [.int l6, .long ((pc_ - (1 : Int32)).toInt64), .long l7]) (st1 := [.int o5, .int l6, .long ((pc_ - (1 : Int32)).toInt64), .long l7]) (uJ6_bitCount_0f7a4  ho5) kJ6_bitCount_0f7a4 mX8_325 sJ6_bitCount_0f7a4 zJ6 okJ6_bitCount_0f7a4 ⟨Nat.le_of_ble_eq_true rfl, Nat.le_of_ble_eq_true rfl⟩ rfl rfl (pm_none _) (pm_none _) rfl hl.1 rfl (Nat.le_of_ble_eq_true rfl) ⟨Nat.le_refl 0, Nat.le_refl 0⟩ rfl dX8_likely_66 (fun H locs hH => ?_)
        refine lv_isub hx hb dX8_likely_69 ?_
        obtain ⟨o6, ho6, h⟩ := bd_x h
        refine r_S X hH (ws1 := (wX8 g a i o4.2)) (As := [.long ((pc_ - (1 : Int32)).toInt64), .int (l6 - o5)]) (rest := [.long l7]) (st1 := [.long o6, .long l7]) (uX8_power  ho6) kX8_power mX8_330 sX8_power zX8 okX8_power ⟨Nat.le_of_ble_eq_true rfl, Nat.le_of_ble_eq_true rfl⟩ rfl rfl (pm_none _) (pm_none _) rfl hl.1 rfl (Nat.le_of_ble_eq_true rfl) ⟨Nat.le_refl 0, Nat.le_refl 0⟩ rfl dX8_likely_70 (fun H locs hH => ?_)
        refine lv_ladd hx hb dX8_likely_73 ?_
        obtain ⟨v4, ev4, h⟩ := ltt_x h
        refine s_l X (lv' := [(7, .long v4), (10, .int v2), (0, .ref (a i)), (1, .int pa), (2, .int pb), (3, .int pc_), (4, .int pd), (5, .int pe), (6, .int l6), (9, .int l9)]) hl ev4 dX8_likely_74 (by decide) rfl (fun ls hl => ?_)
        exact pX8_likely_76 X ih o4.2 l6 v4 l9 H locs ls h hH (lv_sub hl [2, 3, 4, 5, 6, 7, 8, 0, 9] rfl)
set_option maxHeartbeats 4000000 in
set_option maxRecDepth 100000 in
theorem uX8_likely {l : Launch} {g : GG} {a : Nat → Nat} {i : Nat} {xs : SX8} {pa : Int32} {pb : Int32} {pc_ : Int32} {pd : Int32} {pe : Int32} {o : (Int64 × SX8)} (h : fX8_likely xs pa pb pc_ pd pe = some o) : mC l g yX8_likely cX8_likely 11 (some .long) (rM 5 126) [.ref (a i), .int pa, .int pb, .int pc_, .int pd, .int pe] (wX8 g a i xs) (wX8 g a i o.2) (some (.long o.1)) := by
  refine mC.ofW (by decide) (fun p e s m below meth c X hH ls _ hl => ?_) (Nat.le_of_ble_eq_true rfl)
  have hx := X.1
  have hb := X.2.1
  have hl : lv_has ls 11 [(0, .ref (a i)), (1, .int pa), (2, .int pb), (3, .int pc_), (4, .int pd), (5, .int pe)] := hl
  unfold fX8_likely at h
  suffices HH : ∀ (H : Heap) (locs : List Loc), mH g s (wX8 g a i xs) (wX8 g a i xs) H locs → W p l e (rM 5 126) s m _ below meth c H locs 0 0 (mZ g below _ s (wX8 g a i xs) (wX8 g a i o.2) (some (.long o.1))) (F0 m 0 ls []) from HH _ _ hH
  clear hH
  intro H locs hH
  refine lv_aload_n hx hb dX8_likely_0 rfl (lv_at hl 0 rfl) ?_
  refine f_get X hH 0 rfl rfl 0 (by decide) inX8 fX8_10 rfl dX8_likely_1 ?_
  refine f_get X hH 1 rfl rfl 1 (by decide) inX3 fX8_227 rfl dX8_likely_4 ?_
  refine lv_bipush (v := (6 : Int32)) hx hb dX8_likely_7 (by decide) ?_
  refine va_mmin hx hb (X.2.2.2.1.trans hl.1.symm) X.2.2.2.2.1 (X.2.2.2.2.2.1 _ mX8_316) (X.2.2.2.2.2.1 _ sJ9_min_7cf53) (X.2.2.2.2.2.1 _ zJ9) (X.2.2.2.2.2.1 _ kJ9_min_7cf53) (Nat.le_of_ble_eq_true rfl) (Nat.le_of_ble_eq_true rfl) (Nat.le_refl 0) (Nat.le_refl 0) dX8_likely_9 ?_
  obtain ⟨v1, ev1, h⟩ := ltt_x h
  refine s_i X (lv' := [(6, .int v1), (0, .ref (a i)), (1, .int pa), (2, .int pb), (3, .int pc_), (4, .int pd), (5, .int pe)]) hl ev1 dX8_likely_12 (by decide) rfl (fun ls hl => ?_)
  refine lv_lconst (v := (0 : Int64)) hx hb dX8_likely_14 (by decide) ?_
  refine s_l X (lv' := [(7, .long (0 : Int64)), (6, .int v1), (0, .ref (a i)), (1, .int pa), (2, .int pb), (3, .int pc_), (4, .int pd), (5, .int pe)]) hl rfl dX8_likely_15 (by decide) rfl (fun ls hl => ?_)
  refine lv_iconst (v := (0 : Int32)) hx hb dX8_likely_17 (by decide) ?_
  refine s_i X (lv' := [(9, .int (0 : Int32)), (7, .long (0 : Int64)), (6, .int v1), (0, .ref (a i)), (1, .int pa), (2, .int pb), (3, .int pc_), (4, .int pd), (5, .int pe)]) hl rfl dX8_likely_18 (by decide) rfl (fun ls hl => ?_)
  exact pX8_likely_20 X FU xs v1 (0 : Int64) (0 : Int32) H locs ls h hH (lv_sub hl [3, 4, 5, 6, 7, 8, 2, 1, 0] rfl)

def fX8_sure (xs : SX8) (pa : Int32) (pb : Int32) (pc_ : Int32) (pd : Int32) : Option (Int64 × SX8) :=
  (fX8_refusalOfUnsure xs pa pb pc_ (0 : Int32) pd).bind fun o1 =>
  (if o1 = (0 : Int32) then
  (fX8_likely xs pa pb pc_ (-1 : Int32) pd).bind fun o2 =>
  some (o2.1, o2.2)
  else
  (fX8_refused xs o1).bind fun o3 =>
  some (o3.1, o3.2))
set_option maxHeartbeats 4000000 in
set_option maxRecDepth 100000 in
theorem uX8_sure {l : Launch} {g : GG} {a : Nat → Nat} {i : Nat} {xs : SX8} {pa : Int32} {pb : Int32} {pc_ : Int32} {pd : Int32} {o : (Int64 × SX8)} (h : fX8_sure xs pa pb pc_ pd = some o) : mC l g yX8_sure cX8_sure 6 (some .long) (rM 6 156) [.ref (a i), .int pa, .int pb, .int pc_, .int pd] (wX8 g a i xs) (wX8 g a i o.2) (some (.long o.1)) := by
  refine mC.ofW (by decide) (fun p e s m below meth c X hH ls _ hl => ?_) (Nat.le_of_ble_eq_true rfl)
  have hx := X.1
  have hb := X.2.1
  have hl : lv_has ls 6 [(0, .ref (a i)), (1, .int pa), (2, .int pb), (3, .int pc_), (4, .int pd)] := hl
  unfold fX8_sure at h
  suffices HH : ∀ (H : Heap) (locs : List Loc), mH g s (wX8 g a i xs) (wX8 g a i xs) H locs → W p l e (rM 6 156) s m _ below meth c H locs 0 0 (mZ g below _ s (wX8 g a i xs) (wX8 g a i o.2) (some (.long o.1))) (F0 m 0 ls []) from HH _ _ hH
  clear hH
  intro H locs hH
  refine lv_aload_n hx hb dX8_sure_0 rfl (lv_at hl 0 rfl) ?_
  refine lv_iload_n hx hb dX8_sure_1 rfl (lv_at hl 1 rfl) ?_
  refine lv_iload_n hx hb dX8_sure_2 rfl (lv_at hl 2 rfl) ?_
  refine lv_iload_n hx hb dX8_sure_3 rfl (lv_at hl 3 rfl) ?_
  refine lv_iconst (v := (0 : Int32)) hx hb dX8_sure_4 (by decide) ?_
  refine lv_iload hx hb dX8_sure_5 (lv_at hl 4 rfl) ?_
  obtain ⟨o1, ho1, h⟩ := bd_x h
  refine r_V X hH (ws1 := (wX8 g a i xs)) (As := [.int pa, .int pb, .int pc_, .int (0 : Int32), .int pd]) (rest := []) (st1 := [.int o1]) (uX8_refusalOfUnsure (a := a) (i := i) ho1) kX8_refusalOfUnsure mX8_233 iX8_refusalOfUnsure vX8_refusalOfUnsure zX8 okX8_refusalOfUnsure ⟨Nat.le_of_ble_eq_true rfl, Nat.le_of_ble_eq_true rfl⟩ rfl rfl (q0 := 0) rfl rfl (pm_all _) (pm_all _) rfl hl.1 rfl (Nat.le_of_ble_eq_true rfl) ⟨Nat.le_refl 0, Nat.le_refl 0⟩ rfl dX8_sure_7 (fun H locs hH => ?_)
  refine s_i X (lv' := [(5, .int o1), (0, .ref (a i)), (1, .int pa), (2, .int pb), (3, .int pc_), (4, .int pd)]) hl rfl dX8_sure_10 (by decide) rfl (fun ls hl => ?_)
  refine lv_iload hx hb dX8_sure_12 (lv_at hl 0 rfl) ?_
  refine lv_if_eq (tgt := 26) hx hb dX8_sure_14 (by decide) (fun c1 => ?_) (fun c1 => ?_)
  · have h := it_x h c1
    refine lv_aload_n hx hb dX8_sure_26 rfl (lv_at hl 1 rfl) ?_
    refine lv_iload_n hx hb dX8_sure_27 rfl (lv_at hl 2 rfl) ?_
    refine lv_iload_n hx hb dX8_sure_28 rfl (lv_at hl 3 rfl) ?_
    refine lv_iload_n hx hb dX8_sure_29 rfl (lv_at hl 4 rfl) ?_
    refine lv_iconst (v := (-1 : Int32)) hx hb dX8_sure_30 (by decide) ?_
    refine lv_iload hx hb dX8_sure_31 (lv_at hl 5 rfl) ?_
    obtain ⟨o2, ho2, h⟩ := bd_x h
    refine r_V X hH (ws1 := (wX8 g a i o2.2)) (As := [.int pa, .int pb, .int pc_, .int (-1 : Int32), .int pd]) (rest := []) (st1 := [.long o2.1]) (uX8_likely (a := a) (i := i) ho2) kX8_likely mX8_237 iX8_likely vX8_likely zX8 okX8_likely ⟨Nat.le_of_ble_eq_true rfl, Nat.le_of_ble_eq_true rfl⟩ rfl rfl (q0 := 0) rfl rfl (pm_all _) (pm_all _) rfl hl.1 rfl (Nat.le_of_ble_eq_true rfl) ⟨Nat.le_refl 0, Nat.le_refl 0⟩ rfl dX8_sure_33 (fun H locs hH => ?_)
    have h := Option.some.inj h
    subst h
    exact e_l X hH dX8_sure_36
  · have h := ie_x h c1
    refine lv_aload_n hx hb dX8_sure_17 rfl (lv_at hl 1 rfl) ?_
    refine lv_iload hx hb dX8_sure_18 (lv_at hl 0 rfl) ?_
    obtain ⟨o3, ho3, h⟩ := bd_x h
    refine r_V X hH (ws1 := (wX8 g a i o3.2)) (As := [.int o1]) (rest := []) (st1 := [.long o3.1]) (uX8_refused (a := a) (i := i) ho3) kX8_refused mX8_167 iX8_refused vX8_refused zX8 okX8_refused ⟨Nat.le_of_ble_eq_true rfl, Nat.le_of_ble_eq_true rfl⟩ rfl rfl (q0 := 0) rfl rfl (pm_all _) (pm_all _) rfl hl.1 rfl (Nat.le_of_ble_eq_true rfl) ⟨Nat.le_refl 0, Nat.le_refl 0⟩ rfl dX8_sure_20 (fun H locs hH => ?_)
    refine lv_goto (tgt := 36) hx hb dX8_sure_23 (by decide) ?_
    have h := Option.some.inj h
    subst h
    exact e_l X hH dX8_sure_36

def fX8_fast (xs : SX8) (pa : Int32) (pb : Int32) (pc_ : Int32) (pd : Int32) (pe : Int32) : Option (Int64 × SX8) :=
  (fX8_refusalOfUnsure xs pa pb pc_ pd pe).bind fun o1 =>
  (if o1 = (0 : Int32) then
  (fX8_likely xs pa pb pc_ pd pe).bind fun o2 =>
  some (o2.1, o2.2)
  else
  (fX8_refused xs o1).bind fun o3 =>
  some (o3.1, o3.2))
set_option maxHeartbeats 4000000 in
set_option maxRecDepth 100000 in
theorem uX8_fast {l : Launch} {g : GG} {a : Nat → Nat} {i : Nat} {xs : SX8} {pa : Int32} {pb : Int32} {pc_ : Int32} {pd : Int32} {pe : Int32} {o : (Int64 × SX8)} (h : fX8_fast xs pa pb pc_ pd pe = some o) : mC l g yX8_fast cX8_fast 7 (some .long) (rM 6 156) [.ref (a i), .int pa, .int pb, .int pc_, .int pd, .int pe] (wX8 g a i xs) (wX8 g a i o.2) (some (.long o.1)) := by
  refine mC.ofW (by decide) (fun p e s m below meth c X hH ls _ hl => ?_) (Nat.le_of_ble_eq_true rfl)
  have hx := X.1
  have hb := X.2.1
  have hl : lv_has ls 7 [(0, .ref (a i)), (1, .int pa), (2, .int pb), (3, .int pc_), (4, .int pd), (5, .int pe)] := hl
  unfold fX8_fast at h
  suffices HH : ∀ (H : Heap) (locs : List Loc), mH g s (wX8 g a i xs) (wX8 g a i xs) H locs → W p l e (rM 6 156) s m _ below meth c H locs 0 0 (mZ g below _ s (wX8 g a i xs) (wX8 g a i o.2) (some (.long o.1))) (F0 m 0 ls []) from HH _ _ hH
  clear hH
  intro H locs hH
  refine lv_aload_n hx hb dX8_fast_0 rfl (lv_at hl 0 rfl) ?_
  refine lv_iload_n hx hb dX8_fast_1 rfl (lv_at hl 1 rfl) ?_
  refine lv_iload_n hx hb dX8_fast_2 rfl (lv_at hl 2 rfl) ?_
  refine lv_iload_n hx hb dX8_fast_3 rfl (lv_at hl 3 rfl) ?_
  refine lv_iload hx hb dX8_fast_4 (lv_at hl 4 rfl) ?_
  refine lv_iload hx hb dX8_fast_6 (lv_at hl 5 rfl) ?_
  obtain ⟨o1, ho1, h⟩ := bd_x h
  refine r_V X hH (ws1 := (wX8 g a i xs)) (As := [.int pa, .int pb, .int pc_, .int pd, .int pe]) (rest := []) (st1 := [.int o1]) (uX8_refusalOfUnsure (a := a) (i := i) ho1) kX8_refusalOfUnsure mX8_233 iX8_refusalOfUnsure vX8_refusalOfUnsure zX8 okX8_refusalOfUnsure ⟨Nat.le_of_ble_eq_true rfl, Nat.le_of_ble_eq_true rfl⟩ rfl rfl (q0 := 0) rfl rfl (pm_all _) (pm_all _) rfl hl.1 rfl (Nat.le_of_ble_eq_true rfl) ⟨Nat.le_refl 0, Nat.le_refl 0⟩ rfl dX8_fast_8 (fun H locs hH => ?_)
  refine s_i X (lv' := [(6, .int o1), (0, .ref (a i)), (1, .int pa), (2, .int pb), (3, .int pc_), (4, .int pd), (5, .int pe)]) hl rfl dX8_fast_11 (by decide) rfl (fun ls hl => ?_)
  refine lv_iload hx hb dX8_fast_13 (lv_at hl 0 rfl) ?_
  refine lv_if_eq (tgt := 27) hx hb dX8_fast_15 (by decide) (fun c1 => ?_) (fun c1 => ?_)
  · have h := it_x h c1
    refine lv_aload_n hx hb dX8_fast_27 rfl (lv_at hl 1 rfl) ?_
    refine lv_iload_n hx hb dX8_fast_28 rfl (lv_at hl 2 rfl) ?_
    refine lv_iload_n hx hb dX8_fast_29 rfl (lv_at hl 3 rfl) ?_
    refine lv_iload_n hx hb dX8_fast_30 rfl (lv_at hl 4 rfl) ?_
    refine lv_iload hx hb dX8_fast_31 (lv_at hl 5 rfl) ?_
    refine lv_iload hx hb dX8_fast_33 (lv_at hl 6 rfl) ?_
    obtain ⟨o2, ho2, h⟩ := bd_x h
    refine r_V X hH (ws1 := (wX8 g a i o2.2)) (As := [.int pa, .int pb, .int pc_, .int pd, .int pe]) (rest := []) (st1 := [.long o2.1]) (uX8_likely (a := a) (i := i) ho2) kX8_likely mX8_237 iX8_likely vX8_likely zX8 okX8_likely ⟨Nat.le_of_ble_eq_true rfl, Nat.le_of_ble_eq_true rfl⟩ rfl rfl (q0 := 0) rfl rfl (pm_all _) (pm_all _) rfl hl.1 rfl (Nat.le_of_ble_eq_true rfl) ⟨Nat.le_refl 0, Nat.le_refl 0⟩ rfl dX8_fast_35 (fun H locs hH => ?_)
    have h := Option.some.inj h
    subst h
    exact e_l X hH dX8_fast_38
  · have h := ie_x h c1
    refine lv_aload_n hx hb dX8_fast_18 rfl (lv_at hl 1 rfl) ?_
    refine lv_iload hx hb dX8_fast_19 (lv_at hl 0 rfl) ?_
    obtain ⟨o3, ho3, h⟩ := bd_x h
    refine r_V X hH (ws1 := (wX8 g a i o3.2)) (As := [.int o1]) (rest := []) (st1 := [.long o3.1]) (uX8_refused (a := a) (i := i) ho3) kX8_refused mX8_167 iX8_refused vX8_refused zX8 okX8_refused ⟨Nat.le_of_ble_eq_true rfl, Nat.le_of_ble_eq_true rfl⟩ rfl rfl (q0 := 0) rfl rfl (pm_all _) (pm_all _) rfl hl.1 rfl (Nat.le_of_ble_eq_true rfl) ⟨Nat.le_refl 0, Nat.le_refl 0⟩ rfl dX8_fast_21 (fun H locs hH => ?_)
    refine lv_goto (tgt := 38) hx hb dX8_fast_24 (by decide) ?_
    have h := Option.some.inj h
    subst h
    exact e_l X hH dX8_fast_38

def qX8_bitsOf_47 (pa : UInt64)  (l2 : UInt64) (l4 : Int32) : Option Int64 :=
  gn (FP.dsub l2 (4607182418800017408 : UInt64)) <|
  gn (FP.dmul (FP.dsub l2 (4607182418800017408 : UInt64)) (4841369599423283200 : UInt64)) <|
  some (((l4.toInt64) <<< ((52 : Int32).toInt64 &&& 63)) + (FP.d2l (FP.dmul (FP.dsub l2 (4607182418800017408 : UInt64)) (4841369599423283200 : UInt64))))
def qX8_bitsOf_18 (pa : UInt64)  : Nat → UInt64 → Int32 → Int32 → Option Int64
  | 0, _, _, _ => none
  | fu + 1, l2, l4, l5 =>
  (if (1100 : Int32) ≤ l5 then
  qX8_bitsOf_47 pa l2 l4
  else
  (if (0 : Int32) ≤ (Op.cmpValue (FP.dcmp l2 (4607182418800017408 : UInt64)) CmpOp.g) then
  qX8_bitsOf_47 pa l2 l4
  else
  gn (FP.dmul l2 (4611686018427387904 : UInt64)) <|
  ltt ((FP.dmul l2 (4611686018427387904 : UInt64))) fun v1 =>
  ltt (l4 + (-1 : Int32)) fun v2 =>
  ltt (l5 + (1 : Int32)) fun v3 =>
  qX8_bitsOf_18 pa  fu v1 v2 v3))
def fX8_bitsOf (pa : UInt64) : Option Int64 :=
  (if (0 : Int32) < (Op.cmpValue (FP.dcmp pa (0 : UInt64)) CmpOp.l) then
  qX8_bitsOf_18 pa FU pa (1023 : Int32) (0 : Int32)
  else
  some (0 : Int64))
set_option maxHeartbeats 4000000 in
set_option maxRecDepth 100000 in
theorem pX8_bitsOf_47 {p : Program} {l : Launch} {e : Env} {s : State} {m : MethodId} {args : Array Value} {below : List Frame} {meth : Method} {c : Code} {g : GG} {w0 : va_W}  {pa : UInt64} {o : Int64} (X : mX g yX8_bitsOf cX8_bitsOf 6 (some .long) p s m args meth c w0) :
  ∀ (l2 : UInt64) (l4 : Int32) (H : Heap) (locs : List Loc) (ls : Array Slot), qX8_bitsOf_47 pa l2 l4 = some o → mH g s w0 [] H locs → lv_has ls 6 [(0, .double pa), (2, .double l2), (4, .int l4)] → W p l e (rM 0 0) s m args below meth c H locs 0 0 (mZ g below args s w0 [] (some (.long o))) (F0 m 47 ls []) := by
  have hx := X.1
  have hb := X.2.1
  intro l2 l4 H locs ls h hH hl
  unfold qX8_bitsOf_47 at h
  refine lv_iload hx hb dX8_bitsOf_47 (lv_at hl 2 rfl) ?_
  refine lv_i2l hx hb dX8_bitsOf_49 rfl ?_
  refine lv_bipush (v := (52 : Int32)) hx hb dX8_bitsOf_50 (by decide) ?_
  refine lv_lshl hx hb dX8_bitsOf_52 rfl ?_
  refine lv_dload_n hx hb dX8_bitsOf_53 rfl (lv_at hl 1 rfl) ?_
  refine lv_dconst1 hx hb dX8_bitsOf_54 ?_
  obtain ⟨z1, h⟩ := gn_x h
  refine lv_dsub hx hb dX8_bitsOf_55 z1 ?_
  refine lv_ldc2d hx hb X.2.2.2.2.1 (X.2.2.2.2.2.1 _ nX8_384) dX8_bitsOf_56 ?_
  obtain ⟨z2, h⟩ := gn_x h
  refine lv_dmul hx hb dX8_bitsOf_59 z2 ?_
  refine lv_d2l hx hb dX8_bitsOf_60 ?_
  refine lv_ladd hx hb dX8_bitsOf_61 ?_
  have h := Option.some.inj h
  subst h
  exact e_l X hH dX8_bitsOf_62
set_option maxHeartbeats 4000000 in
set_option maxRecDepth 100000 in
theorem pX8_bitsOf_18 {p : Program} {l : Launch} {e : Env} {s : State} {m : MethodId} {args : Array Value} {below : List Frame} {meth : Method} {c : Code} {g : GG} {w0 : va_W}  {pa : UInt64} {o : Int64} (X : mX g yX8_bitsOf cX8_bitsOf 6 (some .long) p s m args meth c w0) :
  ∀ (fu : Nat) (l2 : UInt64) (l4 : Int32) (l5 : Int32) (H : Heap) (locs : List Loc) (ls : Array Slot), qX8_bitsOf_18 pa fu l2 l4 l5 = some o → mH g s w0 [] H locs → lv_has ls 6 [(0, .double pa), (2, .double l2), (4, .int l4), (5, .int l5)] → W p l e (rM 0 0) s m args below meth c H locs 0 0 (mZ g below args s w0 [] (some (.long o))) (F0 m 18 ls []) := by
  have hx := X.1
  have hb := X.2.1
  intro fu
  induction fu with
  | zero =>
    intro l2 l4 l5 H locs ls h
    unfold qX8_bitsOf_18 at h
    cases h
  | succ fu ih =>
    intro l2 l4 l5 H locs ls h hH hl
    unfold qX8_bitsOf_18 at h
    refine lv_iload hx hb dX8_bitsOf_18 (lv_at hl 3 rfl) ?_
    refine lv_sipush (v := (1100 : Int32)) hx hb dX8_bitsOf_20 (by decide) ?_
    refine lv_icmp_ge (tgt := 47) hx hb dX8_bitsOf_23 (by decide) (fun c2 => ?_) (fun c2 => ?_)
    · have h := it_x h c2
      exact pX8_bitsOf_47 X  l2 l4 H locs ls h hH (lv_sub hl [0, 1, 2] rfl)
    · have h := ie_x h c2
      refine lv_dload_n hx hb dX8_bitsOf_26 rfl (lv_at hl 1 rfl) ?_
      refine lv_dconst1 hx hb dX8_bitsOf_27 ?_
      refine lv_dcmp hx hb dX8_bitsOf_28 ?_
      refine lv_if_ge (tgt := 47) hx hb dX8_bitsOf_29 (by decide) (fun c3 => ?_) (fun c3 => ?_)
      · have h := it_x h c3
        exact pX8_bitsOf_47 X  l2 l4 H locs ls h hH (lv_sub hl [0, 1, 2] rfl)
      · have h := ie_x h c3
        refine lv_dload_n hx hb dX8_bitsOf_32 rfl (lv_at hl 1 rfl) ?_
        refine lv_ldc2d hx hb X.2.2.2.2.1 (X.2.2.2.2.2.1 _ nX8_382) dX8_bitsOf_33 ?_
        obtain ⟨z3, h⟩ := gn_x h
        refine lv_dmul hx hb dX8_bitsOf_36 z3 ?_
        obtain ⟨v1, ev1, h⟩ := ltt_x h
        refine s_dn X (lv' := [(2, .double v1), (0, .double pa), (4, .int l4), (5, .int l5)]) hl ev1 dX8_bitsOf_37 rfl (by decide) rfl (fun ls hl => ?_)
        obtain ⟨v2, ev2, h⟩ := ltt_x h
        refine s_inc X (k := 2) (lv' := [(4, .int v2), (2, .double v1), (0, .double pa), (5, .int l5)]) hl rfl (by rw [ev2]; rfl) dX8_bitsOf_38 (by decide) rfl (fun ls hl => ?_)
        obtain ⟨v3, ev3, h⟩ := ltt_x h
        refine s_inc X (k := 3) (lv' := [(5, .int v3), (4, .int v2), (2, .double v1), (0, .double pa)]) hl rfl (by rw [ev3]; rfl) dX8_bitsOf_41 (by decide) rfl (fun ls hl => ?_)
        refine lv_goto (tgt := 18) hx hb dX8_bitsOf_44 (by decide) ?_
        exact ih v1 v2 v3 H locs ls h hH (lv_sub hl [3, 2, 1, 0] rfl)
set_option maxHeartbeats 4000000 in
set_option maxRecDepth 100000 in
theorem uX8_bitsOf {l : Launch} {g : GG}  {pa : UInt64} {o : Int64} (h : fX8_bitsOf pa = some o) : mC l g yX8_bitsOf cX8_bitsOf 6 (some .long) (rM 0 0) [.double pa] [] [] (some (.long o)) := by
  refine mC.ofW (by decide) (fun p e s m below meth c X hH ls _ hl => ?_) (Nat.le_of_ble_eq_true rfl)
  have hx := X.1
  have hb := X.2.1
  have hl : lv_has ls 6 [(0, .double pa)] := hl
  unfold fX8_bitsOf at h
  suffices HH : ∀ (H : Heap) (locs : List Loc), mH g s [] [] H locs → W p l e (rM 0 0) s m _ below meth c H locs 0 0 (mZ g below _ s [] [] (some (.long o))) (F0 m 0 ls []) from HH _ _ hH
  clear hH
  intro H locs hH
  refine lv_dload_n hx hb dX8_bitsOf_0 rfl (lv_at hl 0 rfl) ?_
  refine lv_dconst0 hx hb dX8_bitsOf_1 ?_
  refine lv_dcmp hx hb dX8_bitsOf_2 ?_
  refine lv_if_gt (tgt := 8) hx hb dX8_bitsOf_3 (by decide) (fun c1 => ?_) (fun c1 => ?_)
  · have h := it_x h c1
    refine lv_dload_n hx hb dX8_bitsOf_8 rfl (lv_at hl 0 rfl) ?_
    refine s_dn X (lv' := [(2, .double pa), (0, .double pa)]) hl rfl dX8_bitsOf_9 rfl (by decide) rfl (fun ls hl => ?_)
    refine lv_sipush (v := (1023 : Int32)) hx hb dX8_bitsOf_10 (by decide) ?_
    refine s_i X (lv' := [(4, .int (1023 : Int32)), (2, .double pa), (0, .double pa)]) hl rfl dX8_bitsOf_13 (by decide) rfl (fun ls hl => ?_)
    refine lv_iconst (v := (0 : Int32)) hx hb dX8_bitsOf_15 (by decide) ?_
    refine s_i X (lv' := [(5, .int (0 : Int32)), (4, .int (1023 : Int32)), (2, .double pa), (0, .double pa)]) hl rfl dX8_bitsOf_16 (by decide) rfl (fun ls hl => ?_)
    exact pX8_bitsOf_18 X FU pa (1023 : Int32) (0 : Int32) H locs ls h hH (lv_sub hl [3, 2, 1, 0] rfl)
  · have h := ie_x h c1
    refine lv_lconst (v := (0 : Int64)) hx hb dX8_bitsOf_6 (by decide) ?_
    have h := Option.some.inj h
    subst h
    exact e_l X hH dX8_bitsOf_7

def qX8_bySteps_22 (pa : Int32) (pb : Int32) (pc_ : Int32) (pd : Int32) (k33 : SX8 → Int32 → Option (Int64 × SX8)) (xs : SX8) : Option (Int64 × SX8) :=
  k33 xs (-1 : Int32)
def qX8_bySteps_55 (pa : Int32) (pb : Int32) (pc_ : Int32) (pd : Int32)  (xs : SX8) (l5 : Int32) : Option (Int64 × SX8) :=
  (if l5 = (0 : Int32) then
  (fX6_walk (w_spread xs) (w_net xs) pa pc_).bind fun o2 =>
  ltt ((w_spread_s xs o2)) fun xs1 =>
  ga 6 pb fun j1 =>
  ltt (((sp_now (w_spread xs1)) j1)) fun v1 =>
  (if pd = (0 : Int32) then
  (fX8_bitsOf v1).bind fun o3 =>
  some (o3, xs1)
  else
  gn (FP.dmul v1 (4696837146684686336 : UInt64)) <|
  some (((FP.d2i (FP.dmul v1 (4696837146684686336 : UInt64))).toInt64), xs1))
  else
  (fX8_refused xs l5).bind fun o4 =>
  some (o4.1, o4.2))
def qX8_bySteps_33 (pa : Int32) (pb : Int32) (pc_ : Int32) (pd : Int32)  (xs : SX8) (t0 : Int32) : Option (Int64 × SX8) :=
  (if t0 = (0 : Int32) then
  (if pd = (0 : Int32) then
  qX8_bySteps_55 pa pb pc_ pd xs t0
  else
  (if pd = (1 : Int32) then
  qX8_bySteps_55 pa pb pc_ pd xs t0
  else
  qX8_bySteps_55 pa pb pc_ pd xs (-2 : Int32)))
  else
  qX8_bySteps_55 pa pb pc_ pd xs t0)
def fX8_bySteps (xs : SX8) (pa : Int32) (pb : Int32) (pc_ : Int32) (pd : Int32) : Option (Int64 × SX8) :=
  (fX3_isPoint (w_net xs) pa).bind fun o1 =>
  (if o1 = (0 : Int32) then
  qX8_bySteps_22 pa pb pc_ pd (qX8_bySteps_33 pa pb pc_ pd) xs
  else
  (fX3_isPoint (w_net xs) pb).bind fun o5 =>
  (if o5 = (0 : Int32) then
  qX8_bySteps_22 pa pb pc_ pd (qX8_bySteps_33 pa pb pc_ pd) xs
  else
  (fX8_refusalOfNumber pc_ (0 : Int32) (30 : Int32)).bind fun o6 =>
  qX8_bySteps_33 pa pb pc_ pd xs o6))
set_option maxHeartbeats 4000000 in
set_option maxRecDepth 100000 in
theorem pX8_bySteps_22 {p : Program} {l : Launch} {e : Env} {s : State} {m : MethodId} {args : Array Value} {below : List Frame} {meth : Method} {c : Code} {g : GG} {w0 : va_W} {a : Nat → Nat} {i : Nat} {pa : Int32} {pb : Int32} {pc_ : Int32} {pd : Int32} {o : (Int64 × SX8)} (X : mX g yX8_bySteps cX8_bySteps 8 (some .long) p s m args meth c w0)
  {k33 : SX8 → Int32 → Option (Int64 × SX8)} (K33 : ∀ (xs : SX8) (t0 : Int32) (H : Heap) (locs : List Loc) (ls : Array Slot), k33 xs t0 = some o → mH g s w0 (wX8 g a i xs) H locs → lv_has ls 8 [(0, .ref (a i)), (1, .int pa), (2, .int pb), (3, .int pc_), (4, .int pd)] → W p l e (rM 5 113) s m args below meth c H locs 0 0 (mZ g below args s w0 (wX8 g a i o.2) (some (.long o.1))) (F0 m 33 ls [.int t0])) :
  ∀ (xs : SX8) (H : Heap) (locs : List Loc) (ls : Array Slot), qX8_bySteps_22 pa pb pc_ pd k33 xs = some o → mH g s w0 (wX8 g a i xs) H locs → lv_has ls 8 [(0, .ref (a i)), (1, .int pa), (2, .int pb), (3, .int pc_), (4, .int pd)] → W p l e (rM 5 113) s m args below meth c H locs 0 0 (mZ g below args s w0 (wX8 g a i o.2) (some (.long o.1))) (F0 m 22 ls []) := by
  have hx := X.1
  have hb := X.2.1
  intro xs H locs ls h hH hl
  unfold qX8_bySteps_22 at h
  refine lv_iconst (v := (-1 : Int32)) hx hb dX8_bySteps_22 (by decide) ?_
  refine lv_goto (tgt := 33) hx hb dX8_bySteps_23 (by decide) ?_
  exact K33 xs (-1 : Int32) H locs ls h hH (lv_sub hl [0, 1, 2, 3, 4] rfl)
set_option maxHeartbeats 4000000 in
set_option maxRecDepth 100000 in
theorem pX8_bySteps_55 {p : Program} {l : Launch} {e : Env} {s : State} {m : MethodId} {args : Array Value} {below : List Frame} {meth : Method} {c : Code} {g : GG} {w0 : va_W} {a : Nat → Nat} {i : Nat} {pa : Int32} {pb : Int32} {pc_ : Int32} {pd : Int32} {o : (Int64 × SX8)} (X : mX g yX8_bySteps cX8_bySteps 8 (some .long) p s m args meth c w0) :
  ∀ (xs : SX8) (l5 : Int32) (H : Heap) (locs : List Loc) (ls : Array Slot), qX8_bySteps_55 pa pb pc_ pd xs l5 = some o → mH g s w0 (wX8 g a i xs) H locs → lv_has ls 8 [(0, .ref (a i)), (1, .int pa), (2, .int pb), (3, .int pc_), (4, .int pd), (5, .int l5)] → W p l e (rM 5 113) s m args below meth c H locs 0 0 (mZ g below args s w0 (wX8 g a i o.2) (some (.long o.1))) (F0 m 55 ls []) := by
  have hx := X.1
  have hb := X.2.1
  intro xs l5 H locs ls h hH hl
  unfold qX8_bySteps_55 at h
  refine lv_iload hx hb dX8_bySteps_55 (lv_at hl 5 rfl) ?_
  refine lv_if_eq (tgt := 67) hx hb dX8_bySteps_57 (by decide) (fun c3 => ?_) (fun c3 => ?_)
  · have h := it_x h c3
    refine lv_aload_n hx hb dX8_bySteps_67 rfl (lv_at hl 0 rfl) ?_
    refine f_get X hH 0 rfl rfl 7 (by decide) inX8 fX8_47 rfl dX8_bySteps_68 ?_
    refine lv_aload_n hx hb dX8_bySteps_71 rfl (lv_at hl 0 rfl) ?_
    refine f_get X hH 0 rfl rfl 0 (by decide) inX8 fX8_10 rfl dX8_bySteps_72 ?_
    refine lv_iload_n hx hb dX8_bySteps_75 rfl (lv_at hl 1 rfl) ?_
    refine lv_iload_n hx hb dX8_bySteps_76 rfl (lv_at hl 3 rfl) ?_
    obtain ⟨o2, ho2, h⟩ := bd_x h
    obtain ⟨xs1, exs1, h⟩ := ltt_x h
    refine r_V X hH (ws1 := (wX8 g a i xs1)) (As := [.ref (a (i + 1)), .int pa, .int pc_]) (rest := []) (st1 := []) (uX6_walk (a := a) (i := (i + 36)) (b := a) (j := (i + 1)) ho2) kX6_walk mX8_244 iX6_walk vX6_walk zX6 okX6_walk ⟨Nat.le_of_ble_eq_true rfl, Nat.le_of_ble_eq_true rfl⟩ rfl rfl (q0 := 36) rfl rfl (pm_2 (bX8_7) (bX8_7_1)) (by rw [exs1]; exact (pm_2 (bX8_7) (bX8_7_1))) rfl hl.1 rfl (Nat.le_of_ble_eq_true rfl) ⟨Nat.le_refl 0, Nat.le_refl 0⟩ rfl dX8_bySteps_77 (fun H locs hH => ?_)
    refine lv_aload_n hx hb dX8_bySteps_80 rfl (lv_at hl 0 rfl) ?_
    refine f_get X hH 0 rfl rfl 7 (by decide) inX8 fX8_47 rfl dX8_bySteps_81 ?_
    refine f_get X hH 36 rfl rfl 0 (by decide) inX6 fX8_247 rfl dX8_bySteps_84 ?_
    refine lv_iload_n hx hb dX8_bySteps_87 rfl (lv_at hl 2 rfl) ?_
    obtain ⟨j1, ej1, hinj1, h⟩ := ga_x h
    refine a_dl X hH 37 rfl hinj1 ej1 dX8_bySteps_88 ?_
    obtain ⟨v1, ev1, h⟩ := ltt_x h
    refine s_d X (lv' := [(6, .double v1), (0, .ref (a i)), (1, .int pa), (2, .int pb), (3, .int pc_), (4, .int pd), (5, .int l5)]) hl ev1 dX8_bySteps_89 (by decide) rfl (fun ls hl => ?_)
    refine lv_iload hx hb dX8_bySteps_91 (lv_at hl 5 rfl) ?_
    refine lv_if_ne (tgt := 104) hx hb dX8_bySteps_93 (by decide) (fun c4 => ?_) (fun c4 => ?_)
    · have h := ie_x h c4
      refine lv_dload hx hb dX8_bySteps_104 (lv_at hl 0 rfl) ?_
      refine lv_ldc2d hx hb X.2.2.2.2.1 (X.2.2.2.2.2.1 _ nX8_255) dX8_bySteps_106 ?_
      obtain ⟨z1, h⟩ := gn_x h
      refine lv_dmul hx hb dX8_bySteps_109 z1 ?_
      refine lv_d2i hx hb dX8_bySteps_110 ?_
      refine lv_i2l hx hb dX8_bySteps_111 rfl ?_
      have h := Option.some.inj h
      subst h
      exact e_l X hH dX8_bySteps_112
    · have h := it_x h c4
      refine lv_dload hx hb dX8_bySteps_96 (lv_at hl 0 rfl) ?_
      obtain ⟨o3, ho3, h⟩ := bd_x h
      refine r_S X hH (ws1 := (wX8 g a i xs1)) (As := [.double v1]) (rest := []) (st1 := [.long o3]) (uX8_bitsOf  ho3) kX8_bitsOf mX8_251 sX8_bitsOf zX8 okX8_bitsOf ⟨Nat.le_of_ble_eq_true rfl, Nat.le_of_ble_eq_true rfl⟩ rfl rfl (pm_none _) (pm_none _) rfl hl.1 rfl (Nat.le_of_ble_eq_true rfl) ⟨Nat.le_refl 0, Nat.le_refl 0⟩ rfl dX8_bySteps_98 (fun H locs hH => ?_)
      refine lv_goto (tgt := 112) hx hb dX8_bySteps_101 (by decide) ?_
      have h := Option.some.inj h
      subst h
      exact e_l X hH dX8_bySteps_112
  · have h := ie_x h c3
    refine lv_aload_n hx hb dX8_bySteps_60 rfl (lv_at hl 0 rfl) ?_
    refine lv_iload hx hb dX8_bySteps_61 (lv_at hl 5 rfl) ?_
    obtain ⟨o4, ho4, h⟩ := bd_x h
    refine r_V X hH (ws1 := (wX8 g a i o4.2)) (As := [.int l5]) (rest := []) (st1 := [.long o4.1]) (uX8_refused (a := a) (i := i) ho4) kX8_refused mX8_167 iX8_refused vX8_refused zX8 okX8_refused ⟨Nat.le_of_ble_eq_true rfl, Nat.le_of_ble_eq_true rfl⟩ rfl rfl (q0 := 0) rfl rfl (pm_all _) (pm_all _) rfl hl.1 rfl (Nat.le_of_ble_eq_true rfl) ⟨Nat.le_refl 0, Nat.le_refl 0⟩ rfl dX8_bySteps_63 (fun H locs hH => ?_)
    have h := Option.some.inj h
    subst h
    exact e_l X hH dX8_bySteps_66
set_option maxHeartbeats 4000000 in
set_option maxRecDepth 100000 in
theorem pX8_bySteps_33 {p : Program} {l : Launch} {e : Env} {s : State} {m : MethodId} {args : Array Value} {below : List Frame} {meth : Method} {c : Code} {g : GG} {w0 : va_W} {a : Nat → Nat} {i : Nat} {pa : Int32} {pb : Int32} {pc_ : Int32} {pd : Int32} {o : (Int64 × SX8)} (X : mX g yX8_bySteps cX8_bySteps 8 (some .long) p s m args meth c w0) :
  ∀ (xs : SX8) (t0 : Int32) (H : Heap) (locs : List Loc) (ls : Array Slot), qX8_bySteps_33 pa pb pc_ pd xs t0 = some o → mH g s w0 (wX8 g a i xs) H locs → lv_has ls 8 [(0, .ref (a i)), (1, .int pa), (2, .int pb), (3, .int pc_), (4, .int pd)] → W p l e (rM 5 113) s m args below meth c H locs 0 0 (mZ g below args s w0 (wX8 g a i o.2) (some (.long o.1))) (F0 m 33 ls [.int t0]) := by
  have hx := X.1
  have hb := X.2.1
  intro xs t0 H locs ls h hH hl
  unfold qX8_bySteps_33 at h
  refine s_i X (lv' := [(5, .int t0), (0, .ref (a i)), (1, .int pa), (2, .int pb), (3, .int pc_), (4, .int pd)]) hl rfl dX8_bySteps_33 (by decide) rfl (fun ls hl => ?_)
  refine lv_iload hx hb dX8_bySteps_35 (lv_at hl 0 rfl) ?_
  refine lv_if_ne (tgt := 55) hx hb dX8_bySteps_37 (by decide) (fun c2 => ?_) (fun c2 => ?_)
  · have h := ie_x h c2
    exact pX8_bySteps_55 X  xs t0 H locs ls h hH (lv_sub hl [1, 2, 3, 4, 5, 0] rfl)
  · have h := it_x h c2
    refine lv_iload hx hb dX8_bySteps_40 (lv_at hl 5 rfl) ?_
    refine lv_if_eq (tgt := 55) hx hb dX8_bySteps_42 (by decide) (fun c5 => ?_) (fun c5 => ?_)
    · have h := it_x h c5
      exact pX8_bySteps_55 X  xs t0 H locs ls h hH (lv_sub hl [1, 2, 3, 4, 5, 0] rfl)
    · have h := ie_x h c5
      refine lv_iload hx hb dX8_bySteps_45 (lv_at hl 5 rfl) ?_
      refine lv_iconst (v := (1 : Int32)) hx hb dX8_bySteps_47 (by decide) ?_
      refine lv_icmp_eq (tgt := 55) hx hb dX8_bySteps_48 (by decide) (fun c6 => ?_) (fun c6 => ?_)
      · have h := it_x h c6
        exact pX8_bySteps_55 X  xs t0 H locs ls h hH (lv_sub hl [1, 2, 3, 4, 5, 0] rfl)
      · have h := ie_x h c6
        refine lv_bipush (v := (-2 : Int32)) hx hb dX8_bySteps_51 (by decide) ?_
        refine s_i X (lv' := [(5, .int (-2 : Int32)), (0, .ref (a i)), (1, .int pa), (2, .int pb), (3, .int pc_), (4, .int pd)]) hl rfl dX8_bySteps_53 (by decide) rfl (fun ls hl => ?_)
        exact pX8_bySteps_55 X  xs (-2 : Int32) H locs ls h hH (lv_sub hl [1, 2, 3, 4, 5, 0] rfl)
set_option maxHeartbeats 4000000 in
set_option maxRecDepth 100000 in
theorem uX8_bySteps {l : Launch} {g : GG} {a : Nat → Nat} {i : Nat} {xs : SX8} {pa : Int32} {pb : Int32} {pc_ : Int32} {pd : Int32} {o : (Int64 × SX8)} (h : fX8_bySteps xs pa pb pc_ pd = some o) : mC l g yX8_bySteps cX8_bySteps 8 (some .long) (rM 5 113) [.ref (a i), .int pa, .int pb, .int pc_, .int pd] (wX8 g a i xs) (wX8 g a i o.2) (some (.long o.1)) := by
  refine mC.ofW (by decide) (fun p e s m below meth c X hH ls _ hl => ?_) (Nat.le_of_ble_eq_true rfl)
  have hx := X.1
  have hb := X.2.1
  have hl : lv_has ls 8 [(0, .ref (a i)), (1, .int pa), (2, .int pb), (3, .int pc_), (4, .int pd)] := hl
  unfold fX8_bySteps at h
  suffices HH : ∀ (H : Heap) (locs : List Loc), mH g s (wX8 g a i xs) (wX8 g a i xs) H locs → W p l e (rM 5 113) s m _ below meth c H locs 0 0 (mZ g below _ s (wX8 g a i xs) (wX8 g a i o.2) (some (.long o.1))) (F0 m 0 ls []) from HH _ _ hH
  clear hH
  intro H locs hH
  refine lv_aload_n hx hb dX8_bySteps_0 rfl (lv_at hl 0 rfl) ?_
  refine f_get X hH 0 rfl rfl 0 (by decide) inX8 fX8_10 rfl dX8_bySteps_1 ?_
  refine lv_iload_n hx hb dX8_bySteps_4 rfl (lv_at hl 1 rfl) ?_
  obtain ⟨o1, ho1, h⟩ := bd_x h
  refine r_V X hH (ws1 := (wX8 g a i xs)) (As := [.int pa]) (rest := []) (st1 := [.int o1]) (uX3_isPoint (a := a) (i := (i + 1)) ho1) kX3_isPoint mX8_154 iX3_isPoint vX3_isPoint zX3 okX3_isPoint ⟨Nat.le_of_ble_eq_true rfl, Nat.le_of_ble_eq_true rfl⟩ rfl rfl (q0 := 1) rfl rfl (bX8_1) (bX8_1) rfl hl.1 rfl (Nat.le_of_ble_eq_true rfl) ⟨Nat.le_refl 0, Nat.le_refl 0⟩ rfl dX8_bySteps_5 (fun H locs hH => ?_)
  refine lv_if_eq (tgt := 22) hx hb dX8_bySteps_8 (by decide) (fun c1 => ?_) (fun c1 => ?_)
  · have h := it_x h c1
    exact pX8_bySteps_22 X (pX8_bySteps_33 X ) xs H locs ls h hH (lv_sub hl [0, 1, 2, 3, 4] rfl)
  · have h := ie_x h c1
    refine lv_aload_n hx hb dX8_bySteps_11 rfl (lv_at hl 0 rfl) ?_
    refine f_get X hH 0 rfl rfl 0 (by decide) inX8 fX8_10 rfl dX8_bySteps_12 ?_
    refine lv_iload_n hx hb dX8_bySteps_15 rfl (lv_at hl 2 rfl) ?_
    obtain ⟨o5, ho5, h⟩ := bd_x h
    refine r_V X hH (ws1 := (wX8 g a i xs)) (As := [.int pb]) (rest := []) (st1 := [.int o5]) (uX3_isPoint (a := a) (i := (i + 1)) ho5) kX3_isPoint mX8_154 iX3_isPoint vX3_isPoint zX3 okX3_isPoint ⟨Nat.le_of_ble_eq_true rfl, Nat.le_of_ble_eq_true rfl⟩ rfl rfl (q0 := 1) rfl rfl (bX8_1) (bX8_1) rfl hl.1 rfl (Nat.le_of_ble_eq_true rfl) ⟨Nat.le_refl 0, Nat.le_refl 0⟩ rfl dX8_bySteps_16 (fun H locs hH => ?_)
    refine lv_if_ne (tgt := 26) hx hb dX8_bySteps_19 (by decide) (fun c7 => ?_) (fun c7 => ?_)
    · have h := ie_x h c7
      refine lv_iload_n hx hb dX8_bySteps_26 rfl (lv_at hl 3 rfl) ?_
      refine lv_iconst (v := (0 : Int32)) hx hb dX8_bySteps_27 (by decide) ?_
      refine lv_bipush (v := (30 : Int32)) hx hb dX8_bySteps_28 (by decide) ?_
      obtain ⟨o6, ho6, h⟩ := bd_x h
      refine r_S X hH (ws1 := (wX8 g a i xs)) (As := [.int pc_, .int (0 : Int32), .int (30 : Int32)]) (rest := []) (st1 := [.int o6]) (uX8_refusalOfNumber  ho6) kX8_refusalOfNumber mX8_241 sX8_refusalOfNumber zX8 okX8_refusalOfNumber ⟨Nat.le_of_ble_eq_true rfl, Nat.le_of_ble_eq_true rfl⟩ rfl rfl (pm_none _) (pm_none _) rfl hl.1 rfl (Nat.le_of_ble_eq_true rfl) ⟨Nat.le_refl 0, Nat.le_refl 0⟩ rfl dX8_bySteps_30 (fun H locs hH => ?_)
      exact pX8_bySteps_33 X  xs o6 H locs ls h hH (lv_sub hl [0, 1, 2, 3, 4] rfl)
    · have h := it_x h c7
      exact pX8_bySteps_22 X (pX8_bySteps_33 X ) xs H locs ls h hH (lv_sub hl [0, 1, 2, 3, 4] rfl)

def qX8_lots_112 (pa : Int32) (pb : Int32) (pc_ : Int32) (pd : Int32) (pe : Int32) (k76 : SX8 → Int32 → Int32 → Int32 → Option (Int32 × SX8)) (xs : SX8) (l7 : Int32) (l8 : Int32) (l9 : Int32) : Option (Int32 × SX8) :=
  ltt (l9 + (1 : Int32)) fun v1 =>
  k76 xs l7 l8 v1
def qX8_lots_76 (pa : Int32) (pb : Int32) (pc_ : Int32) (pd : Int32) (pe : Int32)  : Nat → SX8 → Int32 → Int32 → Int32 → Option (Int32 × SX8)
  | 0, _, _, _, _ => none
  | fu + 1, xs, l7, l8, l9 =>
  (if pc_ ≤ l9 then
  (if pe = (0 : Int32) then
  some (l7, xs)
  else
  some (l8, xs))
  else
  (fX2_walk (w_lot xs) (w_net xs) pa pb).bind fun o4 =>
  ltt ((w_lot_s xs o4.2)) fun xs2 =>
  (if o4.1 < (0 : Int32) then
  qX8_lots_112 pa pb pc_ pd pe (qX8_lots_76 pa pb pc_ pd pe  fu) xs2 l7 l8 l9
  else
  ltt (l7 + (1 : Int32)) fun v2 =>
  ltt ((l8 + o4.1)) fun v3 =>
  qX8_lots_112 pa pb pc_ pd pe (qX8_lots_76 pa pb pc_ pd pe  fu) xs2 v2 v3 l9))
def qX8_lots_42 (pa : Int32) (pb : Int32) (pc_ : Int32) (pd : Int32) (pe : Int32)  (xs : SX8) (l6 : Int32) : Option (Int32 × SX8) :=
  (if l6 = (0 : Int32) then
  (fX2_begin (w_lot xs) (w_net xs) pd).bind fun o3 =>
  ltt ((w_lot_s xs o3)) fun xs1 =>
  qX8_lots_76 pa pb pc_ pd pe FU xs1 (0 : Int32) (0 : Int32) (0 : Int32)
  else
  (fX8_counted xs l6).bind fun o5 =>
  some (o5.1, o5.2))
def qX8_lots_20 (pa : Int32) (pb : Int32) (pc_ : Int32) (pd : Int32) (pe : Int32)  (xs : SX8) (t0 : Int32) : Option (Int32 × SX8) :=
  (if t0 = (0 : Int32) then
  (if pe = (0 : Int32) then
  qX8_lots_42 pa pb pc_ pd pe xs t0
  else
  (if pe = (1 : Int32) then
  qX8_lots_42 pa pb pc_ pd pe xs t0
  else
  qX8_lots_42 pa pb pc_ pd pe xs (-2 : Int32)))
  else
  qX8_lots_42 pa pb pc_ pd pe xs t0)
def fX8_lots (xs : SX8) (pa : Int32) (pb : Int32) (pc_ : Int32) (pd : Int32) (pe : Int32) : Option (Int32 × SX8) :=
  (fX8_areTwoPoints xs pa pb).bind fun o1 =>
  (if o1 = (0 : Int32) then
  qX8_lots_20 pa pb pc_ pd pe xs (-1 : Int32)
  else
  (fX8_refusalOfNumber pc_ (1 : Int32) (30 : Int32)).bind fun o2 =>
  qX8_lots_20 pa pb pc_ pd pe xs o2)
set_option maxHeartbeats 4000000 in
set_option maxRecDepth 100000 in
theorem pX8_lots_112 {p : Program} {l : Launch} {e : Env} {s : State} {m : MethodId} {args : Array Value} {below : List Frame} {meth : Method} {c : Code} {g : GG} {w0 : va_W} {a : Nat → Nat} {i : Nat} {pa : Int32} {pb : Int32} {pc_ : Int32} {pd : Int32} {pe : Int32} {o : (Int32 × SX8)} (X : mX g yX8_lots cX8_lots 11 (some .int) p s m args meth c w0)
  {k76 : SX8 → Int32 → Int32 → Int32 → Option (Int32 × SX8)} (K76 : ∀ (xs : SX8) (l7 : Int32) (l8 : Int32) (l9 : Int32) (H : Heap) (locs : List Loc) (ls : Array Slot), k76 xs l7 l8 l9 = some o → mH g s w0 (wX8 g a i xs) H locs → lv_has ls 11 [(0, .ref (a i)), (1, .int pa), (2, .int pb), (3, .int pc_), (4, .int pd), (5, .int pe), (7, .int l7), (8, .int l8), (9, .int l9)] → W p l e (rM 5 110) s m args below meth c H locs 0 0 (mZ g below args s w0 (wX8 g a i o.2) (some (.int o.1))) (F0 m 76 ls [])) :
  ∀ (xs : SX8) (l7 : Int32) (l8 : Int32) (l9 : Int32) (H : Heap) (locs : List Loc) (ls : Array Slot), qX8_lots_112 pa pb pc_ pd pe k76 xs l7 l8 l9 = some o → mH g s w0 (wX8 g a i xs) H locs → lv_has ls 11 [(0, .ref (a i)), (1, .int pa), (2, .int pb), (3, .int pc_), (4, .int pd), (5, .int pe), (7, .int l7), (8, .int l8), (9, .int l9)] → W p l e (rM 5 110) s m args below meth c H locs 0 0 (mZ g below args s w0 (wX8 g a i o.2) (some (.int o.1))) (F0 m 112 ls []) := by
  have hx := X.1
  have hb := X.2.1
  intro xs l7 l8 l9 H locs ls h hH hl
  unfold qX8_lots_112 at h
  obtain ⟨v1, ev1, h⟩ := ltt_x h
  refine s_inc X (k := 8) (lv' := [(9, .int v1), (0, .ref (a i)), (1, .int pa), (2, .int pb), (3, .int pc_), (4, .int pd), (5, .int pe), (7, .int l7), (8, .int l8)]) hl rfl (by rw [ev1]; rfl) dX8_lots_112 (by decide) rfl (fun ls hl => ?_)
  refine lv_goto (tgt := 76) hx hb dX8_lots_115 (by decide) ?_
  exact K76 xs l7 l8 v1 H locs ls h hH (lv_sub hl [1, 2, 3, 4, 5, 6, 7, 8, 0] rfl)
set_option maxHeartbeats 4000000 in
set_option maxRecDepth 100000 in
theorem pX8_lots_76 {p : Program} {l : Launch} {e : Env} {s : State} {m : MethodId} {args : Array Value} {below : List Frame} {meth : Method} {c : Code} {g : GG} {w0 : va_W} {a : Nat → Nat} {i : Nat} {pa : Int32} {pb : Int32} {pc_ : Int32} {pd : Int32} {pe : Int32} {o : (Int32 × SX8)} (X : mX g yX8_lots cX8_lots 11 (some .int) p s m args meth c w0) :
  ∀ (fu : Nat) (xs : SX8) (l7 : Int32) (l8 : Int32) (l9 : Int32) (H : Heap) (locs : List Loc) (ls : Array Slot), qX8_lots_76 pa pb pc_ pd pe fu xs l7 l8 l9 = some o → mH g s w0 (wX8 g a i xs) H locs → lv_has ls 11 [(0, .ref (a i)), (1, .int pa), (2, .int pb), (3, .int pc_), (4, .int pd), (5, .int pe), (7, .int l7), (8, .int l8), (9, .int l9)] → W p l e (rM 5 110) s m args below meth c H locs 0 0 (mZ g below args s w0 (wX8 g a i o.2) (some (.int o.1))) (F0 m 76 ls []) := by
  have hx := X.1
  have hb := X.2.1
  intro fu
  induction fu with
  | zero =>
    intro xs l7 l8 l9 H locs ls h
    unfold qX8_lots_76 at h
    cases h
  | succ fu ih =>
    intro xs l7 l8 l9 H locs ls h hH hl
    unfold qX8_lots_76 at h
    refine lv_iload hx hb dX8_lots_76 (lv_at hl 8 rfl) ?_
    refine lv_iload_n hx hb dX8_lots_78 rfl (lv_at hl 3 rfl) ?_
    refine lv_icmp_ge (tgt := 118) hx hb dX8_lots_79 (by decide) (fun c4 => ?_) (fun c4 => ?_)
    · have h := it_x h c4
      refine lv_iload hx hb dX8_lots_118 (lv_at hl 5 rfl) ?_
      refine lv_if_ne (tgt := 128) hx hb dX8_lots_120 (by decide) (fun c5 => ?_) (fun c5 => ?_)
      · have h := ie_x h c5
        refine lv_iload hx hb dX8_lots_128 (lv_at hl 7 rfl) ?_
        have h := Option.some.inj h
        subst h
        exact e_i X hH dX8_lots_130
      · have h := it_x h c5
        refine lv_iload hx hb dX8_lots_123 (lv_at hl 6 rfl) ?_
        refine lv_goto (tgt := 130) hx hb dX8_lots_125 (by decide) ?_
        have h := Option.some.inj h
        subst h
        exact e_i X hH dX8_lots_130
    · have h := ie_x h c4
      refine lv_aload_n hx hb dX8_lots_82 rfl (lv_at hl 0 rfl) ?_
      refine f_get X hH 0 rfl rfl 8 (by decide) inX8 fX8_54 rfl dX8_lots_83 ?_
      refine lv_aload_n hx hb dX8_lots_86 rfl (lv_at hl 0 rfl) ?_
      refine f_get X hH 0 rfl rfl 0 (by decide) inX8 fX8_10 rfl dX8_lots_87 ?_
      refine lv_iload_n hx hb dX8_lots_90 rfl (lv_at hl 1 rfl) ?_
      refine lv_iload_n hx hb dX8_lots_91 rfl (lv_at hl 2 rfl) ?_
      obtain ⟨o4, ho4, h⟩ := bd_x h
      obtain ⟨xs2, exs2, h⟩ := ltt_x h
      refine r_V X hH (ws1 := (wX8 g a i xs2)) (As := [.ref (a (i + 1)), .int pa, .int pb]) (rest := []) (st1 := [.int o4.1]) (uX2_walk (a := a) (i := (i + 40)) (b := a) (j := (i + 1)) ho4) kX2_walk mX8_261 iX2_walk vX2_walk zX2 okX2_walk ⟨Nat.le_of_ble_eq_true rfl, Nat.le_of_ble_eq_true rfl⟩ rfl rfl (q0 := 40) rfl rfl (pm_2 (bX8_8) (bX8_8_1)) (by rw [exs2]; exact (pm_2 (bX8_8) (bX8_8_1))) rfl hl.1 rfl (Nat.le_of_ble_eq_true rfl) ⟨Nat.le_refl 0, Nat.le_refl 0⟩ rfl dX8_lots_92 (fun H locs hH => ?_)
      refine s_i X (lv' := [(10, .int o4.1), (0, .ref (a i)), (1, .int pa), (2, .int pb), (3, .int pc_), (4, .int pd), (5, .int pe), (7, .int l7), (8, .int l8), (9, .int l9)]) hl rfl dX8_lots_95 (by decide) rfl (fun ls hl => ?_)
      refine lv_iload hx hb dX8_lots_97 (lv_at hl 0 rfl) ?_
      refine lv_if_lt (tgt := 112) hx hb dX8_lots_99 (by decide) (fun c6 => ?_) (fun c6 => ?_)
      · have h := it_x h c6
        exact pX8_lots_112 X ih xs2 l7 l8 l9 H locs ls h hH (lv_sub hl [1, 2, 3, 4, 5, 6, 7, 8, 9] rfl)
      · have h := ie_x h c6
        obtain ⟨v2, ev2, h⟩ := ltt_x h
        refine s_inc X (k := 7) (lv' := [(7, .int v2), (10, .int o4.1), (0, .ref (a i)), (1, .int pa), (2, .int pb), (3, .int pc_), (4, .int pd), (5, .int pe), (8, .int l8), (9, .int l9)]) hl rfl (by rw [ev2]; rfl) dX8_lots_102 (by decide) rfl (fun ls hl => ?_)
        refine lv_iload hx hb dX8_lots_105 (lv_at hl 8 rfl) ?_
        refine lv_iload hx hb dX8_lots_107 (lv_at hl 1 rfl) ?_
        refine lv_iadd hx hb dX8_lots_109 ?_
        obtain ⟨v3, ev3, h⟩ := ltt_x h
        refine s_i X (lv' := [(8, .int v3), (7, .int v2), (10, .int o4.1), (0, .ref (a i)), (1, .int pa), (2, .int pb), (3, .int pc_), (4, .int pd), (5, .int pe), (9, .int l9)]) hl ev3 dX8_lots_110 (by decide) rfl (fun ls hl => ?_)
        exact pX8_lots_112 X ih xs2 v2 v3 l9 H locs ls h hH (lv_sub hl [3, 4, 5, 6, 7, 8, 1, 0, 9] rfl)
set_option maxHeartbeats 4000000 in
set_option maxRecDepth 100000 in
theorem pX8_lots_42 {p : Program} {l : Launch} {e : Env} {s : State} {m : MethodId} {args : Array Value} {below : List Frame} {meth : Method} {c : Code} {g : GG} {w0 : va_W} {a : Nat → Nat} {i : Nat} {pa : Int32} {pb : Int32} {pc_ : Int32} {pd : Int32} {pe : Int32} {o : (Int32 × SX8)} (X : mX g yX8_lots cX8_lots 11 (some .int) p s m args meth c w0) :
  ∀ (xs : SX8) (l6 : Int32) (H : Heap) (locs : List Loc) (ls : Array Slot), qX8_lots_42 pa pb pc_ pd pe xs l6 = some o → mH g s w0 (wX8 g a i xs) H locs → lv_has ls 11 [(0, .ref (a i)), (1, .int pa), (2, .int pb), (3, .int pc_), (4, .int pd), (5, .int pe), (6, .int l6)] → W p l e (rM 5 110) s m args below meth c H locs 0 0 (mZ g below args s w0 (wX8 g a i o.2) (some (.int o.1))) (F0 m 42 ls []) := by
  have hx := X.1
  have hb := X.2.1
  intro xs l6 H locs ls h hH hl
  unfold qX8_lots_42 at h
  refine lv_iload hx hb dX8_lots_42 (lv_at hl 6 rfl) ?_
  refine lv_if_eq (tgt := 54) hx hb dX8_lots_44 (by decide) (fun c3 => ?_) (fun c3 => ?_)
  · have h := it_x h c3
    refine lv_aload_n hx hb dX8_lots_54 rfl (lv_at hl 0 rfl) ?_
    refine f_get X hH 0 rfl rfl 8 (by decide) inX8 fX8_54 rfl dX8_lots_55 ?_
    refine lv_aload_n hx hb dX8_lots_58 rfl (lv_at hl 0 rfl) ?_
    refine f_get X hH 0 rfl rfl 0 (by decide) inX8 fX8_10 rfl dX8_lots_59 ?_
    refine lv_iload hx hb dX8_lots_62 (lv_at hl 4 rfl) ?_
    obtain ⟨o3, ho3, h⟩ := bd_x h
    obtain ⟨xs1, exs1, h⟩ := ltt_x h
    refine r_V X hH (ws1 := (wX8 g a i xs1)) (As := [.ref (a (i + 1)), .int pd]) (rest := []) (st1 := []) (uX2_begin (a := a) (i := (i + 40)) (b := a) (j := (i + 1)) ho3) kX2_begin mX8_257 iX2_begin vX2_begin zX2 okX2_begin ⟨Nat.le_of_ble_eq_true rfl, Nat.le_of_ble_eq_true rfl⟩ rfl rfl (q0 := 40) rfl rfl (pm_2 (bX8_8) (bX8_8_1)) (by rw [exs1]; exact (pm_2 (bX8_8) (bX8_8_1))) rfl hl.1 rfl (Nat.le_of_ble_eq_true rfl) ⟨Nat.le_refl 0, Nat.le_refl 0⟩ rfl dX8_lots_64 (fun H locs hH => ?_)
    refine lv_iconst (v := (0 : Int32)) hx hb dX8_lots_67 (by decide) ?_
    refine s_i X (lv' := [(7, .int (0 : Int32)), (0, .ref (a i)), (1, .int pa), (2, .int pb), (3, .int pc_), (4, .int pd), (5, .int pe), (6, .int l6)]) hl rfl dX8_lots_68 (by decide) rfl (fun ls hl => ?_)
    refine lv_iconst (v := (0 : Int32)) hx hb dX8_lots_70 (by decide) ?_
    refine s_i X (lv' := [(8, .int (0 : Int32)), (7, .int (0 : Int32)), (0, .ref (a i)), (1, .int pa), (2, .int pb), (3, .int pc_), (4, .int pd), (5, .int pe), (6, .int l6)]) hl rfl dX8_lots_71 (by decide) rfl (fun ls hl => ?_)
    refine lv_iconst (v := (0 : Int32)) hx hb dX8_lots_73 (by decide) ?_
    refine s_i X (lv' := [(9, .int (0 : Int32)), (8, .int (0 : Int32)), (7, .int (0 : Int32)), (0, .ref (a i)), (1, .int pa), (2, .int pb), (3, .int pc_), (4, .int pd), (5, .int pe), (6, .int l6)]) hl rfl dX8_lots_74 (by decide) rfl (fun ls hl => ?_)
    exact pX8_lots_76 X FU xs1 (0 : Int32) (0 : Int32) (0 : Int32) H locs ls h hH (lv_sub hl [3, 4, 5, 6, 7, 8, 2, 1, 0] rfl)
  · have h := ie_x h c3
    refine lv_aload_n hx hb dX8_lots_47 rfl (lv_at hl 0 rfl) ?_
    refine lv_iload hx hb dX8_lots_48 (lv_at hl 6 rfl) ?_
    obtain ⟨o5, ho5, h⟩ := bd_x h
    refine r_V X hH (ws1 := (wX8 g a i o5.2)) (As := [.int l6]) (rest := []) (st1 := [.int o5.1]) (uX8_counted (a := a) (i := i) ho5) kX8_counted mX8_94 iX8_counted vX8_counted zX8 okX8_counted ⟨Nat.le_of_ble_eq_true rfl, Nat.le_of_ble_eq_true rfl⟩ rfl rfl (q0 := 0) rfl rfl (pm_all _) (pm_all _) rfl hl.1 rfl (Nat.le_of_ble_eq_true rfl) ⟨Nat.le_refl 0, Nat.le_refl 0⟩ rfl dX8_lots_50 (fun H locs hH => ?_)
    have h := Option.some.inj h
    subst h
    exact e_i X hH dX8_lots_53
set_option maxHeartbeats 4000000 in
set_option maxRecDepth 100000 in
theorem pX8_lots_20 {p : Program} {l : Launch} {e : Env} {s : State} {m : MethodId} {args : Array Value} {below : List Frame} {meth : Method} {c : Code} {g : GG} {w0 : va_W} {a : Nat → Nat} {i : Nat} {pa : Int32} {pb : Int32} {pc_ : Int32} {pd : Int32} {pe : Int32} {o : (Int32 × SX8)} (X : mX g yX8_lots cX8_lots 11 (some .int) p s m args meth c w0) :
  ∀ (xs : SX8) (t0 : Int32) (H : Heap) (locs : List Loc) (ls : Array Slot), qX8_lots_20 pa pb pc_ pd pe xs t0 = some o → mH g s w0 (wX8 g a i xs) H locs → lv_has ls 11 [(0, .ref (a i)), (1, .int pa), (2, .int pb), (3, .int pc_), (4, .int pd), (5, .int pe)] → W p l e (rM 5 110) s m args below meth c H locs 0 0 (mZ g below args s w0 (wX8 g a i o.2) (some (.int o.1))) (F0 m 20 ls [.int t0]) := by
  have hx := X.1
  have hb := X.2.1
  intro xs t0 H locs ls h hH hl
  unfold qX8_lots_20 at h
  refine s_i X (lv' := [(6, .int t0), (0, .ref (a i)), (1, .int pa), (2, .int pb), (3, .int pc_), (4, .int pd), (5, .int pe)]) hl rfl dX8_lots_20 (by decide) rfl (fun ls hl => ?_)
  refine lv_iload hx hb dX8_lots_22 (lv_at hl 0 rfl) ?_
  refine lv_if_ne (tgt := 42) hx hb dX8_lots_24 (by decide) (fun c2 => ?_) (fun c2 => ?_)
  · have h := ie_x h c2
    exact pX8_lots_42 X  xs t0 H locs ls h hH (lv_sub hl [1, 2, 3, 4, 5, 6, 0] rfl)
  · have h := it_x h c2
    refine lv_iload hx hb dX8_lots_27 (lv_at hl 6 rfl) ?_
    refine lv_if_eq (tgt := 42) hx hb dX8_lots_29 (by decide) (fun c7 => ?_) (fun c7 => ?_)
    · have h := it_x h c7
      exact pX8_lots_42 X  xs t0 H locs ls h hH (lv_sub hl [1, 2, 3, 4, 5, 6, 0] rfl)
    · have h := ie_x h c7
      refine lv_iload hx hb dX8_lots_32 (lv_at hl 6 rfl) ?_
      refine lv_iconst (v := (1 : Int32)) hx hb dX8_lots_34 (by decide) ?_
      refine lv_icmp_eq (tgt := 42) hx hb dX8_lots_35 (by decide) (fun c8 => ?_) (fun c8 => ?_)
      · have h := it_x h c8
        exact pX8_lots_42 X  xs t0 H locs ls h hH (lv_sub hl [1, 2, 3, 4, 5, 6, 0] rfl)
      · have h := ie_x h c8
        refine lv_bipush (v := (-2 : Int32)) hx hb dX8_lots_38 (by decide) ?_
        refine s_i X (lv' := [(6, .int (-2 : Int32)), (0, .ref (a i)), (1, .int pa), (2, .int pb), (3, .int pc_), (4, .int pd), (5, .int pe)]) hl rfl dX8_lots_40 (by decide) rfl (fun ls hl => ?_)
        exact pX8_lots_42 X  xs (-2 : Int32) H locs ls h hH (lv_sub hl [1, 2, 3, 4, 5, 6, 0] rfl)
set_option maxHeartbeats 4000000 in
set_option maxRecDepth 100000 in
theorem uX8_lots {l : Launch} {g : GG} {a : Nat → Nat} {i : Nat} {xs : SX8} {pa : Int32} {pb : Int32} {pc_ : Int32} {pd : Int32} {pe : Int32} {o : (Int32 × SX8)} (h : fX8_lots xs pa pb pc_ pd pe = some o) : mC l g yX8_lots cX8_lots 11 (some .int) (rM 5 110) [.ref (a i), .int pa, .int pb, .int pc_, .int pd, .int pe] (wX8 g a i xs) (wX8 g a i o.2) (some (.int o.1)) := by
  refine mC.ofW (by decide) (fun p e s m below meth c X hH ls _ hl => ?_) (Nat.le_of_ble_eq_true rfl)
  have hx := X.1
  have hb := X.2.1
  have hl : lv_has ls 11 [(0, .ref (a i)), (1, .int pa), (2, .int pb), (3, .int pc_), (4, .int pd), (5, .int pe)] := hl
  unfold fX8_lots at h
  suffices HH : ∀ (H : Heap) (locs : List Loc), mH g s (wX8 g a i xs) (wX8 g a i xs) H locs → W p l e (rM 5 110) s m _ below meth c H locs 0 0 (mZ g below _ s (wX8 g a i xs) (wX8 g a i o.2) (some (.int o.1))) (F0 m 0 ls []) from HH _ _ hH
  clear hH
  intro H locs hH
  refine lv_aload_n hx hb dX8_lots_0 rfl (lv_at hl 0 rfl) ?_
  refine lv_iload_n hx hb dX8_lots_1 rfl (lv_at hl 1 rfl) ?_
  refine lv_iload_n hx hb dX8_lots_2 rfl (lv_at hl 2 rfl) ?_
  obtain ⟨o1, ho1, h⟩ := bd_x h
  refine r_V X hH (ws1 := (wX8 g a i xs)) (As := [.int pa, .int pb]) (rest := []) (st1 := [.int o1]) (uX8_areTwoPoints (a := a) (i := i) ho1) kX8_areTwoPoints mX8_210 iX8_areTwoPoints vX8_areTwoPoints zX8 okX8_areTwoPoints ⟨Nat.le_of_ble_eq_true rfl, Nat.le_of_ble_eq_true rfl⟩ rfl rfl (q0 := 0) rfl rfl (pm_all _) (pm_all _) rfl hl.1 rfl (Nat.le_of_ble_eq_true rfl) ⟨Nat.le_refl 0, Nat.le_refl 0⟩ rfl dX8_lots_3 (fun H locs hH => ?_)
  refine lv_if_ne (tgt := 13) hx hb dX8_lots_6 (by decide) (fun c1 => ?_) (fun c1 => ?_)
  · have h := ie_x h c1
    refine lv_iload_n hx hb dX8_lots_13 rfl (lv_at hl 3 rfl) ?_
    refine lv_iconst (v := (1 : Int32)) hx hb dX8_lots_14 (by decide) ?_
    refine lv_bipush (v := (30 : Int32)) hx hb dX8_lots_15 (by decide) ?_
    obtain ⟨o2, ho2, h⟩ := bd_x h
    refine r_S X hH (ws1 := (wX8 g a i xs)) (As := [.int pc_, .int (1 : Int32), .int (30 : Int32)]) (rest := []) (st1 := [.int o2]) (uX8_refusalOfNumber  ho2) kX8_refusalOfNumber mX8_241 sX8_refusalOfNumber zX8 okX8_refusalOfNumber ⟨Nat.le_of_ble_eq_true rfl, Nat.le_of_ble_eq_true rfl⟩ rfl rfl (pm_none _) (pm_none _) rfl hl.1 rfl (Nat.le_of_ble_eq_true rfl) ⟨Nat.le_refl 0, Nat.le_refl 0⟩ rfl dX8_lots_17 (fun H locs hH => ?_)
    exact pX8_lots_20 X  xs o2 H locs ls h hH (lv_sub hl [0, 1, 2, 3, 4, 5] rfl)
  · have h := it_x h c1
    refine lv_iconst (v := (-1 : Int32)) hx hb dX8_lots_9 (by decide) ?_
    refine lv_goto (tgt := 20) hx hb dX8_lots_10 (by decide) ?_
    exact pX8_lots_20 X  xs (-1 : Int32) H locs ls h hH (lv_sub hl [0, 1, 2, 3, 4, 5] rfl)
