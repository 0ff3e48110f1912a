def qX9_farthest_76 (pa : Int32) (k26 : SX9 → Int32 → Int64 → Int32 → Option (Int32 × SX9)) (xs : SX9) (l2 : Int32) (l3 : Int64) (l5 : Int32) : Option (Int32 × SX9) :=
  ltt (l5 + (1 : Int32)) fun v1 =>
  k26 xs l2 l3 v1
def qX9_farthest_68 (pa : Int32) (k76 : SX9 → Int32 → Int64 → Int32 → Option (Int32 × SX9)) (xs : SX9) (l5 : Int32) : Option (Int32 × SX9) :=
  ltt ((m_up xs)) fun v2 =>
  k76 xs l5 v2 l5
def qX9_farthest_26 (pa : Int32)  : Nat → SX9 → Int32 → Int64 → Int32 → Option (Int32 × SX9)
  | 0, _, _, _, _ => none
  | fu + 1, xs, l2, l3, l5 =>
  (if (m_points xs) ≤ l5 then
  some (l2, xs)
  else
  (if l5 = pa then
  qX9_farthest_76 pa (qX9_farthest_26 pa  fu) xs l2 l3 l5
  else
  (fX9_findTime xs pa l5 (0 : Int32)).bind fun o3 =>
  (if o3.1 = (0 : Int32) then
  qX9_farthest_76 pa (qX9_farthest_26 pa  fu) o3.2 l2 l3 l5
  else
  (if l2 < (0 : Int32) then
  qX9_farthest_68 pa (qX9_farthest_76 pa (qX9_farthest_26 pa  fu)) o3.2 l5
  else
  (if l3 < (m_up o3.2) then
  qX9_farthest_68 pa (qX9_farthest_76 pa (qX9_farthest_26 pa  fu)) o3.2 l5
  else
  qX9_farthest_76 pa (qX9_farthest_26 pa  fu) o3.2 l2 l3 l5)))))
def fX9_farthest (xs : SX9) (pa : Int32) : Option (Int32 × SX9) :=
  (fX9_isPoint xs pa).bind fun o1 =>
  (if o1 = (0 : Int32) then
  (fX9_no xs (-1 : Int32)).bind fun o4 =>
  some (o4.1, o4.2)
  else
  (fX9_allThere xs).bind fun o2 =>
  qX9_farthest_26 pa FU o2 (-9 : Int32) (0 : Int64) (0 : Int32))
set_option maxHeartbeats 4000000 in
set_option maxRecDepth 100000 in
theorem pX9_farthest_76 {p : Program} {l : Launch} {e : Env} {s : State} {m : MethodId} {args : Array Value} {below : List Frame} {meth : Method} {c : Code} {g : GG} {w0 : va_W} {a : Nat → Nat} {i : Nat} {pa : Int32} {o : (Int32 × SX9)} (X : mX g yX9_farthest cX9_farthest 6 (some .int) p s m args meth c w0)
  {k26 : SX9 → Int32 → Int64 → Int32 → Option (Int32 × SX9)} (K26 : ∀ (xs : SX9) (l2 : Int32) (l3 : Int64) (l5 : Int32) (H : Heap) (locs : List Loc) (ls : Array Slot), k26 xs l2 l3 l5 = some o → mH g s w0 (wX9 g a i xs) H locs → lv_has ls 6 [(0, .ref (a i)), (1, .int pa), (2, .int l2), (3, .long l3), (5, .int l5)] → W p l e (rM 5 117) s m args below meth c H locs 0 0 (mZ g below args s w0 (wX9 g a i o.2) (some (.int o.1))) (F0 m 26 ls [])) :
  ∀ (xs : SX9) (l2 : Int32) (l3 : Int64) (l5 : Int32) (H : Heap) (locs : List Loc) (ls : Array Slot), qX9_farthest_76 pa k26 xs l2 l3 l5 = some o → mH g s w0 (wX9 g a i xs) H locs → lv_has ls 6 [(0, .ref (a i)), (1, .int pa), (2, .int l2), (3, .long l3), (5, .int l5)] → W p l e (rM 5 117) s m args below meth c H locs 0 0 (mZ g below args s w0 (wX9 g a i o.2) (some (.int o.1))) (F0 m 76 ls []) := by
  have hx := X.1
  have hb := X.2.1
  intro xs l2 l3 l5 H locs ls h hH hl
  unfold qX9_farthest_76 at h
  obtain ⟨v1, ev1, h⟩ := ltt_x h
  refine s_inc X (k := 4) (lv' := [(5, .int v1), (0, .ref (a i)), (1, .int pa), (2, .int l2), (3, .long l3)]) hl rfl (by rw [ev1]; rfl) dX9_farthest_76 (by decide) rfl (fun ls hl => ?_)
  refine lv_goto (tgt := 26) hx hb dX9_farthest_79 (by decide) ?_
  exact K26 xs l2 l3 v1 H locs ls h hH (lv_sub hl [1, 2, 3, 4, 0] rfl)
set_option maxHeartbeats 4000000 in
set_option maxRecDepth 100000 in
theorem pX9_farthest_68 {p : Program} {l : Launch} {e : Env} {s : State} {m : MethodId} {args : Array Value} {below : List Frame} {meth : Method} {c : Code} {g : GG} {w0 : va_W} {a : Nat → Nat} {i : Nat} {pa : Int32} {o : (Int32 × SX9)} (X : mX g yX9_farthest cX9_farthest 6 (some .int) p s m args meth c w0)
  {k76 : SX9 → Int32 → Int64 → Int32 → Option (Int32 × SX9)} (K76 : ∀ (xs : SX9) (l2 : Int32) (l3 : Int64) (l5 : Int32) (H : Heap) (locs : List Loc) (ls : Array Slot), k76 xs l2 l3 l5 = some o → mH g s w0 (wX9 g a i xs) H locs → lv_has ls 6 [(0, .ref (a i)), (1, .int pa), (2, .int l2), (3, .long l3), (5, .int l5)] → W p l e (rM 5 117) s m args below meth c H locs 0 0 (mZ g below args s w0 (wX9 g a i o.2) (some (.int o.1))) (F0 m 76 ls [])) :
  ∀ (xs : SX9) (l5 : Int32) (H : Heap) (locs : List Loc) (ls : Array Slot), qX9_farthest_68 pa k76 xs l5 = some o → mH g s w0 (wX9 g a i xs) H locs → lv_has ls 6 [(0, .ref (a i)), (1, .int pa), (5, .int l5)] → W p l e (rM 5 117) s m args below meth c H locs 0 0 (mZ g below args s w0 (wX9 g a i o.2) (some (.int o.1))) (F0 m 68 ls []) := by
  have hx := X.1
  have hb := X.2.1
  intro xs l5 H locs ls h hH hl
  unfold qX9_farthest_68 at h
  refine lv_iload hx hb dX9_farthest_68 (lv_at hl 2 rfl) ?_
  refine s_in X (lv' := [(2, .int l5), (0, .ref (a i)), (1, .int pa), (5, .int l5)]) hl rfl dX9_farthest_70 rfl (by decide) rfl (fun ls hl => ?_)
  refine lv_aload_n hx hb dX9_farthest_71 rfl (lv_at hl 1 rfl) ?_
  refine f_get X hH 0 rfl rfl 26 (by decide) inX9 fX9_248 rfl dX9_farthest_72 ?_
  obtain ⟨v2, ev2, h⟩ := ltt_x h
  refine s_ln X (lv' := [(3, .long v2), (2, .int l5), (0, .ref (a i)), (1, .int pa), (5, .int l5)]) hl ev2 dX9_farthest_75 rfl (by decide) rfl (fun ls hl => ?_)
  exact K76 xs l5 v2 l5 H locs ls h hH (lv_sub hl [2, 3, 1, 0, 4] rfl)
set_option maxHeartbeats 4000000 in
set_option maxRecDepth 100000 in
theorem pX9_farthest_26 {p : Program} {l : Launch} {e : Env} {s : State} {m : MethodId} {args : Array Value} {below : List Frame} {meth : Method} {c : Code} {g : GG} {w0 : va_W} {a : Nat → Nat} {i : Nat} {pa : Int32} {o : (Int32 × SX9)} (X : mX g yX9_farthest cX9_farthest 6 (some .int) p s m args meth c w0) :
  ∀ (fu : Nat) (xs : SX9) (l2 : Int32) (l3 : Int64) (l5 : Int32) (H : Heap) (locs : List Loc) (ls : Array Slot), qX9_farthest_26 pa fu xs l2 l3 l5 = some o → mH g s w0 (wX9 g a i xs) H locs → lv_has ls 6 [(0, .ref (a i)), (1, .int pa), (2, .int l2), (3, .long l3), (5, .int l5)] → W p l e (rM 5 117) s m args below meth c H locs 0 0 (mZ g below args s w0 (wX9 g a i o.2) (some (.int o.1))) (F0 m 26 ls []) := by
  have hx := X.1
  have hb := X.2.1
  intro fu
  induction fu with
  | zero =>
    intro xs l2 l3 l5 H locs ls h
    unfold qX9_farthest_26 at h
    cases h
  | succ fu ih =>
    intro xs l2 l3 l5 H locs ls h hH hl
    unfold qX9_farthest_26 at h
    refine lv_iload hx hb dX9_farthest_26 (lv_at hl 4 rfl) ?_
    refine lv_aload_n hx hb dX9_farthest_28 rfl (lv_at hl 0 rfl) ?_
    refine f_get X hH 0 rfl rfl 0 (by decide) inX9 fX9_7 rfl dX9_farthest_29 ?_
    refine lv_icmp_ge (tgt := 82) hx hb dX9_farthest_32 (by decide) (fun c2 => ?_) (fun c2 => ?_)
    · have h := it_x h c2
      refine lv_iload_n hx hb dX9_farthest_82 rfl (lv_at hl 2 rfl) ?_
      cases h
      exact e_i X hH dX9_farthest_83
    · have h := ie_x h c2
      refine lv_iload hx hb dX9_farthest_35 (lv_at hl 4 rfl) ?_
      refine lv_iload_n hx hb dX9_farthest_37 rfl (lv_at hl 1 rfl) ?_
      refine lv_icmp_eq (tgt := 76) hx hb dX9_farthest_38 (by decide) (fun c3 => ?_) (fun c3 => ?_)
      · have h := it_x h c3
        exact pX9_farthest_76 X ih xs l2 l3 l5 H locs ls h hH (lv_sub hl [0, 1, 2, 3, 4] rfl)
      · have h := ie_x h c3
        refine lv_aload_n hx hb dX9_farthest_41 rfl (lv_at hl 0 rfl) ?_
        refine lv_iload_n hx hb dX9_farthest_42 rfl (lv_at hl 1 rfl) ?_
        refine lv_iload hx hb dX9_farthest_43 (lv_at hl 4 rfl) ?_
        refine lv_iconst (v := (0 : Int32)) hx hb dX9_farthest_45 (by decide) ?_
        obtain ⟨o3, ho3, h⟩ := bd_x h
        refine r_V X hH (ws1 := (wX9 g a i o3.2)) (As := [.int pa, .int l5, .int (0 : Int32)]) (rest := []) (st1 := [.int o3.1]) (uX9_findTime (a := a) (i := i) ho3) kX9_findTime mX9_275 iX9_findTime vX9_findTime zX9 okX9_findTime ⟨Nat.le_of_ble_eq_true rfl, Nat.le_of_ble_eq_true rfl⟩ rfl rfl (q0 := 0) rfl rfl [0, 1, 2, 3, 4, 5, 6, 7, 8, 9, 10, 11, 12, 13, 14, 15, 16, 17, 18, 19, 20, 21, 22, 23, 24, 25, 26, 27, 28, 29, 30, 31, 32, 33] rfl rfl rfl rfl rfl hl.1 rfl (Nat.le_of_ble_eq_true rfl) ⟨Nat.le_refl 0, Nat.le_refl 0⟩ rfl dX9_farthest_46 (fun H locs hH => ?_)
        refine lv_if_eq (tgt := 76) hx hb dX9_farthest_49 (by decide) (fun c4 => ?_) (fun c4 => ?_)
        · have h := it_x h c4
          exact pX9_farthest_76 X ih o3.2 l2 l3 l5 H locs ls h hH (lv_sub hl [0, 1, 2, 3, 4] rfl)
        · have h := ie_x h c4
          refine lv_iload_n hx hb dX9_farthest_52 rfl (lv_at hl 2 rfl) ?_
          refine lv_if_lt (tgt := 68) hx hb dX9_farthest_53 (by decide) (fun c5 => ?_) (fun c5 => ?_)
          · have h := it_x h c5
            exact pX9_farthest_68 X (pX9_farthest_76 X ih) o3.2 l5 H locs ls h hH (lv_sub hl [0, 1, 4] rfl)
          · have h := ie_x h c5
            refine lv_aload_n hx hb dX9_farthest_56 rfl (lv_at hl 0 rfl) ?_
            refine f_get X hH 0 rfl rfl 26 (by decide) inX9 fX9_248 rfl dX9_farthest_57 ?_
            refine lv_lload_n hx hb dX9_farthest_60 rfl (lv_at hl 3 rfl) ?_
            refine W.lcmp hx hb dX9_farthest_61 ?_
            refine lv_if_gt (tgt := 68) hx hb dX9_farthest_62 (by decide) (fun c6 => ?_) (fun c6 => ?_)
            · have h := it_x h ((lg_cmp_gt (m_up o3.2) l3).mp c6)
              exact pX9_farthest_68 X (pX9_farthest_76 X ih) o3.2 l5 H locs ls h hH (lv_sub hl [0, 1, 4] rfl)
            · have h := ie_x h (mt (lg_cmp_gt (m_up o3.2) l3).mpr c6)
              refine lv_goto (tgt := 76) hx hb dX9_farthest_65 (by decide) ?_
              exact pX9_farthest_76 X ih o3.2 l2 l3 l5 H locs ls h hH (lv_sub hl [0, 1, 2, 3, 4] rfl)
set_option maxHeartbeats 4000000 in
set_option maxRecDepth 100000 in
theorem uX9_farthest {l : Launch} {g : GG} {a : Nat → Nat} {i : Nat} {xs : SX9} {pa : Int32} {o : (Int32 × SX9)} (h : fX9_farthest xs pa = some o) : mC l g yX9_farthest cX9_farthest 6 (some .int) (rM 5 117) [.ref (a i), .int pa] (wX9 g a i xs) (wX9 g a i o.2) (some (.int o.1)) := by
  refine mC.ofW (by decide) (fun p e s m below meth c X hH ls _ hl => ?_) (Nat.le_of_ble_eq_true rfl)
  have hx := X.1
  have hb := X.2.1
  have hl : lv_has ls 6 [(0, .ref (a i)), (1, .int pa)] := hl
  unfold fX9_farthest at h
  suffices HH : ∀ (H : Heap) (locs : List Loc), mH g s (wX9 g a i xs) (wX9 g a i xs) H locs → W p l e (rM 5 117) s m _ below meth c H locs 0 0 (mZ g below _ s (wX9 g a i xs) (wX9 g a i o.2) (some (.int o.1))) (F0 m 0 ls []) from HH _ _ hH
  clear hH
  intro H locs hH
  refine lv_aload_n hx hb dX9_farthest_0 rfl (lv_at hl 0 rfl) ?_
  refine lv_iload_n hx hb dX9_farthest_1 rfl (lv_at hl 1 rfl) ?_
  obtain ⟨o1, ho1, h⟩ := bd_x h
  refine r_V X hH (ws1 := (wX9 g a i xs)) (As := [.int pa]) (rest := []) (st1 := [.int o1]) (uX9_isPoint (a := a) (i := i) ho1) kX9_isPoint mX9_141 iX9_isPoint vX9_isPoint zX9 okX9_isPoint ⟨Nat.le_of_ble_eq_true rfl, Nat.le_of_ble_eq_true rfl⟩ rfl rfl (q0 := 0) rfl rfl [0, 1, 2, 3, 4, 5, 6, 7, 8, 9, 10, 11, 12, 13, 14, 15, 16, 17, 18, 19, 20, 21, 22, 23, 24, 25, 26, 27, 28, 29, 30, 31, 32, 33] rfl rfl rfl (putl_self _ _ rfl) rfl hl.1 rfl (Nat.le_of_ble_eq_true rfl) ⟨Nat.le_refl 0, Nat.le_refl 0⟩ rfl dX9_farthest_2 (fun H locs hH => ?_)
  refine lv_if_ne (tgt := 14) hx hb dX9_farthest_5 (by decide) (fun c1 => ?_) (fun c1 => ?_)
  · have h := ie_x h c1
    refine lv_aload_n hx hb dX9_farthest_14 rfl (lv_at hl 0 rfl) ?_
    obtain ⟨o2, ho2, h⟩ := bd_x h
    refine r_V X hH (ws1 := (wX9 g a i o2)) (As := []) (rest := []) (st1 := []) (uX9_allThere (a := a) (i := i) ho2) kX9_allThere mX9_230 iX9_allThere vX9_allThere zX9 okX9_allThere ⟨Nat.le_of_ble_eq_true rfl, Nat.le_of_ble_eq_true rfl⟩ rfl rfl (q0 := 0) rfl rfl [0, 1, 2, 3, 4, 5, 6, 7, 8, 9, 10, 11, 12, 13, 14, 15, 16, 17, 18, 19, 20, 21, 22, 23, 24, 25, 26, 27, 28, 29, 30, 31, 32, 33] rfl rfl rfl rfl rfl hl.1 rfl (Nat.le_of_ble_eq_true rfl) ⟨Nat.le_refl 0, Nat.le_refl 0⟩ rfl dX9_farthest_15 (fun H locs hH => ?_)
    refine lv_bipush (v := (-9 : Int32)) hx hb dX9_farthest_18 (by decide) ?_
    refine s_in X (lv' := [(2, .int (-9 : Int32)), (0, .ref (a i)), (1, .int pa)]) hl rfl dX9_farthest_20 rfl (by decide) rfl (fun ls hl => ?_)
    refine lv_lconst (v := (0 : Int64)) hx hb dX9_farthest_21 (by decide) ?_
    refine s_ln X (lv' := [(3, .long (0 : Int64)), (2, .int (-9 : Int32)), (0, .ref (a i)), (1, .int pa)]) hl rfl dX9_farthest_22 rfl (by decide) rfl (fun ls hl => ?_)
    refine lv_iconst (v := (0 : Int32)) hx hb dX9_farthest_23 (by decide) ?_
    refine s_i X (lv' := [(5, .int (0 : Int32)), (3, .long (0 : Int64)), (2, .int (-9 : Int32)), (0, .ref (a i)), (1, .int pa)]) hl rfl dX9_farthest_24 (by decide) rfl (fun ls hl => ?_)
    exact pX9_farthest_26 X FU o2 (-9 : Int32) (0 : Int64) (0 : Int32) H locs ls h hH (lv_sub hl [3, 4, 2, 1, 0] rfl)
  · have h := it_x h c1
    refine lv_aload_n hx hb dX9_farthest_8 rfl (lv_at hl 0 rfl) ?_
    refine lv_iconst (v := (-1 : Int32)) hx hb dX9_farthest_9 (by decide) ?_
    obtain ⟨o4, ho4, h⟩ := bd_x h
    refine r_V X hH (ws1 := (wX9 g a i o4.2)) (As := [.int (-1 : Int32)]) (rest := []) (st1 := [.int o4.1]) (uX9_no (a := a) (i := i) ho4) kX9_no mX9_125 iX9_no vX9_no zX9 okX9_no ⟨Nat.le_of_ble_eq_true rfl, Nat.le_of_ble_eq_true rfl⟩ rfl rfl (q0 := 0) rfl rfl [0, 1, 2, 3, 4, 5, 6, 7, 8, 9, 10, 11, 12, 13, 14, 15, 16, 17, 18, 19, 20, 21, 22, 23, 24, 25, 26, 27, 28, 29, 30, 31, 32, 33] rfl rfl rfl rfl rfl hl.1 rfl (Nat.le_of_ble_eq_true rfl) ⟨Nat.le_refl 0, Nat.le_refl 0⟩ rfl dX9_farthest_10 (fun H locs hH => ?_)
    cases h
    exact e_i X hH dX9_farthest_13

def qX9_middle_94  (k100 : SX9 → Int32 → Int64 → Int32 → Option (Int32 × SX9)) (xs : SX9) (l4 : Int32) (l5 : Int64) : Option (Int32 × SX9) :=
  k100 xs l4 l5 l4
def qX9_middle_100  (k31 : SX9 → Int32 → Int64 → Int32 → Option (Int32 × SX9)) (xs : SX9) (l1 : Int32) (l2 : Int64) (l4 : Int32) : Option (Int32 × SX9) :=
  ltt (l4 + (1 : Int32)) fun v1 =>
  k31 xs l1 l2 v1
def qX9_middle_46  (k31 : SX9 → Int32 → Int64 → Int32 → Option (Int32 × SX9)) : Nat → SX9 → Int32 → Int64 → Int32 → Int64 → Int32 → Option (Int32 × SX9)
  | 0, _, _, _, _, _, _ => none
  | fu + 1, xs, l1, l2, l4, l5, l7 =>
  (if (m_points xs) ≤ l7 then
  (if l1 < (0 : Int32) then
  qX9_middle_94 (qX9_middle_100 k31) xs l4 l5
  else
  (if l5 < l2 then
  qX9_middle_94 (qX9_middle_100 k31) xs l4 l5
  else
  qX9_middle_100 k31 xs l1 l2 l4))
  else
  (fX9_findTime xs l4 l7 (0 : Int32)).bind fun o3 =>
  ltt ((l5 + (m_up o3.2))) fun v2 =>
  ltt (l7 + (1 : Int32)) fun v3 =>
  qX9_middle_46 k31 fu o3.2 l1 l2 l4 v2 v3)
def qX9_middle_31   : Nat → SX9 → Int32 → Int64 → Int32 → Option (Int32 × SX9)
  | 0, _, _, _, _ => none
  | fu + 1, xs, l1, l2, l4 =>
  (if (m_points xs) ≤ l4 then
  some (l1, xs)
  else
  qX9_middle_46 (qX9_middle_31  fu) FU xs l1 l2 l4 (0 : Int64) (0 : Int32))
def fX9_middle (xs : SX9) : Option (Int32 × SX9) :=
  (fX9_allThere xs).bind fun o1 =>
  (fX9_reach o1 (0 : Int32)).bind fun o2 =>
  (if o2 = (((1 : Int32) <<< ((m_points o1) &&& 31)) - (1 : Int32)) then
  qX9_middle_31 FU o1 (-9 : Int32) (0 : Int64) (0 : Int32)
  else
  some ((-9 : Int32), o1))
set_option maxHeartbeats 4000000 in
set_option maxRecDepth 100000 in
theorem pX9_middle_94 {p : Program} {l : Launch} {e : Env} {s : State} {m : MethodId} {args : Array Value} {below : List Frame} {meth : Method} {c : Code} {g : GG} {w0 : va_W} {a : Nat → Nat} {i : Nat}  {o : (Int32 × SX9)} (X : mX g yX9_middle cX9_middle 8 (some .int) p s m args meth c w0)
  {k100 : SX9 → Int32 → Int64 → Int32 → Option (Int32 × SX9)} (K100 : ∀ (xs : SX9) (l1 : Int32) (l2 : Int64) (l4 : Int32) (H : Heap) (locs : List Loc) (ls : Array Slot), k100 xs l1 l2 l4 = some o → mH g s w0 (wX9 g a i xs) H locs → lv_has ls 8 [(0, .ref (a i)), (1, .int l1), (2, .long l2), (4, .int l4)] → W p l e (rM 5 117) s m args below meth c H locs 0 0 (mZ g below args s w0 (wX9 g a i o.2) (some (.int o.1))) (F0 m 100 ls [])) :
  ∀ (xs : SX9) (l4 : Int32) (l5 : Int64) (H : Heap) (locs : List Loc) (ls : Array Slot), qX9_middle_94 k100 xs l4 l5 = some o → mH g s w0 (wX9 g a i xs) H locs → lv_has ls 8 [(0, .ref (a i)), (4, .int l4), (5, .long l5)] → W p l e (rM 5 117) s m args below meth c H locs 0 0 (mZ g below args s w0 (wX9 g a i o.2) (some (.int o.1))) (F0 m 94 ls []) := by
  have hx := X.1
  have hb := X.2.1
  intro xs l4 l5 H locs ls h hH hl
  unfold qX9_middle_94 at h
  refine lv_iload hx hb dX9_middle_94 (lv_at hl 1 rfl) ?_
  refine s_in X (lv' := [(1, .int l4), (0, .ref (a i)), (4, .int l4), (5, .long l5)]) hl rfl dX9_middle_96 rfl (by decide) rfl (fun ls hl => ?_)
  refine lv_lload hx hb dX9_middle_97 (lv_at hl 3 rfl) ?_
  refine s_ln X (lv' := [(2, .long l5), (1, .int l4), (0, .ref (a i)), (4, .int l4), (5, .long l5)]) hl rfl dX9_middle_99 rfl (by decide) rfl (fun ls hl => ?_)
  exact K100 xs l4 l5 l4 H locs ls h hH (lv_sub hl [2, 1, 0, 3] rfl)
set_option maxHeartbeats 4000000 in
set_option maxRecDepth 100000 in
theorem pX9_middle_100 {p : Program} {l : Launch} {e : Env} {s : State} {m : MethodId} {args : Array Value} {below : List Frame} {meth : Method} {c : Code} {g : GG} {w0 : va_W} {a : Nat → Nat} {i : Nat}  {o : (Int32 × SX9)} (X : mX g yX9_middle cX9_middle 8 (some .int) p s m args meth c w0)
  {k31 : SX9 → Int32 → Int64 → Int32 → Option (Int32 × SX9)} (K31 : ∀ (xs : SX9) (l1 : Int32) (l2 : Int64) (l4 : Int32) (H : Heap) (locs : List Loc) (ls : Array Slot), k31 xs l1 l2 l4 = some o → mH g s w0 (wX9 g a i xs) H locs → lv_has ls 8 [(0, .ref (a i)), (1, .int l1), (2, .long l2), (4, .int l4)] → W p l e (rM 5 117) s m args below meth c H locs 0 0 (mZ g below args s w0 (wX9 g a i o.2) (some (.int o.1))) (F0 m 31 ls [])) :
  ∀ (xs : SX9) (l1 : Int32) (l2 : Int64) (l4 : Int32) (H : Heap) (locs : List Loc) (ls : Array Slot), qX9_middle_100 k31 xs l1 l2 l4 = some o → mH g s w0 (wX9 g a i xs) H locs → lv_has ls 8 [(0, .ref (a i)), (1, .int l1), (2, .long l2), (4, .int l4)] → W p l e (rM 5 117) s m args below meth c H locs 0 0 (mZ g below args s w0 (wX9 g a i o.2) (some (.int o.1))) (F0 m 100 ls []) := by
  have hx := X.1
  have hb := X.2.1
  intro xs l1 l2 l4 H locs ls h hH hl
  unfold qX9_middle_100 at h
  obtain ⟨v1, ev1, h⟩ := ltt_x h
  refine s_inc X (k := 3) (lv' := [(4, .int v1), (0, .ref (a i)), (1, .int l1), (2, .long l2)]) hl rfl (by rw [ev1]; rfl) dX9_middle_100 (by decide) rfl (fun ls hl => ?_)
  refine lv_goto (tgt := 31) hx hb dX9_middle_103 (by decide) ?_
  exact K31 xs l1 l2 v1 H locs ls h hH (lv_sub hl [1, 2, 3, 0] rfl)
set_option maxHeartbeats 4000000 in
set_option maxRecDepth 100000 in
theorem pX9_middle_46 {p : Program} {l : Launch} {e : Env} {s : State} {m : MethodId} {args : Array Value} {below : List Frame} {meth : Method} {c : Code} {g : GG} {w0 : va_W} {a : Nat → Nat} {i : Nat}  {o : (Int32 × SX9)} (X : mX g yX9_middle cX9_middle 8 (some .int) p s m args meth c w0)
  {k31 : SX9 → Int32 → Int64 → Int32 → Option (Int32 × SX9)} (K31 : ∀ (xs : SX9) (l1 : Int32) (l2 : Int64) (l4 : Int32) (H : Heap) (locs : List Loc) (ls : Array Slot), k31 xs l1 l2 l4 = some o → mH g s w0 (wX9 g a i xs) H locs → lv_has ls 8 [(0, .ref (a i)), (1, .int l1), (2, .long l2), (4, .int l4)] → W p l e (rM 5 117) s m args below meth c H locs 0 0 (mZ g below args s w0 (wX9 g a i o.2) (some (.int o.1))) (F0 m 31 ls [])) :
  ∀ (fu : Nat) (xs : SX9) (l1 : Int32) (l2 : Int64) (l4 : Int32) (l5 : Int64) (l7 : Int32) (H : Heap) (locs : List Loc) (ls : Array Slot), qX9_middle_46 k31 fu xs l1 l2 l4 l5 l7 = some o → mH g s w0 (wX9 g a i xs) H locs → lv_has ls 8 [(0, .ref (a i)), (1, .int l1), (2, .long l2), (4, .int l4), (5, .long l5), (7, .int l7)] → W p l e (rM 5 117) s m args below meth c H locs 0 0 (mZ g below args s w0 (wX9 g a i o.2) (some (.int o.1))) (F0 m 46 ls []) := by
  have hx := X.1
  have hb := X.2.1
  intro fu
  induction fu with
  | zero =>
    intro xs l1 l2 l4 l5 l7 H locs ls h
    unfold qX9_middle_46 at h
    cases h
  | succ fu ih =>
    intro xs l1 l2 l4 l5 l7 H locs ls h hH hl
    unfold qX9_middle_46 at h
    refine lv_iload hx hb dX9_middle_46 (lv_at hl 5 rfl) ?_
    refine lv_aload_n hx hb dX9_middle_48 rfl (lv_at hl 0 rfl) ?_
    refine f_get X hH 0 rfl rfl 0 (by decide) inX9 fX9_7 rfl dX9_middle_49 ?_
    refine lv_icmp_ge (tgt := 80) hx hb dX9_middle_52 (by decide) (fun c3 => ?_) (fun c3 => ?_)
    · have h := it_x h c3
      refine lv_iload_n hx hb dX9_middle_80 rfl (lv_at hl 1 rfl) ?_
      refine lv_if_lt (tgt := 94) hx hb dX9_middle_81 (by decide) (fun c4 => ?_) (fun c4 => ?_)
      · have h := it_x h c4
        exact pX9_middle_94 X (pX9_middle_100 X K31) xs l4 l5 H locs ls h hH (lv_sub hl [0, 3, 4] rfl)
      · have h := ie_x h c4
        refine lv_lload hx hb dX9_middle_84 (lv_at hl 4 rfl) ?_
        refine lv_lload_n hx hb dX9_middle_86 rfl (lv_at hl 2 rfl) ?_
        refine W.lcmp hx hb dX9_middle_87 ?_
        refine lv_if_lt (tgt := 94) hx hb dX9_middle_88 (by decide) (fun c5 => ?_) (fun c5 => ?_)
        · have h := it_x h ((lg_cmp_lt l5 l2).mp c5)
          exact pX9_middle_94 X (pX9_middle_100 X K31) xs l4 l5 H locs ls h hH (lv_sub hl [0, 3, 4] rfl)
        · have h := ie_x h (mt (lg_cmp_lt l5 l2).mpr c5)
          refine lv_goto (tgt := 100) hx hb dX9_middle_91 (by decide) ?_
          exact pX9_middle_100 X K31 xs l1 l2 l4 H locs ls h hH (lv_sub hl [0, 1, 2, 3] rfl)
    · have h := ie_x h c3
      refine lv_aload_n hx hb dX9_middle_55 rfl (lv_at hl 0 rfl) ?_
      refine lv_iload hx hb dX9_middle_56 (lv_at hl 3 rfl) ?_
      refine lv_iload hx hb dX9_middle_58 (lv_at hl 5 rfl) ?_
      refine lv_iconst (v := (0 : Int32)) hx hb dX9_middle_60 (by decide) ?_
      obtain ⟨o3, ho3, h⟩ := bd_x h
      refine r_V X hH (ws1 := (wX9 g a i o3.2)) (As := [.int l4, .int l7, .int (0 : Int32)]) (rest := []) (st1 := [.int o3.1]) (uX9_findTime (a := a) (i := i) ho3) kX9_findTime mX9_275 iX9_findTime vX9_findTime zX9 okX9_findTime ⟨Nat.le_of_ble_eq_true rfl, Nat.le_of_ble_eq_true rfl⟩ rfl rfl (q0 := 0) rfl rfl [0, 1, 2, 3, 4, 5, 6, 7, 8, 9, 10, 11, 12, 13, 14, 15, 16, 17, 18, 19, 20, 21, 22, 23, 24, 25, 26, 27, 28, 29, 30, 31, 32, 33] rfl rfl rfl rfl rfl hl.1 rfl (Nat.le_of_ble_eq_true rfl) ⟨Nat.le_refl 0, Nat.le_refl 0⟩ rfl dX9_middle_61 (fun H locs hH => ?_)
      refine lv_pop hx hb dX9_middle_64 rfl ?_
      refine lv_lload hx hb dX9_middle_65 (lv_at hl 4 rfl) ?_
      refine lv_aload_n hx hb dX9_middle_67 rfl (lv_at hl 0 rfl) ?_
      refine f_get X hH 0 rfl rfl 26 (by decide) inX9 fX9_248 rfl dX9_middle_68 ?_
      refine lv_ladd hx hb dX9_middle_71 ?_
      obtain ⟨v2, ev2, h⟩ := ltt_x h
      refine s_l X (lv' := [(5, .long v2), (0, .ref (a i)), (1, .int l1), (2, .long l2), (4, .int l4), (7, .int l7)]) hl ev2 dX9_middle_72 (by decide) rfl (fun ls hl => ?_)
      obtain ⟨v3, ev3, h⟩ := ltt_x h
      refine s_inc X (k := 5) (lv' := [(7, .int v3), (5, .long v2), (0, .ref (a i)), (1, .int l1), (2, .long l2), (4, .int l4)]) hl rfl (by rw [ev3]; rfl) dX9_middle_74 (by decide) rfl (fun ls hl => ?_)
      refine lv_goto (tgt := 46) hx hb dX9_middle_77 (by decide) ?_
      exact ih o3.2 l1 l2 l4 v2 v3 H locs ls h hH (lv_sub hl [2, 3, 4, 5, 1, 0] rfl)
set_option maxHeartbeats 4000000 in
set_option maxRecDepth 100000 in
theorem pX9_middle_31 {p : Program} {l : Launch} {e : Env} {s : State} {m : MethodId} {args : Array Value} {below : List Frame} {meth : Method} {c : Code} {g : GG} {w0 : va_W} {a : Nat → Nat} {i : Nat}  {o : (Int32 × SX9)} (X : mX g yX9_middle cX9_middle 8 (some .int) p s m args meth c w0) :
  ∀ (fu : Nat) (xs : SX9) (l1 : Int32) (l2 : Int64) (l4 : Int32) (H : Heap) (locs : List Loc) (ls : Array Slot), qX9_middle_31 fu xs l1 l2 l4 = some o → mH g s w0 (wX9 g a i xs) H locs → lv_has ls 8 [(0, .ref (a i)), (1, .int l1), (2, .long l2), (4, .int l4)] → W p l e (rM 5 117) s m args below meth c H locs 0 0 (mZ g below args s w0 (wX9 g a i o.2) (some (.int o.1))) (F0 m 31 ls []) := by
  have hx := X.1
  have hb := X.2.1
  intro fu
  induction fu with
  | zero =>
    intro xs l1 l2 l4 H locs ls h
    unfold qX9_middle_31 at h
    cases h
  | succ fu ih =>
    intro xs l1 l2 l4 H locs ls h hH hl
    unfold qX9_middle_31 at h
    refine lv_iload hx hb dX9_middle_31 (lv_at hl 3 rfl) ?_
    refine lv_aload_n hx hb dX9_middle_33 rfl (lv_at hl 0 rfl) ?_
    refine f_get X hH 0 rfl rfl 0 (by decide) inX9 fX9_7 rfl dX9_middle_34 ?_
    refine lv_icmp_ge (tgt := 106) hx hb dX9_middle_37 (by decide) (fun c2 => ?_) (fun c2 => ?_)
    · have h := it_x h c2
      refine lv_iload_n hx hb dX9_middle_106 rfl (lv_at hl 1 rfl) ?_
      cases h
      exact e_i X hH dX9_middle_107
    · have h := ie_x h c2
      refine lv_lconst (v := (0 : Int64)) hx hb dX9_middle_40 (by decide) ?_
      refine s_l X (lv' := [(5, .long (0 : Int64)), (0, .ref (a i)), (1, .int l1), (2, .long l2), (4, .int l4)]) hl rfl dX9_middle_41 (by decide) rfl (fun ls hl => ?_)
      refine lv_iconst (v := (0 : Int32)) hx hb dX9_middle_43 (by decide) ?_
      refine s_i X (lv' := [(7, .int (0 : Int32)), (5, .long (0 : Int64)), (0, .ref (a i)), (1, .int l1), (2, .long l2), (4, .int l4)]) hl rfl dX9_middle_44 (by decide) rfl (fun ls hl => ?_)
      exact pX9_middle_46 X ih FU xs l1 l2 l4 (0 : Int64) (0 : Int32) H locs ls h hH (lv_sub hl [2, 3, 4, 5, 1, 0] rfl)
set_option maxHeartbeats 4000000 in
set_option maxRecDepth 100000 in
theorem uX9_middle {l : Launch} {g : GG} {a : Nat → Nat} {i : Nat} {xs : SX9} {o : (Int32 × SX9)} (h : fX9_middle xs = some o) : mC l g yX9_middle cX9_middle 8 (some .int) (rM 5 117) [.ref (a i)] (wX9 g a i xs) (wX9 g a i o.2) (some (.int o.1)) := by
  refine mC.ofW (by decide) (fun p e s m below meth c X hH ls _ hl => ?_) (Nat.le_of_ble_eq_true rfl)
  have hx := X.1
  have hb := X.2.1
  have hl : lv_has ls 8 [(0, .ref (a i))] := hl
  unfold fX9_middle at h
  suffices HH : ∀ (H : Heap) (locs : List Loc), mH g s (wX9 g a i xs) (wX9 g a i xs) H locs → W p l e (rM 5 117) s m _ below meth c H locs 0 0 (mZ g below _ s (wX9 g a i xs) (wX9 g a i o.2) (some (.int o.1))) (F0 m 0 ls []) from HH _ _ hH
  clear hH
  intro H locs hH
  refine lv_aload_n hx hb dX9_middle_0 rfl (lv_at hl 0 rfl) ?_
  obtain ⟨o1, ho1, h⟩ := bd_x h
  refine r_V X hH (ws1 := (wX9 g a i o1)) (As := []) (rest := []) (st1 := []) (uX9_allThere (a := a) (i := i) ho1) kX9_allThere mX9_230 iX9_allThere vX9_allThere zX9 okX9_allThere ⟨Nat.le_of_ble_eq_true rfl, Nat.le_of_ble_eq_true rfl⟩ rfl rfl (q0 := 0) rfl rfl [0, 1, 2, 3, 4, 5, 6, 7, 8, 9, 10, 11, 12, 13, 14, 15, 16, 17, 18, 19, 20, 21, 22, 23, 24, 25, 26, 27, 28, 29, 30, 31, 32, 33] rfl rfl rfl rfl rfl hl.1 rfl (Nat.le_of_ble_eq_true rfl) ⟨Nat.le_refl 0, Nat.le_refl 0⟩ rfl dX9_middle_1 (fun H locs hH => ?_)
  refine lv_aload_n hx hb dX9_middle_4 rfl (lv_at hl 0 rfl) ?_
  refine lv_iconst (v := (0 : Int32)) hx hb dX9_middle_5 (by decide) ?_
  obtain ⟨o2, ho2, h⟩ := bd_x h
  refine r_V X hH (ws1 := (wX9 g a i o1)) (As := [.int (0 : Int32)]) (rest := []) (st1 := [.int o2]) (uX9_reach (a := a) (i := i) ho2) kX9_reach mX9_233 iX9_reach vX9_reach zX9 okX9_reach ⟨Nat.le_of_ble_eq_true rfl, Nat.le_of_ble_eq_true rfl⟩ rfl rfl (q0 := 0) rfl rfl [0, 1, 2, 3, 4, 5, 6, 7, 8, 9, 10, 11, 12, 13, 14, 15, 16, 17, 18, 19, 20, 21, 22, 23, 24, 25, 26, 27, 28, 29, 30, 31, 32, 33] rfl rfl rfl (putl_self _ _ rfl) rfl hl.1 rfl (Nat.le_of_ble_eq_true rfl) ⟨Nat.le_refl 0, Nat.le_refl 0⟩ rfl dX9_middle_6 (fun H locs hH => ?_)
  refine lv_iconst (v := (1 : Int32)) hx hb dX9_middle_9 (by decide) ?_
  refine lv_aload_n hx hb dX9_middle_10 rfl (lv_at hl 0 rfl) ?_
  refine f_get X hH 0 rfl rfl 0 (by decide) inX9 fX9_7 rfl dX9_middle_11 ?_
  refine lv_ishl hx hb dX9_middle_14 ?_
  refine lv_iconst (v := (1 : Int32)) hx hb dX9_middle_15 (by decide) ?_
  refine lv_isub hx hb dX9_middle_16 ?_
  refine lv_icmp_eq (tgt := 23) hx hb dX9_middle_17 (by decide) (fun c1 => ?_) (fun c1 => ?_)
  · have h := it_x h c1
    refine lv_bipush (v := (-9 : Int32)) hx hb dX9_middle_23 (by decide) ?_
    refine s_in X (lv' := [(1, .int (-9 : Int32)), (0, .ref (a i))]) hl rfl dX9_middle_25 rfl (by decide) rfl (fun ls hl => ?_)
    refine lv_lconst (v := (0 : Int64)) hx hb dX9_middle_26 (by decide) ?_
    refine s_ln X (lv' := [(2, .long (0 : Int64)), (1, .int (-9 : Int32)), (0, .ref (a i))]) hl rfl dX9_middle_27 rfl (by decide) rfl (fun ls hl => ?_)
    refine lv_iconst (v := (0 : Int32)) hx hb dX9_middle_28 (by decide) ?_
    refine s_i X (lv' := [(4, .int (0 : Int32)), (2, .long (0 : Int64)), (1, .int (-9 : Int32)), (0, .ref (a i))]) hl rfl dX9_middle_29 (by decide) rfl (fun ls hl => ?_)
    exact pX9_middle_31 X FU o1 (-9 : Int32) (0 : Int64) (0 : Int32) H locs ls h hH (lv_sub hl [3, 2, 1, 0] rfl)
  · have h := ie_x h c1
    refine lv_bipush (v := (-9 : Int32)) hx hb dX9_middle_20 (by decide) ?_
    cases h
    exact e_i X hH dX9_middle_22

def fX9_notDoubt (xs : SX9) (pa : Int32) (pb : Int32) (pc_ : Int32) (pd : Int32) (pe : Int32) : Option Int32 :=
  (fX9_isPoint xs pa).bind fun o1 =>
  (if o1 = (0 : Int32) then
  some (-1 : Int32)
  else
  (fX9_isPoint xs pb).bind fun o2 =>
  (if o2 = (0 : Int32) then
  some (-1 : Int32)
  else
  (if pc_ < (2 : Int32) then
  some (-4 : Int32)
  else
  (if (0 : Int32) ≤ pd then
  (if (20 : Int32) < pc_ then
  some (-6 : Int32)
  else
  (if pd ≤ (999 : Int32) then
  (fX9_isIn (pe.toInt64) (0 : Int64) (1 : Int64)).bind fun o3 =>
  (if o3 = (0 : Int32) then
  some (-2 : Int32)
  else
  some (0 : Int32))
  else
  some (-6 : Int32)))
  else
  some (-4 : Int32)))))
set_option maxHeartbeats 4000000 in
set_option maxRecDepth 100000 in
theorem uX9_notDoubt {l : Launch} {g : GG} {a : Nat → Nat} {i : Nat} {xs : SX9} {pa : Int32} {pb : Int32} {pc_ : Int32} {pd : Int32} {pe : Int32} {o : Int32} (h : fX9_notDoubt xs pa pb pc_ pd pe = some o) : mC l g yX9_notDoubt cX9_notDoubt 6 (some .int) (rM 2 46) [.ref (a i), .int pa, .int pb, .int pc_, .int pd, .int pe] (wX9 g a i xs) (wX9 g a i xs) (some (.int o)) := by
  refine mC.ofW (by decide) (fun p e s m below meth c X hH ls _ hl => ?_) (Nat.le_of_ble_eq_true rfl)
  have hx := X.1
  have hb := X.2.1
  have hl : lv_has ls 6 [(0, .ref (a i)), (1, .int pa), (2, .int pb), (3, .int pc_), (4, .int pd), (5, .int pe)] := hl
  unfold fX9_notDoubt at h
  suffices HH : ∀ (H : Heap) (locs : List Loc), mH g s (wX9 g a i xs) (wX9 g a i xs) H locs → W p l e (rM 2 46) s m _ below meth c H locs 0 0 (mZ g below _ s (wX9 g a i xs) (wX9 g a i xs) (some (.int o))) (F0 m 0 ls []) from HH _ _ hH
  clear hH
  intro H locs hH
  refine lv_aload_n hx hb dX9_notDoubt_0 rfl (lv_at hl 0 rfl) ?_
  refine lv_iload_n hx hb dX9_notDoubt_1 rfl (lv_at hl 1 rfl) ?_
  obtain ⟨o1, ho1, h⟩ := bd_x h
  refine r_V X hH (ws1 := (wX9 g a i xs)) (As := [.int pa]) (rest := []) (st1 := [.int o1]) (uX9_isPoint (a := a) (i := i) ho1) kX9_isPoint mX9_141 iX9_isPoint vX9_isPoint zX9 okX9_isPoint ⟨Nat.le_of_ble_eq_true rfl, Nat.le_of_ble_eq_true rfl⟩ rfl rfl (q0 := 0) rfl rfl [0, 1, 2, 3, 4, 5, 6, 7, 8, 9, 10, 11, 12, 13, 14, 15, 16, 17, 18, 19, 20, 21, 22, 23, 24, 25, 26, 27, 28, 29, 30, 31, 32, 33] rfl rfl rfl (putl_self _ _ rfl) rfl hl.1 rfl (Nat.le_of_ble_eq_true rfl) ⟨Nat.le_refl 0, Nat.le_refl 0⟩ rfl dX9_notDoubt_2 (fun H locs hH => ?_)
  refine lv_if_eq (tgt := 16) hx hb dX9_notDoubt_5 (by decide) (fun c1 => ?_) (fun c1 => ?_)
  · have h := it_x h c1
    refine lv_iconst (v := (-1 : Int32)) hx hb dX9_notDoubt_16 (by decide) ?_
    cases h
    exact e_i X hH dX9_notDoubt_17
  · have h := ie_x h c1
    refine lv_aload_n hx hb dX9_notDoubt_8 rfl (lv_at hl 0 rfl) ?_
    refine lv_iload_n hx hb dX9_notDoubt_9 rfl (lv_at hl 2 rfl) ?_
    obtain ⟨o2, ho2, h⟩ := bd_x h
    refine r_V X hH (ws1 := (wX9 g a i xs)) (As := [.int pb]) (rest := []) (st1 := [.int o2]) (uX9_isPoint (a := a) (i := i) ho2) kX9_isPoint mX9_141 iX9_isPoint vX9_isPoint zX9 okX9_isPoint ⟨Nat.le_of_ble_eq_true rfl, Nat.le_of_ble_eq_true rfl⟩ rfl rfl (q0 := 0) rfl rfl [0, 1, 2, 3, 4, 5, 6, 7, 8, 9, 10, 11, 12, 13, 14, 15, 16, 17, 18, 19, 20, 21, 22, 23, 24, 25, 26, 27, 28, 29, 30, 31, 32, 33] rfl rfl rfl (putl_self _ _ rfl) rfl hl.1 rfl (Nat.le_of_ble_eq_true rfl) ⟨Nat.le_refl 0, Nat.le_refl 0⟩ rfl dX9_notDoubt_10 (fun H locs hH => ?_)
    refine lv_if_ne (tgt := 18) hx hb dX9_notDoubt_13 (by decide) (fun c2 => ?_) (fun c2 => ?_)
    · have h := ie_x h c2
      refine lv_iload_n hx hb dX9_notDoubt_18 rfl (lv_at hl 3 rfl) ?_
      refine lv_iconst (v := (2 : Int32)) hx hb dX9_notDoubt_19 (by decide) ?_
      refine lv_icmp_lt (tgt := 28) hx hb dX9_notDoubt_20 (by decide) (fun c3 => ?_) (fun c3 => ?_)
      · have h := it_x h c3
        refine lv_bipush (v := (-4 : Int32)) hx hb dX9_notDoubt_28 (by decide) ?_
        cases h
        exact e_i X hH dX9_notDoubt_30
      · have h := ie_x h c3
        refine lv_iload hx hb dX9_notDoubt_23 (lv_at hl 4 rfl) ?_
        refine lv_if_ge (tgt := 31) hx hb dX9_notDoubt_25 (by decide) (fun c4 => ?_) (fun c4 => ?_)
        · have h := it_x h c4
          refine lv_iload_n hx hb dX9_notDoubt_31 rfl (lv_at hl 3 rfl) ?_
          refine lv_bipush (v := (20 : Int32)) hx hb dX9_notDoubt_32 (by decide) ?_
          refine lv_icmp_gt (tgt := 45) hx hb dX9_notDoubt_34 (by decide) (fun c5 => ?_) (fun c5 => ?_)
          · have h := it_x h c5
            refine lv_bipush (v := (-6 : Int32)) hx hb dX9_notDoubt_45 (by decide) ?_
            cases h
            exact e_i X hH dX9_notDoubt_47
          · have h := ie_x h c5
            refine lv_iload hx hb dX9_notDoubt_37 (lv_at hl 4 rfl) ?_
            refine lv_sipush (v := (999 : Int32)) hx hb dX9_notDoubt_39 (by decide) ?_
            refine lv_icmp_le (tgt := 48) hx hb dX9_notDoubt_42 (by decide) (fun c6 => ?_) (fun c6 => ?_)
            · have h := it_x h c6
              refine lv_iload hx hb dX9_notDoubt_48 (lv_at hl 5 rfl) ?_
              refine lv_i2l hx hb dX9_notDoubt_50 rfl ?_
              refine lv_lconst (v := (0 : Int64)) hx hb dX9_notDoubt_51 (by decide) ?_
              refine lv_lconst (v := (1 : Int64)) hx hb dX9_notDoubt_52 (by decide) ?_
              obtain ⟨o3, ho3, h⟩ := bd_x h
              refine r_S X hH (ws1 := (wX9 g a i xs)) (As := [.long (pe.toInt64), .long (0 : Int64), .long (1 : Int64)]) (rest := []) (st1 := [.int o3]) (uX9_isIn  ho3) kX9_isIn mX9_116 sX9_isIn zX9 okX9_isIn ⟨Nat.le_of_ble_eq_true rfl, Nat.le_of_ble_eq_true rfl⟩ rfl rfl [] rfl rfl rfl (putl_self _ _ rfl) rfl hl.1 rfl (Nat.le_of_ble_eq_true rfl) ⟨Nat.le_refl 0, Nat.le_refl 0⟩ rfl dX9_notDoubt_53 (fun H locs hH => ?_)
              refine lv_if_eq (tgt := 63) hx hb dX9_notDoubt_56 (by decide) (fun c7 => ?_) (fun c7 => ?_)
              · have h := it_x h c7
                refine lv_bipush (v := (-2 : Int32)) hx hb dX9_notDoubt_63 (by decide) ?_
                cases h
                exact e_i X hH dX9_notDoubt_65
              · have h := ie_x h c7
                refine lv_iconst (v := (0 : Int32)) hx hb dX9_notDoubt_59 (by decide) ?_
                refine lv_goto (tgt := 65) hx hb dX9_notDoubt_60 (by decide) ?_
                cases h
                exact e_i X hH dX9_notDoubt_65
            · have h := ie_x h c6
              refine lv_bipush (v := (-6 : Int32)) hx hb dX9_notDoubt_45 (by decide) ?_
              cases h
              exact e_i X hH dX9_notDoubt_47
        · have h := ie_x h c4
          refine lv_bipush (v := (-4 : Int32)) hx hb dX9_notDoubt_28 (by decide) ?_
          cases h
          exact e_i X hH dX9_notDoubt_30
    · have h := it_x h c2
      refine lv_iconst (v := (-1 : Int32)) hx hb dX9_notDoubt_16 (by decide) ?_
      cases h
      exact e_i X hH dX9_notDoubt_17

def qX9_doubted_129 (pa : Int32) (pb : Int32) (pc_ : Int32) (pd : Int32) (pe : Int32) (k130 : SX9 → Int32 → Int64 → Int64 → Int32 → Int32 → Option (Int64 × SX9)) (xs : SX9) (l6 : Int32) (l7 : Int64) (l9 : Int64) (l11 : Int32) : Option (Int64 × SX9) :=
  k130 xs l6 l7 l9 l11 (0 : Int32)
def qX9_doubted_187 (pa : Int32) (pb : Int32) (pc_ : Int32) (pd : Int32) (pe : Int32) (k52 : SX9 → Int32 → Int64 → Int64 → Int32 → Option (Int64 × SX9)) (xs : SX9) (l6 : Int32) (l9 : Int64) (l11 : Int32) (t0 : Int64) (t1 : Int64) : Option (Int64 × SX9) :=
  ltt ((t0 + t1)) fun v1 =>
  ltt (l11 + (1 : Int32)) fun v2 =>
  k52 xs l6 v1 l9 v2
def qX9_doubted_165 (pa : Int32) (pb : Int32) (pc_ : Int32) (pd : Int32) (pe : Int32) (k138 : SX9 → Int32 → Int64 → Int64 → Int32 → Int32 → Int64 → Int32 → Option (Int64 × SX9)) (xs : SX9) (l6 : Int32) (l7 : Int64) (l9 : Int64) (l11 : Int32) (l12 : Int32) (l15 : Int32) (t0 : Int64) (t1 : Int64) : Option (Int64 × SX9) :=
  ltt ((t0 * t1)) fun v3 =>
  ltt (l15 + (1 : Int32)) fun v4 =>
  k138 xs l6 l7 l9 l11 l12 v3 v4
def qX9_doubted_138 (pa : Int32) (pb : Int32) (pc_ : Int32) (pd : Int32) (pe : Int32) (k52 : SX9 → Int32 → Int64 → Int64 → Int32 → Option (Int64 × SX9)) : Nat → SX9 → Int32 → Int64 → Int64 → Int32 → Int32 → Int64 → Int32 → Option (Int64 × SX9)
  | 0, _, _, _, _, _, _, _, _ => none
  | fu + 1, xs, l6, l7, l9, l11, l12, l13, l15 =>
  (if l6 ≤ l15 then
  (if l12 = (0 : Int32) then
  qX9_doubted_187 pa pb pc_ pd pe k52 xs l6 l9 l11 l7 (0 : Int64)
  else
  qX9_doubted_187 pa pb pc_ pd pe k52 xs l6 l9 l11 l7 l13)
  else
  (fX9_has l11 l15).bind fun o4 =>
  (if o4 = (0 : Int32) then
  qX9_doubted_165 pa pb pc_ pd pe (qX9_doubted_138 pa pb pc_ pd pe k52 fu) xs l6 l7 l9 l11 l12 l15 l13 (1 : Int64)
  else
  qX9_doubted_165 pa pb pc_ pd pe (qX9_doubted_138 pa pb pc_ pd pe k52 fu) xs l6 l7 l9 l11 l12 l15 l13 ((pc_ - (1 : Int32)).toInt64)))
def qX9_doubted_130 (pa : Int32) (pb : Int32) (pc_ : Int32) (pd : Int32) (pe : Int32) (k52 : SX9 → Int32 → Int64 → Int64 → Int32 → Option (Int64 × SX9)) (xs : SX9) (l6 : Int32) (l7 : Int64) (l9 : Int64) (l11 : Int32) (t0 : Int32) : Option (Int64 × SX9) :=
  qX9_doubted_138 pa pb pc_ pd pe k52 FU xs l6 l7 l9 l11 t0 (1 : Int64) (0 : Int32)
def qX9_doubted_52 (pa : Int32) (pb : Int32) (pc_ : Int32) (pd : Int32) (pe : Int32)  : Nat → SX9 → Int32 → Int64 → Int64 → Int32 → Option (Int64 × SX9)
  | 0, _, _, _, _, _ => none
  | fu + 1, xs, l6, l7, l9, l11 =>
  (if ((1 : Int32) <<< (l6 &&& 31)) ≤ l11 then
  (fX9_partOf l7 l9 pe).bind fun o1 =>
  some (o1, xs)
  else
  (fX9_allThere xs).bind fun o2 =>
  ltt ((m_there_s o2 ((((m_there o2) >>> (l6 &&& 31)) <<< (l6 &&& 31)) ||| l11))) fun xs1 =>
  (if (0 : Int32) ≤ pd then
  (fX9_findTime xs1 pa pb (0 : Int32)).bind fun o3 =>
  (if o3.1 = (0 : Int32) then
  qX9_doubted_129 pa pb pc_ pd pe (qX9_doubted_130 pa pb pc_ pd pe (qX9_doubted_52 pa pb pc_ pd pe  fu)) o3.2 l6 l7 l9 l11
  else
  (if ((pd.toInt64) * (m_down o3.2)) < (m_up o3.2) then
  qX9_doubted_129 pa pb pc_ pd pe (qX9_doubted_130 pa pb pc_ pd pe (qX9_doubted_52 pa pb pc_ pd pe  fu)) o3.2 l6 l7 l9 l11
  else
  qX9_doubted_130 pa pb pc_ pd pe (qX9_doubted_52 pa pb pc_ pd pe  fu) o3.2 l6 l7 l9 l11 (1 : Int32)))
  else
  (fX9_reach xs1 pa).bind fun o5 =>
  (fX9_has o5 pb).bind fun o6 =>
  qX9_doubted_130 pa pb pc_ pd pe (qX9_doubted_52 pa pb pc_ pd pe  fu) xs1 l6 l7 l9 l11 o6))
def qX9_doubted_29 (pa : Int32) (pb : Int32) (pc_ : Int32) (pd : Int32) (pe : Int32)  : Nat → SX9 → Int32 → Int64 → Int64 → Int32 → Option (Int64 × SX9)
  | 0, _, _, _, _, _ => none
  | fu + 1, xs, l6, l7, l9, l11 =>
  (if l6 ≤ l11 then
  qX9_doubted_52 pa pb pc_ pd pe FU xs l6 l7 l9 (0 : Int32)
  else
  ltt ((l9 * (pc_.toInt64))) fun v5 =>
  ltt (l11 + (1 : Int32)) fun v6 =>
  qX9_doubted_29 pa pb pc_ pd pe  fu xs l6 l7 v5 v6)
def qX9_doubted_18 (pa : Int32) (pb : Int32) (pc_ : Int32) (pd : Int32) (pe : Int32)  (xs : SX9) (t0 : Int32) : Option (Int64 × SX9) :=
  qX9_doubted_29 pa pb pc_ pd pe FU xs t0 (0 : Int64) (1 : Int64) (0 : Int32)
def fX9_doubted (xs : SX9) (pa : Int32) (pb : Int32) (pc_ : Int32) (pd : Int32) (pe : Int32) : Option (Int64 × SX9) :=
  (if (6 : Int32) ≤ (m_many xs) then
  qX9_doubted_18 pa pb pc_ pd pe xs (6 : Int32)
  else
  qX9_doubted_18 pa pb pc_ pd pe xs (m_many xs))
set_option maxHeartbeats 4000000 in
set_option maxRecDepth 100000 in
theorem pX9_doubted_129 {p : Program} {l : Launch} {e : Env} {s : State} {m : MethodId} {args : Array Value} {below : List Frame} {meth : Method} {c : Code} {g : GG} {w0 : va_W} {a : Nat → Nat} {i : Nat} {pa : Int32} {pb : Int32} {pc_ : Int32} {pd : Int32} {pe : Int32} {o : (Int64 × SX9)} (X : mX g yX9_doubted cX9_doubted 16 (some .long) p s m args meth c w0)
  {k130 : SX9 → Int32 → Int64 → Int64 → Int32 → Int32 → Option (Int64 × SX9)} (K130 : ∀ (xs : SX9) (l6 : Int32) (l7 : Int64) (l9 : Int64) (l11 : Int32) (t0 : Int32) (H : Heap) (locs : List Loc) (ls : Array Slot), k130 xs l6 l7 l9 l11 t0 = some o → mH g s w0 (wX9 g a i xs) H locs → lv_has ls 16 [(0, .ref (a i)), (1, .int pa), (2, .int pb), (3, .int pc_), (4, .int pd), (5, .int pe), (6, .int l6), (7, .long l7), (9, .long l9), (11, .int l11)] → W p l e (rM 5 117) s m args below meth c H locs 0 0 (mZ g below args s w0 (wX9 g a i o.2) (some (.long o.1))) (F0 m 130 ls [.int t0])) :
  ∀ (xs : SX9) (l6 : Int32) (l7 : Int64) (l9 : Int64) (l11 : Int32) (H : Heap) (locs : List Loc) (ls : Array Slot), qX9_doubted_129 pa pb pc_ pd pe k130 xs l6 l7 l9 l11 = some o → mH g s w0 (wX9 g a i xs) H locs → lv_has ls 16 [(0, .ref (a i)), (1, .int pa), (2, .int pb), (3, .int pc_), (4, .int pd), (5, .int pe), (6, .int l6), (7, .long l7), (9, .long l9), (11, .int l11)] → W p l e (rM 5 117) s m args below meth c H locs 0 0 (mZ g below args s w0 (wX9 g a i o.2) (some (.long o.1))) (F0 m 129 ls []) := by
  have hx := X.1
  have hb := X.2.1
  intro xs l6 l7 l9 l11 H locs ls h hH hl
  unfold qX9_doubted_129 at h
  refine lv_iconst (v := (0 : Int32)) hx hb dX9_doubted_129 (by decide) ?_
  exact K130 xs l6 l7 l9 l11 (0 : Int32) H locs ls h hH (lv_sub hl [0, 1, 2, 3, 4, 5, 6, 7, 8, 9] rfl)
set_option maxHeartbeats 4000000 in
set_option maxRecDepth 100000 in
theorem pX9_doubted_187 {p : Program} {l : Launch} {e : Env} {s : State} {m : MethodId} {args : Array Value} {below : List Frame} {meth : Method} {c : Code} {g : GG} {w0 : va_W} {a : Nat → Nat} {i : Nat} {pa : Int32} {pb : Int32} {pc_ : Int32} {pd : Int32} {pe : Int32} {o : (Int64 × SX9)} (X : mX g yX9_doubted cX9_doubted 16 (some .long) p s m args meth c w0)
  {k52 : SX9 → Int32 → Int64 → Int64 → Int32 → Option (Int64 × SX9)} (K52 : ∀ (xs : SX9) (l6 : Int32) (l7 : Int64) (l9 : Int64) (l11 : Int32) (H : Heap) (locs : List Loc) (ls : Array Slot), k52 xs l6 l7 l9 l11 = some o → mH g s w0 (wX9 g a i xs) H locs → lv_has ls 16 [(0, .ref (a i)), (1, .int pa), (2, .int pb), (3, .int pc_), (4, .int pd), (5, .int pe), (6, .int l6), (7, .long l7), (9, .long l9), (11, .int l11)] → W p l e (rM 5 117) s m args below meth c H locs 0 0 (mZ g below args s w0 (wX9 g a i o.2) (some (.long o.1))) (F0 m 52 ls [])) :
  ∀ (xs : SX9) (l6 : Int32) (l9 : Int64) (l11 : Int32) (t0 : Int64) (t1 : Int64) (H : Heap) (locs : List Loc) (ls : Array Slot), qX9_doubted_187 pa pb pc_ pd pe k52 xs l6 l9 l11 t0 t1 = some o → mH g s w0 (wX9 g a i xs) H locs → lv_has ls 16 [(0, .ref (a i)), (1, .int pa), (2, .int pb), (3, .int pc_), (4, .int pd), (5, .int pe), (6, .int l6), (9, .long l9), (11, .int l11)] → W p l e (rM 5 117) s m args below meth c H locs 0 0 (mZ g below args s w0 (wX9 g a i o.2) (some (.long o.1))) (F0 m 187 ls [.long t1, .long t0]) := by
  have hx := X.1
  have hb := X.2.1
  intro xs l6 l9 l11 t0 t1 H locs ls h hH hl
  unfold qX9_doubted_187 at h
  refine lv_ladd hx hb dX9_doubted_187 ?_
  obtain ⟨v1, ev1, h⟩ := ltt_x h
  refine s_l X (lv' := [(7, .long v1), (0, .ref (a i)), (1, .int pa), (2, .int pb), (3, .int pc_), (4, .int pd), (5, .int pe), (6, .int l6), (9, .long l9), (11, .int l11)]) hl ev1 dX9_doubted_188 (by decide) rfl (fun ls hl => ?_)
  obtain ⟨v2, ev2, h⟩ := ltt_x h
  refine s_inc X (k := 9) (lv' := [(11, .int v2), (7, .long v1), (0, .ref (a i)), (1, .int pa), (2, .int pb), (3, .int pc_), (4, .int pd), (5, .int pe), (6, .int l6), (9, .long l9)]) hl rfl (by rw [ev2]; rfl) dX9_doubted_190 (by decide) rfl (fun ls hl => ?_)
  refine lv_goto (tgt := 52) hx hb dX9_doubted_193 (by decide) ?_
  exact K52 xs l6 v1 l9 v2 H locs ls h hH (lv_sub hl [2, 3, 4, 5, 6, 7, 8, 1, 9, 0] rfl)
set_option maxHeartbeats 4000000 in
set_option maxRecDepth 100000 in
theorem pX9_doubted_165 {p : Program} {l : Launch} {e : Env} {s : State} {m : MethodId} {args : Array Value} {below : List Frame} {meth : Method} {c : Code} {g : GG} {w0 : va_W} {a : Nat → Nat} {i : Nat} {pa : Int32} {pb : Int32} {pc_ : Int32} {pd : Int32} {pe : Int32} {o : (Int64 × SX9)} (X : mX g yX9_doubted cX9_doubted 16 (some .long) p s m args meth c w0)
  {k138 : SX9 → Int32 → Int64 → Int64 → Int32 → Int32 → Int64 → Int32 → Option (Int64 × SX9)} (K138 : ∀ (xs : SX9) (l6 : Int32) (l7 : Int64) (l9 : Int64) (l11 : Int32) (l12 : Int32) (l13 : Int64) (l15 : Int32) (H : Heap) (locs : List Loc) (ls : Array Slot), k138 xs l6 l7 l9 l11 l12 l13 l15 = some o → mH g s w0 (wX9 g a i xs) H locs → lv_has ls 16 [(0, .ref (a i)), (1, .int pa), (2, .int pb), (3, .int pc_), (4, .int pd), (5, .int pe), (6, .int l6), (7, .long l7), (9, .long l9), (11, .int l11), (12, .int l12), (13, .long l13), (15, .int l15)] → W p l e (rM 5 117) s m args below meth c H locs 0 0 (mZ g below args s w0 (wX9 g a i o.2) (some (.long o.1))) (F0 m 138 ls [])) :
  ∀ (xs : SX9) (l6 : Int32) (l7 : Int64) (l9 : Int64) (l11 : Int32) (l12 : Int32) (l15 : Int32) (t0 : Int64) (t1 : Int64) (H : Heap) (locs : List Loc) (ls : Array Slot), qX9_doubted_165 pa pb pc_ pd pe k138 xs l6 l7 l9 l11 l12 l15 t0 t1 = some o → mH g s w0 (wX9 g a i xs) H locs → lv_has ls 16 [(0, .ref (a i)), (1, .int pa), (2, .int pb), (3, .int pc_), (4, .int pd), (5, .int pe), (6, .int l6), (7, .long l7), (9, .long l9), (11, .int l11), (12, .int l12), (15, .int l15)] → W p l e (rM 5 117) s m args below meth c H locs 0 0 (mZ g below args s w0 (wX9 g a i o.2) (some (.long o.1))) (F0 m 165 ls [.long t1, .long t0]) := by
  have hx := X.1
  have hb := X.2.1
  intro xs l6 l7 l9 l11 l12 l15 t0 t1 H locs ls h hH hl
  unfold qX9_doubted_165 at h
  refine lv_lmul hx hb dX9_doubted_165 ?_
  obtain ⟨v3, ev3, h⟩ := ltt_x h
  refine s_l X (lv' := [(13, .long v3), (0, .ref (a i)), (1, .int pa), (2, .int pb), (3, .int pc_), (4, .int pd), (5, .int pe), (6, .int l6), (7, .long l7), (9, .long l9), (11, .int l11), (12, .int l12), (15, .int l15)]) hl ev3 dX9_doubted_166 (by decide) rfl (fun ls hl => ?_)
  obtain ⟨v4, ev4, h⟩ := ltt_x h
  refine s_inc X (k := 12) (lv' := [(15, .int v4), (13, .long v3), (0, .ref (a i)), (1, .int pa), (2, .int pb), (3, .int pc_), (4, .int pd), (5, .int pe), (6, .int l6), (7, .long l7), (9, .long l9), (11, .int l11), (12, .int l12)]) hl rfl (by rw [ev4]; rfl) dX9_doubted_168 (by decide) rfl (fun ls hl => ?_)
  refine lv_goto (tgt := 138) hx hb dX9_doubted_171 (by decide) ?_
  exact K138 xs l6 l7 l9 l11 l12 v3 v4 H locs ls h hH (lv_sub hl [2, 3, 4, 5, 6, 7, 8, 9, 10, 11, 12, 1, 0] rfl)
set_option maxHeartbeats 4000000 in
set_option maxRecDepth 100000 in
theorem pX9_doubted_138 {p : Program} {l : Launch} {e : Env} {s : State} {m : MethodId} {args : Array Value} {below : List Frame} {meth : Method} {c : Code} {g : GG} {w0 : va_W} {a : Nat → Nat} {i : Nat} {pa : Int32} {pb : Int32} {pc_ : Int32} {pd : Int32} {pe : Int32} {o : (Int64 × SX9)} (X : mX g yX9_doubted cX9_doubted 16 (some .long) p s m args meth c w0)
  {k52 : SX9 → Int32 → Int64 → Int64 → Int32 → Option (Int64 × SX9)} (K52 : ∀ (xs : SX9) (l6 : Int32) (l7 : Int64) (l9 : Int64) (l11 : Int32) (H : Heap) (locs : List Loc) (ls : Array Slot), k52 xs l6 l7 l9 l11 = some o → mH g s w0 (wX9 g a i xs) H locs → lv_has ls 16 [(0, .ref (a i)), (1, .int pa), (2, .int pb), (3, .int pc_), (4, .int pd), (5, .int pe), (6, .int l6), (7, .long l7), (9, .long l9), (11, .int l11)] → W p l e (rM 5 117) s m args below meth c H locs 0 0 (mZ g below args s w0 (wX9 g a i o.2) (some (.long o.1))) (F0 m 52 ls [])) :
  ∀ (fu : Nat) (xs : SX9) (l6 : Int32) (l7 : Int64) (l9 : Int64) (l11 : Int32) (l12 : Int32) (l13 : Int64) (l15 : Int32) (H : Heap) (locs : List Loc) (ls : Array Slot), qX9_doubted_138 pa pb pc_ pd pe k52 fu xs l6 l7 l9 l11 l12 l13 l15 = some o → mH g s w0 (wX9 g a i xs) H locs → lv_has ls 16 [(0, .ref (a i)), (1, .int pa), (2, .int pb), (3, .int pc_), (4, .int pd), (5, .int pe), (6, .int l6), (7, .long l7), (9, .long l9), (11, .int l11), (12, .int l12), (13, .long l13), (15, .int l15)] → W p l e (rM 5 117) s m args below meth c H locs 0 0 (mZ g below args s w0 (wX9 g a i o.2) (some (.long o.1))) (F0 m 138 ls []) := by
  have hx := X.1
  have hb := X.2.1
  intro fu
  induction fu with
  | zero =>
    intro xs l6 l7 l9 l11 l12 l13 l15 H locs ls h
    unfold qX9_doubted_138 at h
    cases h
  | succ fu ih =>
    intro xs l6 l7 l9 l11 l12 l13 l15 H locs ls h hH hl
    unfold qX9_doubted_138 at h
    refine lv_iload hx hb dX9_doubted_138 (lv_at hl 12 rfl) ?_
    refine lv_iload hx hb dX9_doubted_140 (lv_at hl 6 rfl) ?_
    refine lv_icmp_ge (tgt := 174) hx hb dX9_doubted_142 (by decide) (fun c6 => ?_) (fun c6 => ?_)
    · have h := it_x h c6
      refine lv_lload hx hb dX9_doubted_174 (lv_at hl 7 rfl) ?_
      refine lv_iload hx hb dX9_doubted_176 (lv_at hl 10 rfl) ?_
      refine lv_if_eq (tgt := 186) hx hb dX9_doubted_178 (by decide) (fun c7 => ?_) (fun c7 => ?_)
      · have h := it_x h c7
        refine lv_lconst (v := (0 : Int64)) hx hb dX9_doubted_186 (by decide) ?_
        exact pX9_doubted_187 X K52 xs l6 l9 l11 l7 (0 : Int64) H locs ls h hH (lv_sub hl [0, 1, 2, 3, 4, 5, 6, 8, 9] rfl)
      · have h := ie_x h c7
        refine lv_lload hx hb dX9_doubted_181 (lv_at hl 11 rfl) ?_
        refine lv_goto (tgt := 187) hx hb dX9_doubted_183 (by decide) ?_
        exact pX9_doubted_187 X K52 xs l6 l9 l11 l7 l13 H locs ls h hH (lv_sub hl [0, 1, 2, 3, 4, 5, 6, 8, 9] rfl)
    · have h := ie_x h c6
      refine lv_lload hx hb dX9_doubted_145 (lv_at hl 11 rfl) ?_
      refine lv_iload hx hb dX9_doubted_147 (lv_at hl 9 rfl) ?_
      refine lv_iload hx hb dX9_doubted_149 (lv_at hl 12 rfl) ?_
      obtain ⟨o4, ho4, h⟩ := bd_x h
      refine r_S X hH (ws1 := (wX9 g a i xs)) (As := [.int l11, .int l15]) (rest := [.long l13]) (st1 := [.int o4, .long l13]) (uX9_has  ho4) kX9_has mX9_226 sX9_has zX9 okX9_has ⟨Nat.le_of_ble_eq_true rfl, Nat.le_of_ble_eq_true rfl⟩ rfl rfl [] rfl rfl rfl (putl_self _ _ rfl) rfl hl.1 rfl (Nat.le_of_ble_eq_true rfl) ⟨Nat.le_refl 0, Nat.le_refl 0⟩ rfl dX9_doubted_151 (fun H locs hH => ?_)
      refine lv_if_eq (tgt := 164) hx hb dX9_doubted_154 (by decide) (fun c8 => ?_) (fun c8 => ?_)
      · have h := it_x h c8
        refine lv_lconst (v := (1 : Int64)) hx hb dX9_doubted_164 (by decide) ?_
        exact pX9_doubted_165 X ih xs l6 l7 l9 l11 l12 l15 l13 (1 : Int64) H locs ls h hH (lv_sub hl [0, 1, 2, 3, 4, 5, 6, 7, 8, 9, 10, 12] rfl)
      · have h := ie_x h c8
        refine lv_iload_n hx hb dX9_doubted_157 rfl (lv_at hl 3 rfl) ?_
        refine lv_iconst (v := (1 : Int32)) hx hb dX9_doubted_158 (by decide) ?_
        refine lv_isub hx hb dX9_doubted_159 ?_
        refine lv_i2l hx hb dX9_doubted_160 rfl ?_
        refine lv_goto (tgt := 165) hx hb dX9_doubted_161 (by decide) ?_
        exact pX9_doubted_165 X ih xs l6 l7 l9 l11 l12 l15 l13 ((pc_ - (1 : Int32)).toInt64) H locs ls h hH (lv_sub hl [0, 1, 2, 3, 4, 5, 6, 7, 8, 9, 10, 12] rfl)
set_option maxHeartbeats 4000000 in
set_option maxRecDepth 100000 in
theorem pX9_doubted_130 {p : Program} {l : Launch} {e : Env} {s : State} {m : MethodId} {args : Array Value} {below : List Frame} {meth : Method} {c : Code} {g : GG} {w0 : va_W} {a : Nat → Nat} {i : Nat} {pa : Int32} {pb : Int32} {pc_ : Int32} {pd : Int32} {pe : Int32} {o : (Int64 × SX9)} (X : mX g yX9_doubted cX9_doubted 16 (some .long) p s m args meth c w0)
  {k52 : SX9 → Int32 → Int64 → Int64 → Int32 → Option (Int64 × SX9)} (K52 : ∀ (xs : SX9) (l6 : Int32) (l7 : Int64) (l9 : Int64) (l11 : Int32) (H : Heap) (locs : List Loc) (ls : Array Slot), k52 xs l6 l7 l9 l11 = some o → mH g s w0 (wX9 g a i xs) H locs → lv_has ls 16 [(0, .ref (a i)), (1, .int pa), (2, .int pb), (3, .int pc_), (4, .int pd), (5, .int pe), (6, .int l6), (7, .long l7), (9, .long l9), (11, .int l11)] → W p l e (rM 5 117) s m args below meth c H locs 0 0 (mZ g below args s w0 (wX9 g a i o.2) (some (.long o.1))) (F0 m 52 ls [])) :
  ∀ (xs : SX9) (l6 : Int32) (l7 : Int64) (l9 : Int64) (l11 : Int32) (t0 : Int32) (H : Heap) (locs : List Loc) (ls : Array Slot), qX9_doubted_130 pa pb pc_ pd pe k52 xs l6 l7 l9 l11 t0 = some o → mH g s w0 (wX9 g a i xs) H locs → lv_has ls 16 [(0, .ref (a i)), (1, .int pa), (2, .int pb), (3, .int pc_), (4, .int pd), (5, .int pe), (6, .int l6), (7, .long l7), (9, .long l9), (11, .int l11)] → W p l e (rM 5 117) s m args below meth c H locs 0 0 (mZ g below args s w0 (wX9 g a i o.2) (some (.long o.1))) (F0 m 130 ls [.int t0]) := by
  have hx := X.1
  have hb := X.2.1
  intro xs l6 l7 l9 l11 t0 H locs ls h hH hl
  unfold qX9_doubted_130 at h
  refine s_i X (lv' := [(12, .int t0), (0, .ref (a i)), (1, .int pa), (2, .int pb), (3, .int pc_), (4, .int pd), (5, .int pe), (6, .int l6), (7, .long l7), (9, .long l9), (11, .int l11)]) hl rfl dX9_doubted_130 (by decide) rfl (fun ls hl => ?_)
  refine lv_lconst (v := (1 : Int64)) hx hb dX9_doubted_132 (by decide) ?_
  refine s_l X (lv' := [(13, .long (1 : Int64)), (12, .int t0), (0, .ref (a i)), (1, .int pa), (2, .int pb), (3, .int pc_), (4, .int pd), (5, .int pe), (6, .int l6), (7, .long l7), (9, .long l9), (11, .int l11)]) hl rfl dX9_doubted_133 (by decide) rfl (fun ls hl => ?_)
  refine lv_iconst (v := (0 : Int32)) hx hb dX9_doubted_135 (by decide) ?_
  refine s_i X (lv' := [(15, .int (0 : Int32)), (13, .long (1 : Int64)), (12, .int t0), (0, .ref (a i)), (1, .int pa), (2, .int pb), (3, .int pc_), (4, .int pd), (5, .int pe), (6, .int l6), (7, .long l7), (9, .long l9), (11, .int l11)]) hl rfl dX9_doubted_136 (by decide) rfl (fun ls hl => ?_)
  exact pX9_doubted_138 X K52 FU xs l6 l7 l9 l11 t0 (1 : Int64) (0 : Int32) H locs ls h hH (lv_sub hl [3, 4, 5, 6, 7, 8, 9, 10, 11, 12, 2, 1, 0] rfl)
set_option maxHeartbeats 4000000 in
set_option maxRecDepth 100000 in
theorem pX9_doubted_52 {p : Program} {l : Launch} {e : Env} {s : State} {m : MethodId} {args : Array Value} {below : List Frame} {meth : Method} {c : Code} {g : GG} {w0 : va_W} {a : Nat → Nat} {i : Nat} {pa : Int32} {pb : Int32} {pc_ : Int32} {pd : Int32} {pe : Int32} {o : (Int64 × SX9)} (X : mX g yX9_doubted cX9_doubted 16 (some .long) p s m args meth c w0) :
  ∀ (fu : Nat) (xs : SX9) (l6 : Int32) (l7 : Int64) (l9 : Int64) (l11 : Int32) (H : Heap) (locs : List Loc) (ls : Array Slot), qX9_doubted_52 pa pb pc_ pd pe fu xs l6 l7 l9 l11 = some o → mH g s w0 (wX9 g a i xs) H locs → lv_has ls 16 [(0, .ref (a i)), (1, .int pa), (2, .int pb), (3, .int pc_), (4, .int pd), (5, .int pe), (6, .int l6), (7, .long l7), (9, .long l9), (11, .int l11)] → W p l e (rM 5 117) s m args below meth c H locs 0 0 (mZ g below args s w0 (wX9 g a i o.2) (some (.long o.1))) (F0 m 52 ls []) := by
  have hx := X.1
  have hb := X.2.1
  intro fu
  induction fu with
  | zero =>
    intro xs l6 l7 l9 l11 H locs ls h
    unfold qX9_doubted_52 at h
    cases h
  | succ fu ih =>
    intro xs l6 l7 l9 l11 H locs ls h hH hl
    unfold qX9_doubted_52 at h
    refine lv_iload hx hb dX9_doubted_52 (lv_at hl 9 rfl) ?_
    refine lv_iconst (v := (1 : Int32)) hx hb dX9_doubted_54 (by decide) ?_
    refine lv_iload hx hb dX9_doubted_55 (lv_at hl 6 rfl) ?_
    refine lv_ishl hx hb dX9_doubted_57 ?_
    refine lv_icmp_ge (tgt := 196) hx hb dX9_doubted_58 (by decide) (fun c3 => ?_) (fun c3 => ?_)
    · have h := it_x h c3
      refine lv_lload hx hb dX9_doubted_196 (lv_at hl 7 rfl) ?_
      refine lv_lload hx hb dX9_doubted_198 (lv_at hl 8 rfl) ?_
      refine lv_iload hx hb dX9_doubted_200 (lv_at hl 5 rfl) ?_
      obtain ⟨o1, ho1, h⟩ := bd_x h
      refine r_S X hH (ws1 := (wX9 g a i xs)) (As := [.long l7, .long l9, .int pe]) (rest := []) (st1 := [.long o1]) (uX9_partOf  ho1) kX9_partOf mX9_279 sX9_partOf zX9 okX9_partOf ⟨Nat.le_of_ble_eq_true rfl, Nat.le_of_ble_eq_true rfl⟩ rfl rfl [] rfl rfl rfl (putl_self _ _ rfl) rfl hl.1 rfl (Nat.le_of_ble_eq_true rfl) ⟨Nat.le_refl 0, Nat.le_refl 0⟩ rfl dX9_doubted_202 (fun H locs hH => ?_)
      cases h
      exact e_l X hH dX9_doubted_205
    · have h := ie_x h c3
      refine lv_aload_n hx hb dX9_doubted_61 rfl (lv_at hl 0 rfl) ?_
      obtain ⟨o2, ho2, h⟩ := bd_x h
      refine r_V X hH (ws1 := (wX9 g a i o2)) (As := []) (rest := []) (st1 := []) (uX9_allThere (a := a) (i := i) ho2) kX9_allThere mX9_230 iX9_allThere vX9_allThere zX9 okX9_allThere ⟨Nat.le_of_ble_eq_true rfl, Nat.le_of_ble_eq_true rfl⟩ rfl rfl (q0 := 0) rfl rfl [0, 1, 2, 3, 4, 5, 6, 7, 8, 9, 10, 11, 12, 13, 14, 15, 16, 17, 18, 19, 20, 21, 22, 23, 24, 25, 26, 27, 28, 29, 30, 31, 32, 33] rfl rfl rfl rfl rfl hl.1 rfl (Nat.le_of_ble_eq_true rfl) ⟨Nat.le_refl 0, Nat.le_refl 0⟩ rfl dX9_doubted_62 (fun H locs hH => ?_)
      refine lv_aload_n hx hb dX9_doubted_65 rfl (lv_at hl 0 rfl) ?_
      refine lv_aload_n hx hb dX9_doubted_66 rfl (lv_at hl 0 rfl) ?_
      refine f_get X hH 0 rfl rfl 19 (by decide) inX9 fX9_223 rfl dX9_doubted_67 ?_
      refine lv_iload hx hb dX9_doubted_70 (lv_at hl 6 rfl) ?_
      refine lv_ishr hx hb dX9_doubted_72 ?_
      refine lv_iload hx hb dX9_doubted_73 (lv_at hl 6 rfl) ?_
      refine lv_ishl hx hb dX9_doubted_75 ?_
      refine lv_iload hx hb dX9_doubted_76 (lv_at hl 9 rfl) ?_
      refine lv_ior hx hb dX9_doubted_78 ?_
      obtain ⟨xs1, exs1, h⟩ := ltt_x h
      refine f_put X hH (ws1 := (wX9 g a i xs1)) 0 rfl rfl 19 (by decide) inX9 tyX9 tyX9_ok nmX9 fX9_223 rfl rfl rfl (Nat.le_of_ble_eq_true rfl) (by rw [exs1]; rfl) dX9_doubted_79 (fun H locs hH => ?_)
      refine lv_iload hx hb dX9_doubted_82 (lv_at hl 4 rfl) ?_
      refine lv_if_ge (tgt := 99) hx hb dX9_doubted_84 (by decide) (fun c4 => ?_) (fun c4 => ?_)
      · have h := it_x h c4
        refine lv_aload_n hx hb dX9_doubted_99 rfl (lv_at hl 0 rfl) ?_
        refine lv_iload_n hx hb dX9_doubted_100 rfl (lv_at hl 1 rfl) ?_
        refine lv_iload_n hx hb dX9_doubted_101 rfl (lv_at hl 2 rfl) ?_
        refine lv_iconst (v := (0 : Int32)) hx hb dX9_doubted_102 (by decide) ?_
        obtain ⟨o3, ho3, h⟩ := bd_x h
        refine r_V X hH (ws1 := (wX9 g a i o3.2)) (As := [.int pa, .int pb, .int (0 : Int32)]) (rest := []) (st1 := [.int o3.1]) (uX9_findTime (a := a) (i := i) ho3) kX9_findTime mX9_275 iX9_findTime vX9_findTime zX9 okX9_findTime ⟨Nat.le_of_ble_eq_true rfl, Nat.le_of_ble_eq_true rfl⟩ rfl rfl (q0 := 0) rfl rfl [0, 1, 2, 3, 4, 5, 6, 7, 8, 9, 10, 11, 12, 13, 14, 15, 16, 17, 18, 19, 20, 21, 22, 23, 24, 25, 26, 27, 28, 29, 30, 31, 32, 33] rfl rfl rfl rfl rfl hl.1 rfl (Nat.le_of_ble_eq_true rfl) ⟨Nat.le_refl 0, Nat.le_refl 0⟩ rfl dX9_doubted_103 (fun H locs hH => ?_)
        refine lv_if_eq (tgt := 129) hx hb dX9_doubted_106 (by decide) (fun c5 => ?_) (fun c5 => ?_)
        · have h := it_x h c5
          exact pX9_doubted_129 X (pX9_doubted_130 X ih) o3.2 l6 l7 l9 l11 H locs ls h hH (lv_sub hl [0, 1, 2, 3, 4, 5, 6, 7, 8, 9] rfl)
        · have h := ie_x h c5
          refine lv_aload_n hx hb dX9_doubted_109 rfl (lv_at hl 0 rfl) ?_
          refine f_get X hH 0 rfl rfl 26 (by decide) inX9 fX9_248 rfl dX9_doubted_110 ?_
          refine lv_iload hx hb dX9_doubted_113 (lv_at hl 4 rfl) ?_
          refine lv_i2l hx hb dX9_doubted_115 rfl ?_
          refine lv_aload_n hx hb dX9_doubted_116 rfl (lv_at hl 0 rfl) ?_
          refine f_get X hH 0 rfl rfl 27 (by decide) inX9 fX9_252 rfl dX9_doubted_117 ?_
          refine lv_lmul hx hb dX9_doubted_120 ?_
          refine W.lcmp hx hb dX9_doubted_121 ?_
          refine lv_if_gt (tgt := 129) hx hb dX9_doubted_122 (by decide) (fun c9 => ?_) (fun c9 => ?_)
          · have h := it_x h ((lg_cmp_gt (m_up o3.2) ((pd.toInt64) * (m_down o3.2))).mp c9)
            exact pX9_doubted_129 X (pX9_doubted_130 X ih) o3.2 l6 l7 l9 l11 H locs ls h hH (lv_sub hl [0, 1, 2, 3, 4, 5, 6, 7, 8, 9] rfl)
          · have h := ie_x h (mt (lg_cmp_gt (m_up o3.2) ((pd.toInt64) * (m_down o3.2))).mpr c9)
            refine lv_iconst (v := (1 : Int32)) hx hb dX9_doubted_125 (by decide) ?_
            refine lv_goto (tgt := 130) hx hb dX9_doubted_126 (by decide) ?_
            exact pX9_doubted_130 X ih o3.2 l6 l7 l9 l11 (1 : Int32) H locs ls h hH (lv_sub hl [0, 1, 2, 3, 4, 5, 6, 7, 8, 9] rfl)
      · have h := ie_x h c4
        refine lv_aload_n hx hb dX9_doubted_87 rfl (lv_at hl 0 rfl) ?_
        refine lv_iload_n hx hb dX9_doubted_88 rfl (lv_at hl 1 rfl) ?_
        obtain ⟨o5, ho5, h⟩ := bd_x h
        refine r_V X hH (ws1 := (wX9 g a i xs1)) (As := [.int pa]) (rest := []) (st1 := [.int o5]) (uX9_reach (a := a) (i := i) ho5) kX9_reach mX9_233 iX9_reach vX9_reach zX9 okX9_reach ⟨Nat.le_of_ble_eq_true rfl, Nat.le_of_ble_eq_true rfl⟩ rfl rfl (q0 := 0) rfl rfl [0, 1, 2, 3, 4, 5, 6, 7, 8, 9, 10, 11, 12, 13, 14, 15, 16, 17, 18, 19, 20, 21, 22, 23, 24, 25, 26, 27, 28, 29, 30, 31, 32, 33] rfl rfl rfl (putl_self _ _ rfl) rfl hl.1 rfl (Nat.le_of_ble_eq_true rfl) ⟨Nat.le_refl 0, Nat.le_refl 0⟩ rfl dX9_doubted_89 (fun H locs hH => ?_)
        refine lv_iload_n hx hb dX9_doubted_92 rfl (lv_at hl 2 rfl) ?_
        obtain ⟨o6, ho6, h⟩ := bd_x h
        refine r_S X hH (ws1 := (wX9 g a i xs1)) (As := [.int o5, .int pb]) (rest := []) (st1 := [.int o6]) (uX9_has  ho6) kX9_has mX9_226 sX9_has zX9 okX9_has ⟨Nat.le_of_ble_eq_true rfl, Nat.le_of_ble_eq_true rfl⟩ rfl rfl [] rfl rfl rfl (putl_self _ _ rfl) rfl hl.1 rfl (Nat.le_of_ble_eq_true rfl) ⟨Nat.le_refl 0, Nat.le_refl 0⟩ rfl dX9_doubted_93 (fun H locs hH => ?_)
        refine lv_goto (tgt := 130) hx hb dX9_doubted_96 (by decide) ?_
        exact pX9_doubted_130 X ih xs1 l6 l7 l9 l11 o6 H locs ls h hH (lv_sub hl [0, 1, 2, 3, 4, 5, 6, 7, 8, 9] rfl)
set_option maxHeartbeats 4000000 in
set_option maxRecDepth 100000 in
theorem pX9_doubted_29 {p : Program} {l : Launch} {e : Env} {s : State} {m : MethodId} {args : Array Value} {below : List Frame} {meth : Method} {c : Code} {g : GG} {w0 : va_W} {a : Nat → Nat} {i : Nat} {pa : Int32} {pb : Int32} {pc_ : Int32} {pd : Int32} {pe : Int32} {o : (Int64 × SX9)} (X : mX g yX9_doubted cX9_doubted 16 (some .long) p s m args meth c w0) :
  ∀ (fu : Nat) (xs : SX9) (l6 : Int32) (l7 : Int64) (l9 : Int64) (l11 : Int32) (H : Heap) (locs : List Loc) (ls : Array Slot), qX9_doubted_29 pa pb pc_ pd pe fu xs l6 l7 l9 l11 = some o → mH g s w0 (wX9 g a i xs) H locs → lv_has ls 16 [(0, .ref (a i)), (1, .int pa), (2, .int pb), (3, .int pc_), (4, .int pd), (5, .int pe), (6, .int l6), (7, .long l7), (9, .long l9), (11, .int l11)] → W p l e (rM 5 117) s m args below meth c H locs 0 0 (mZ g below args s w0 (wX9 g a i o.2) (some (.long o.1))) (F0 m 29 ls []) := by
  have hx := X.1
  have hb := X.2.1
  intro fu
  induction fu with
  | zero =>
    intro xs l6 l7 l9 l11 H locs ls h
    unfold qX9_doubted_29 at h
    cases h
  | succ fu ih =>
    intro xs l6 l7 l9 l11 H locs ls h hH hl
    unfold qX9_doubted_29 at h
    refine lv_iload hx hb dX9_doubted_29 (lv_at hl 9 rfl) ?_
    refine lv_iload hx hb dX9_doubted_31 (lv_at hl 6 rfl) ?_
    refine lv_icmp_ge (tgt := 49) hx hb dX9_doubted_33 (by decide) (fun c2 => ?_) (fun c2 => ?_)
    · have h := it_x h c2
      refine lv_iconst (v := (0 : Int32)) hx hb dX9_doubted_49 (by decide) ?_
      refine s_i X (lv' := [(11, .int (0 : Int32)), (0, .ref (a i)), (1, .int pa), (2, .int pb), (3, .int pc_), (4, .int pd), (5, .int pe), (6, .int l6), (7, .long l7), (9, .long l9)]) hl rfl dX9_doubted_50 (by decide) rfl (fun ls hl => ?_)
      exact pX9_doubted_52 X FU xs l6 l7 l9 (0 : Int32) H locs ls h hH (lv_sub hl [1, 2, 3, 4, 5, 6, 7, 8, 9, 0] rfl)
    · have h := ie_x h c2
      refine lv_lload hx hb dX9_doubted_36 (lv_at hl 8 rfl) ?_
      refine lv_iload_n hx hb dX9_doubted_38 rfl (lv_at hl 3 rfl) ?_
      refine lv_i2l hx hb dX9_doubted_39 rfl ?_
      refine lv_lmul hx hb dX9_doubted_40 ?_
      obtain ⟨v5, ev5, h⟩ := ltt_x h
      refine s_l X (lv' := [(9, .long v5), (0, .ref (a i)), (1, .int pa), (2, .int pb), (3, .int pc_), (4, .int pd), (5, .int pe), (6, .int l6), (7, .long l7), (11, .int l11)]) hl ev5 dX9_doubted_41 (by decide) rfl (fun ls hl => ?_)
      obtain ⟨v6, ev6, h⟩ := ltt_x h
      refine s_inc X (k := 9) (lv' := [(11, .int v6), (9, .long v5), (0, .ref (a i)), (1, .int pa), (2, .int pb), (3, .int pc_), (4, .int pd), (5, .int pe), (6, .int l6), (7, .long l7)]) hl rfl (by rw [ev6]; rfl) dX9_doubted_43 (by decide) rfl (fun ls hl => ?_)
      refine lv_goto (tgt := 29) hx hb dX9_doubted_46 (by decide) ?_
      exact ih xs l6 l7 v5 v6 H locs ls h hH (lv_sub hl [2, 3, 4, 5, 6, 7, 8, 9, 1, 0] rfl)
set_option maxHeartbeats 4000000 in
set_option maxRecDepth 100000 in
theorem pX9_doubted_18 {p : Program} {l : Launch} {e : Env} {s : State} {m : MethodId} {args : Array Value} {below : List Frame} {meth : Method} {c : Code} {g : GG} {w0 : va_W} {a : Nat → Nat} {i : Nat} {pa : Int32} {pb : Int32} {pc_ : Int32} {pd : Int32} {pe : Int32} {o : (Int64 × SX9)} (X : mX g yX9_doubted cX9_doubted 16 (some .long) p s m args meth c w0) :
  ∀ (xs : SX9) (t0 : Int32) (H : Heap) (locs : List Loc) (ls : Array Slot), qX9_doubted_18 pa pb pc_ pd pe xs t0 = some o → mH g s w0 (wX9 g a i xs) H locs → lv_has ls 16 [(0, .ref (a i)), (1, .int pa), (2, .int pb), (3, .int pc_), (4, .int pd), (5, .int pe)] → W p l e (rM 5 117) s m args below meth c H locs 0 0 (mZ g below args s w0 (wX9 g a i o.2) (some (.long o.1))) (F0 m 18 ls [.int t0]) := by
  have hx := X.1
  have hb := X.2.1
  intro xs t0 H locs ls h hH hl
  unfold qX9_doubted_18 at h
  refine s_i X (lv' := [(6, .int t0), (0, .ref (a i)), (1, .int pa), (2, .int pb), (3, .int pc_), (4, .int pd), (5, .int pe)]) hl rfl dX9_doubted_18 (by decide) rfl (fun ls hl => ?_)
  refine lv_lconst (v := (0 : Int64)) hx hb dX9_doubted_20 (by decide) ?_
  refine s_l X (lv' := [(7, .long (0 : Int64)), (6, .int t0), (0, .ref (a i)), (1, .int pa), (2, .int pb), (3, .int pc_), (4, .int pd), (5, .int pe)]) hl rfl dX9_doubted_21 (by decide) rfl (fun ls hl => ?_)
  refine lv_lconst (v := (1 : Int64)) hx hb dX9_doubted_23 (by decide) ?_
  refine s_l X (lv' := [(9, .long (1 : Int64)), (7, .long (0 : Int64)), (6, .int t0), (0, .ref (a i)), (1, .int pa), (2, .int pb), (3, .int pc_), (4, .int pd), (5, .int pe)]) hl rfl dX9_doubted_24 (by decide) rfl (fun ls hl => ?_)
  refine lv_iconst (v := (0 : Int32)) hx hb dX9_doubted_26 (by decide) ?_
  refine s_i X (lv' := [(11, .int (0 : Int32)), (9, .long (1 : Int64)), (7, .long (0 : Int64)), (6, .int t0), (0, .ref (a i)), (1, .int pa), (2, .int pb), (3, .int pc_), (4, .int pd), (5, .int pe)]) hl rfl dX9_doubted_27 (by decide) rfl (fun ls hl => ?_)
  exact pX9_doubted_29 X FU xs t0 (0 : Int64) (1 : Int64) (0 : Int32) H locs ls h hH (lv_sub hl [4, 5, 6, 7, 8, 9, 3, 2, 1, 0] rfl)
set_option maxHeartbeats 4000000 in
set_option maxRecDepth 100000 in
theorem uX9_doubted {l : Launch} {g : GG} {a : Nat → Nat} {i : Nat} {xs : SX9} {pa : Int32} {pb : Int32} {pc_ : Int32} {pd : Int32} {pe : Int32} {o : (Int64 × SX9)} (h : fX9_doubted xs pa pb pc_ pd pe = some o) : mC l g yX9_doubted cX9_doubted 16 (some .long) (rM 5 117) [.ref (a i), .int pa, .int pb, .int pc_, .int pd, .int pe] (wX9 g a i xs) (wX9 g a i o.2) (some (.long o.1)) := by
  refine mC.ofW (by decide) (fun p e s m below meth c X hH ls _ hl => ?_) (Nat.le_of_ble_eq_true rfl)
  have hx := X.1
  have hb := X.2.1
  have hl : lv_has ls 16 [(0, .ref (a i)), (1, .int pa), (2, .int pb), (3, .int pc_), (4, .int pd), (5, .int pe)] := hl
  unfold fX9_doubted at h
  suffices HH : ∀ (H : Heap) (locs : List Loc), mH g s (wX9 g a i xs) (wX9 g a i xs) H locs → W p l e (rM 5 117) s m _ below meth c H locs 0 0 (mZ g below _ s (wX9 g a i xs) (wX9 g a i o.2) (some (.long o.1))) (F0 m 0 ls []) from HH _ _ hH
  clear hH
  intro H locs hH
  refine lv_aload_n hx hb dX9_doubted_0 rfl (lv_at hl 0 rfl) ?_
  refine f_get X hH 0 rfl rfl 1 (by decide) inX9 fX9_120 rfl dX9_doubted_1 ?_
  refine lv_bipush (v := (6 : Int32)) hx hb dX9_doubted_4 (by decide) ?_
  refine lv_icmp_ge (tgt := 16) hx hb dX9_doubted_6 (by decide) (fun c1 => ?_) (fun c1 => ?_)
  · have h := it_x h c1
    refine lv_bipush (v := (6 : Int32)) hx hb dX9_doubted_16 (by decide) ?_
    exact pX9_doubted_18 X  xs (6 : Int32) H locs ls h hH (lv_sub hl [0, 1, 2, 3, 4, 5] rfl)
  · have h := ie_x h c1
    refine lv_aload_n hx hb dX9_doubted_9 rfl (lv_at hl 0 rfl) ?_
    refine f_get X hH 0 rfl rfl 1 (by decide) inX9 fX9_120 rfl dX9_doubted_10 ?_
    refine lv_goto (tgt := 18) hx hb dX9_doubted_13 (by decide) ?_
    exact pX9_doubted_18 X  xs (m_many xs) H locs ls h hH (lv_sub hl [0, 1, 2, 3, 4, 5] rfl)

def fX9_sure (xs : SX9) (pa : Int32) (pb : Int32) (pc_ : Int32) (pd : Int32) : Option (Int64 × SX9) :=
  (fX9_notDoubt xs pa pb pc_ (0 : Int32) pd).bind fun o1 =>
  (if o1 = (0 : Int32) then
  (fX9_doubted xs pa pb pc_ (-1 : Int32) pd).bind fun o2 =>
  some (o2.1, o2.2)
  else
  (fX9_far xs o1).bind fun o3 =>
  some (o3.1, o3.2))
set_option maxHeartbeats 4000000 in
set_option maxRecDepth 100000 in
theorem uX9_sure {l : Launch} {g : GG} {a : Nat → Nat} {i : Nat} {xs : SX9} {pa : Int32} {pb : Int32} {pc_ : Int32} {pd : Int32} {o : (Int64 × SX9)} (h : fX9_sure xs pa pb pc_ pd = some o) : mC l g yX9_sure cX9_sure 6 (some .long) (rM 6 152) [.ref (a i), .int pa, .int pb, .int pc_, .int pd] (wX9 g a i xs) (wX9 g a i o.2) (some (.long o.1)) := by
  refine mC.ofW (by decide) (fun p e s m below meth c X hH ls _ hl => ?_) (Nat.le_of_ble_eq_true rfl)
  have hx := X.1
  have hb := X.2.1
  have hl : lv_has ls 6 [(0, .ref (a i)), (1, .int pa), (2, .int pb), (3, .int pc_), (4, .int pd)] := hl
  unfold fX9_sure at h
  suffices HH : ∀ (H : Heap) (locs : List Loc), mH g s (wX9 g a i xs) (wX9 g a i xs) H locs → W p l e (rM 6 152) s m _ below meth c H locs 0 0 (mZ g below _ s (wX9 g a i xs) (wX9 g a i o.2) (some (.long o.1))) (F0 m 0 ls []) from HH _ _ hH
  clear hH
  intro H locs hH
  refine lv_aload_n hx hb dX9_sure_0 rfl (lv_at hl 0 rfl) ?_
  refine lv_iload_n hx hb dX9_sure_1 rfl (lv_at hl 1 rfl) ?_
  refine lv_iload_n hx hb dX9_sure_2 rfl (lv_at hl 2 rfl) ?_
  refine lv_iload_n hx hb dX9_sure_3 rfl (lv_at hl 3 rfl) ?_
  refine lv_iconst (v := (0 : Int32)) hx hb dX9_sure_4 (by decide) ?_
  refine lv_iload hx hb dX9_sure_5 (lv_at hl 4 rfl) ?_
  obtain ⟨o1, ho1, h⟩ := bd_x h
  refine r_V X hH (ws1 := (wX9 g a i xs)) (As := [.int pa, .int pb, .int pc_, .int (0 : Int32), .int pd]) (rest := []) (st1 := [.int o1]) (uX9_notDoubt (a := a) (i := i) ho1) kX9_notDoubt mX9_310 iX9_notDoubt vX9_notDoubt zX9 okX9_notDoubt ⟨Nat.le_of_ble_eq_true rfl, Nat.le_of_ble_eq_true rfl⟩ rfl rfl (q0 := 0) rfl rfl [0, 1, 2, 3, 4, 5, 6, 7, 8, 9, 10, 11, 12, 13, 14, 15, 16, 17, 18, 19, 20, 21, 22, 23, 24, 25, 26, 27, 28, 29, 30, 31, 32, 33] rfl rfl rfl (putl_self _ _ rfl) rfl hl.1 rfl (Nat.le_of_ble_eq_true rfl) ⟨Nat.le_refl 0, Nat.le_refl 0⟩ rfl dX9_sure_7 (fun H locs hH => ?_)
  refine s_i X (lv' := [(5, .int o1), (0, .ref (a i)), (1, .int pa), (2, .int pb), (3, .int pc_), (4, .int pd)]) hl rfl dX9_sure_10 (by decide) rfl (fun ls hl => ?_)
  refine lv_iload hx hb dX9_sure_12 (lv_at hl 0 rfl) ?_
  refine lv_if_eq (tgt := 26) hx hb dX9_sure_14 (by decide) (fun c1 => ?_) (fun c1 => ?_)
  · have h := it_x h c1
    refine lv_aload_n hx hb dX9_sure_26 rfl (lv_at hl 1 rfl) ?_
    refine lv_iload_n hx hb dX9_sure_27 rfl (lv_at hl 2 rfl) ?_
    refine lv_iload_n hx hb dX9_sure_28 rfl (lv_at hl 3 rfl) ?_
    refine lv_iload_n hx hb dX9_sure_29 rfl (lv_at hl 4 rfl) ?_
    refine lv_iconst (v := (-1 : Int32)) hx hb dX9_sure_30 (by decide) ?_
    refine lv_iload hx hb dX9_sure_31 (lv_at hl 5 rfl) ?_
    obtain ⟨o2, ho2, h⟩ := bd_x h
    refine r_V X hH (ws1 := (wX9 g a i o2.2)) (As := [.int pa, .int pb, .int pc_, .int (-1 : Int32), .int pd]) (rest := []) (st1 := [.long o2.1]) (uX9_doubted (a := a) (i := i) ho2) kX9_doubted mX9_314 iX9_doubted vX9_doubted zX9 okX9_doubted ⟨Nat.le_of_ble_eq_true rfl, Nat.le_of_ble_eq_true rfl⟩ rfl rfl (q0 := 0) rfl rfl [0, 1, 2, 3, 4, 5, 6, 7, 8, 9, 10, 11, 12, 13, 14, 15, 16, 17, 18, 19, 20, 21, 22, 23, 24, 25, 26, 27, 28, 29, 30, 31, 32, 33] rfl rfl rfl rfl rfl hl.1 rfl (Nat.le_of_ble_eq_true rfl) ⟨Nat.le_refl 0, Nat.le_refl 0⟩ rfl dX9_sure_33 (fun H locs hH => ?_)
    cases h
    exact e_l X hH dX9_sure_36
  · have h := ie_x h c1
    refine lv_aload_n hx hb dX9_sure_17 rfl (lv_at hl 1 rfl) ?_
    refine lv_iload hx hb dX9_sure_18 (lv_at hl 0 rfl) ?_
    obtain ⟨o3, ho3, h⟩ := bd_x h
    refine r_V X hH (ws1 := (wX9 g a i o3.2)) (As := [.int o1]) (rest := []) (st1 := [.long o3.1]) (uX9_far (a := a) (i := i) ho3) kX9_far mX9_272 iX9_far vX9_far zX9 okX9_far ⟨Nat.le_of_ble_eq_true rfl, Nat.le_of_ble_eq_true rfl⟩ rfl rfl (q0 := 0) rfl rfl [0, 1, 2, 3, 4, 5, 6, 7, 8, 9, 10, 11, 12, 13, 14, 15, 16, 17, 18, 19, 20, 21, 22, 23, 24, 25, 26, 27, 28, 29, 30, 31, 32, 33] rfl rfl rfl rfl rfl hl.1 rfl (Nat.le_of_ble_eq_true rfl) ⟨Nat.le_refl 0, Nat.le_refl 0⟩ rfl dX9_sure_20 (fun H locs hH => ?_)
    refine lv_goto (tgt := 36) hx hb dX9_sure_23 (by decide) ?_
    cases h
    exact e_l X hH dX9_sure_36

def fX9_fast (xs : SX9) (pa : Int32) (pb : Int32) (pc_ : Int32) (pd : Int32) (pe : Int32) : Option (Int64 × SX9) :=
  (fX9_notDoubt xs pa pb pc_ pd pe).bind fun o1 =>
  (if o1 = (0 : Int32) then
  (fX9_doubted xs pa pb pc_ pd pe).bind fun o2 =>
  some (o2.1, o2.2)
  else
  (fX9_far xs o1).bind fun o3 =>
  some (o3.1, o3.2))
set_option maxHeartbeats 4000000 in
set_option maxRecDepth 100000 in
theorem uX9_fast {l : Launch} {g : GG} {a : Nat → Nat} {i : Nat} {xs : SX9} {pa : Int32} {pb : Int32} {pc_ : Int32} {pd : Int32} {pe : Int32} {o : (Int64 × SX9)} (h : fX9_fast xs pa pb pc_ pd pe = some o) : mC l g yX9_fast cX9_fast 7 (some .long) (rM 6 152) [.ref (a i), .int pa, .int pb, .int pc_, .int pd, .int pe] (wX9 g a i xs) (wX9 g a i o.2) (some (.long o.1)) := by
  refine mC.ofW (by decide) (fun p e s m below meth c X hH ls _ hl => ?_) (Nat.le_of_ble_eq_true rfl)
  have hx := X.1
  have hb := X.2.1
  have hl : lv_has ls 7 [(0, .ref (a i)), (1, .int pa), (2, .int pb), (3, .int pc_), (4, .int pd), (5, .int pe)] := hl
  unfold fX9_fast at h
  suffices HH : ∀ (H : Heap) (locs : List Loc), mH g s (wX9 g a i xs) (wX9 g a i xs) H locs → W p l e (rM 6 152) s m _ below meth c H locs 0 0 (mZ g below _ s (wX9 g a i xs) (wX9 g a i o.2) (some (.long o.1))) (F0 m 0 ls []) from HH _ _ hH
  clear hH
  intro H locs hH
  refine lv_aload_n hx hb dX9_fast_0 rfl (lv_at hl 0 rfl) ?_
  refine lv_iload_n hx hb dX9_fast_1 rfl (lv_at hl 1 rfl) ?_
  refine lv_iload_n hx hb dX9_fast_2 rfl (lv_at hl 2 rfl) ?_
  refine lv_iload_n hx hb dX9_fast_3 rfl (lv_at hl 3 rfl) ?_
  refine lv_iload hx hb dX9_fast_4 (lv_at hl 4 rfl) ?_
  refine lv_iload hx hb dX9_fast_6 (lv_at hl 5 rfl) ?_
  obtain ⟨o1, ho1, h⟩ := bd_x h
  refine r_V X hH (ws1 := (wX9 g a i xs)) (As := [.int pa, .int pb, .int pc_, .int pd, .int pe]) (rest := []) (st1 := [.int o1]) (uX9_notDoubt (a := a) (i := i) ho1) kX9_notDoubt mX9_310 iX9_notDoubt vX9_notDoubt zX9 okX9_notDoubt ⟨Nat.le_of_ble_eq_true rfl, Nat.le_of_ble_eq_true rfl⟩ rfl rfl (q0 := 0) rfl rfl [0, 1, 2, 3, 4, 5, 6, 7, 8, 9, 10, 11, 12, 13, 14, 15, 16, 17, 18, 19, 20, 21, 22, 23, 24, 25, 26, 27, 28, 29, 30, 31, 32, 33] rfl rfl rfl (putl_self _ _ rfl) rfl hl.1 rfl (Nat.le_of_ble_eq_true rfl) ⟨Nat.le_refl 0, Nat.le_refl 0⟩ rfl dX9_fast_8 (fun H locs hH => ?_)
  refine s_i X (lv' := [(6, .int o1), (0, .ref (a i)), (1, .int pa), (2, .int pb), (3, .int pc_), (4, .int pd), (5, .int pe)]) hl rfl dX9_fast_11 (by decide) rfl (fun ls hl => ?_)
  refine lv_iload hx hb dX9_fast_13 (lv_at hl 0 rfl) ?_
  refine lv_if_eq (tgt := 27) hx hb dX9_fast_15 (by decide) (fun c1 => ?_) (fun c1 => ?_)
  · have h := it_x h c1
    refine lv_aload_n hx hb dX9_fast_27 rfl (lv_at hl 1 rfl) ?_
    refine lv_iload_n hx hb dX9_fast_28 rfl (lv_at hl 2 rfl) ?_
    refine lv_iload_n hx hb dX9_fast_29 rfl (lv_at hl 3 rfl) ?_
    refine lv_iload_n hx hb dX9_fast_30 rfl (lv_at hl 4 rfl) ?_
    refine lv_iload hx hb dX9_fast_31 (lv_at hl 5 rfl) ?_
    refine lv_iload hx hb dX9_fast_33 (lv_at hl 6 rfl) ?_
    obtain ⟨o2, ho2, h⟩ := bd_x h
    refine r_V X hH (ws1 := (wX9 g a i o2.2)) (As := [.int pa, .int pb, .int pc_, .int pd, .int pe]) (rest := []) (st1 := [.long o2.1]) (uX9_doubted (a := a) (i := i) ho2) kX9_doubted mX9_314 iX9_doubted vX9_doubted zX9 okX9_doubted ⟨Nat.le_of_ble_eq_true rfl, Nat.le_of_ble_eq_true rfl⟩ rfl rfl (q0 := 0) rfl rfl [0, 1, 2, 3, 4, 5, 6, 7, 8, 9, 10, 11, 12, 13, 14, 15, 16, 17, 18, 19, 20, 21, 22, 23, 24, 25, 26, 27, 28, 29, 30, 31, 32, 33] rfl rfl rfl rfl rfl hl.1 rfl (Nat.le_of_ble_eq_true rfl) ⟨Nat.le_refl 0, Nat.le_refl 0⟩ rfl dX9_fast_35 (fun H locs hH => ?_)
    cases h
    exact e_l X hH dX9_fast_38
  · have h := ie_x h c1
    refine lv_aload_n hx hb dX9_fast_18 rfl (lv_at hl 1 rfl) ?_
    refine lv_iload hx hb dX9_fast_19 (lv_at hl 0 rfl) ?_
    obtain ⟨o3, ho3, h⟩ := bd_x h
    refine r_V X hH (ws1 := (wX9 g a i o3.2)) (As := [.int o1]) (rest := []) (st1 := [.long o3.1]) (uX9_far (a := a) (i := i) ho3) kX9_far mX9_272 iX9_far vX9_far zX9 okX9_far ⟨Nat.le_of_ble_eq_true rfl, Nat.le_of_ble_eq_true rfl⟩ rfl rfl (q0 := 0) rfl rfl [0, 1, 2, 3, 4, 5, 6, 7, 8, 9, 10, 11, 12, 13, 14, 15, 16, 17, 18, 19, 20, 21, 22, 23, 24, 25, 26, 27, 28, 29, 30, 31, 32, 33] rfl rfl rfl rfl rfl hl.1 rfl (Nat.le_of_ble_eq_true rfl) ⟨Nat.le_refl 0, Nat.le_refl 0⟩ rfl dX9_fast_21 (fun H locs hH => ?_)
    refine lv_goto (tgt := 38) hx hb dX9_fast_24 (by decide) ?_
    cases h
    exact e_l X hH dX9_fast_38

def fJxe99ae_isNaN_b9ae7 (pa : UInt64) : Option Int32 :=
  (if (Op.cmpValue (FP.dcmp pa pa) CmpOp.l) = (0 : Int32) then
  some (0 : Int32)
  else
  some (1 : Int32))
set_option maxHeartbeats 4000000 in
set_option maxRecDepth 100000 in
theorem uJxe99ae_isNaN_b9ae7 {l : Launch} {g : GG}  {pa : UInt64} {o : Int32} (h : fJxe99ae_isNaN_b9ae7 pa = some o) : mC l g yJxe99ae_isNaN_b9ae7 cJxe99ae_isNaN_b9ae7 2 (some .boolean) (rM 0 0) [.double pa] [] [] (some (.int o)) := by
  refine mC.ofW (by decide) (fun p e s m below meth c X hH ls _ hl => ?_) (Nat.le_of_ble_eq_true rfl)
  have hx := X.1
  have hb := X.2.1
  have hl : lv_has ls 2 [(0, .double pa)] := hl
  unfold fJxe99ae_isNaN_b9ae7 at h
  suffices HH : ∀ (H : Heap) (locs : List Loc), mH g s [] [] H locs → W p l e (rM 0 0) s m _ below meth c H locs 0 0 (mZ g below _ s [] [] (some (.int o))) (F0 m 0 ls []) from HH _ _ hH
  clear hH
  intro H locs hH
  refine lv_dload_n hx hb dJxe99ae_isNaN_b9ae7_0 rfl (lv_at hl 0 rfl) ?_
  refine lv_dload_n hx hb dJxe99ae_isNaN_b9ae7_1 rfl (lv_at hl 0 rfl) ?_
  refine lv_dcmp hx hb dJxe99ae_isNaN_b9ae7_2 ?_
  refine lv_if_eq (tgt := 10) hx hb dJxe99ae_isNaN_b9ae7_3 (by decide) (fun c1 => ?_) (fun c1 => ?_)
  · have h := it_x h c1
    refine lv_iconst (v := (0 : Int32)) hx hb dJxe99ae_isNaN_b9ae7_10 (by decide) ?_
    cases h
    exact e_z X hH (by decide) dJxe99ae_isNaN_b9ae7_11
  · have h := ie_x h c1
    refine lv_iconst (v := (1 : Int32)) hx hb dJxe99ae_isNaN_b9ae7_6 (by decide) ?_
    refine lv_goto (tgt := 11) hx hb dJxe99ae_isNaN_b9ae7_7 (by decide) ?_
    cases h
    exact e_z X hH (by decide) dJxe99ae_isNaN_b9ae7_11

def fJxe99ae_doubleToLongBits_ccdee (pa : UInt64) : Option Int64 :=
  (fJxe99ae_isNaN_b9ae7 pa).bind fun o1 =>
  (if o1 = (0 : Int32) then
  some (pa.toInt64)
  else
  some (9221120237041090560 : Int64))
set_option maxHeartbeats 4000000 in
set_option maxRecDepth 100000 in
theorem uJxe99ae_doubleToLongBits_ccdee {l : Launch} {g : GG}  {pa : UInt64} {o : Int64} (h : fJxe99ae_doubleToLongBits_ccdee pa = some o) : mC l g yJxe99ae_doubleToLongBits_ccdee cJxe99ae_doubleToLongBits_ccdee 2 (some .long) (rM 1 23) [.double pa] [] [] (some (.long o)) := by
  refine mC.ofW (by decide) (fun p e s m below meth c X hH ls _ hl => ?_) (Nat.le_of_ble_eq_true rfl)
  have hx := X.1
  have hb := X.2.1
  have hl : lv_has ls 2 [(0, .double pa)] := hl
  unfold fJxe99ae_doubleToLongBits_ccdee at h
  suffices HH : ∀ (H : Heap) (locs : List Loc), mH g s [] [] H locs → W p l e (rM 1 23) s m _ below meth c H locs 0 0 (mZ g below _ s [] [] (some (.long o))) (F0 m 0 ls []) from HH _ _ hH
  clear hH
  intro H locs hH
  refine lv_dload_n hx hb dJxe99ae_doubleToLongBits_ccdee_0 rfl (lv_at hl 0 rfl) ?_
  obtain ⟨o1, ho1, h⟩ := bd_x h
  refine r_S X hH (ws1 := []) (As := [.double pa]) (rest := []) (st1 := [.int o1]) (uJxe99ae_isNaN_b9ae7  ho1) kJxe99ae_isNaN_b9ae7 mJxe99ae_122 sJxe99ae_isNaN_b9ae7 zJxe99ae okJxe99ae_isNaN_b9ae7 ⟨Nat.le_of_ble_eq_true rfl, Nat.le_of_ble_eq_true rfl⟩ rfl rfl [] rfl rfl rfl (putl_self _ _ rfl) rfl hl.1 rfl (Nat.le_of_ble_eq_true rfl) ⟨Nat.le_refl 0, Nat.le_refl 0⟩ rfl dJxe99ae_doubleToLongBits_ccdee_1 (fun H locs hH => ?_)
  refine lv_if_ne (tgt := 12) hx hb dJxe99ae_doubleToLongBits_ccdee_4 (by decide) (fun c1 => ?_) (fun c1 => ?_)
  · have h := ie_x h c1
    refine lv_ldc2 hx hb X.2.2.2.2.1 (X.2.2.2.2.2.1 _ nJxe99ae_137) dJxe99ae_doubleToLongBits_ccdee_12 ?_
    cases h
    exact e_l X hH dJxe99ae_doubleToLongBits_ccdee_15
  · have h := it_x h c1
    refine lv_dload_n hx hb dJxe99ae_doubleToLongBits_ccdee_7 rfl (lv_at hl 0 rfl) ?_
    refine vn_d2l hx hb (X.2.2.2.1.trans hl.1.symm) X.2.2.2.2.1 (X.2.2.2.2.2.1 _ dn_link) (X.2.2.2.2.2.1 _ dn_nat) (X.2.2.2.2.2.1 _ dn_stat) (X.2.2.2.2.2.1 _ zJxe99ae) (Nat.le_of_ble_eq_true rfl) (Nat.le_of_ble_eq_true rfl) dJxe99ae_doubleToLongBits_ccdee_8 ?_
    cases h
    exact e_l X hH dJxe99ae_doubleToLongBits_ccdee_11

def qX9_bySteps_16 (pa : Int32) (pb : Int32) (pc_ : Int32) (pd : Int32)  (xs : SX9) : Option (Int64 × SX9) :=
  (fX9_far xs (-1 : Int32)).bind fun o2 =>
  some (o2.1, o2.2)
def qX9_bySteps_288 (pa : Int32) (pb : Int32) (pc_ : Int32) (pd : Int32) (k105 : SX9 → Int32 → Option (Int64 × SX9)) : Nat → SX9 → Int32 → Int32 → Option (Int64 × SX9)
  | 0, _, _, _ => none
  | fu + 1, xs, l5, l6 =>
  (if (6 : Int32) ≤ l6 then
  ltt (l5 + (1 : Int32)) fun v1 =>
  k105 xs v1
  else
  ga 6 l6 fun j3 =>
  ga 6 l6 fun j4 =>
  ltt ((m_now_s xs (vf_upd (m_now xs) j4 ((m_then xs) j3)))) fun xs1 =>
  ltt (l6 + (1 : Int32)) fun v2 =>
  qX9_bySteps_288 pa pb pc_ pd k105 fu xs1 l5 v2)
def qX9_bySteps_242 (pa : Int32) (pb : Int32) (pc_ : Int32) (pd : Int32) (k273 : SX9 → Int32 → Int32 → Int32 → Int32 → Option (Int64 × SX9)) (xs : SX9) (l5 : Int32) (l6 : Int32) (l7 : Int32) (l8 : Int32) (t0 : Int32) : Option (Int64 × SX9) :=
  ga 6 t0 fun j8 =>
  ga 6 l6 fun j9 =>
  (fX9_weight xs l8).bind fun o8 =>
  gn (FP.dmul ((m_now xs) j9) (FP.i2d o8)) <|
  gn (FP.ddiv (FP.dmul ((m_now xs) j9) (FP.i2d o8)) (FP.i2d l7)) <|
  gn (FP.dadd ((m_then xs) j8) (FP.ddiv (FP.dmul ((m_now xs) j9) (FP.i2d o8)) (FP.i2d l7))) <|
  ga 6 t0 fun j10 =>
  ltt ((m_then_s xs (vf_upd (m_then xs) j10 (FP.dadd ((m_then xs) j8) (FP.ddiv (FP.dmul ((m_now xs) j9) (FP.i2d o8)) (FP.i2d l7)))))) fun xs2 =>
  k273 xs2 l5 l6 l7 l8
def qX9_bySteps_213 (pa : Int32) (pb : Int32) (pc_ : Int32) (pd : Int32) (k273 : SX9 → Int32 → Int32 → Int32 → Int32 → Option (Int64 × SX9)) (xs : SX9) (l5 : Int32) (l6 : Int32) (l7 : Int32) (l8 : Int32) : Option (Int64 × SX9) :=
  ga 11 l8 fun j6 =>
  (if ((m_first xs) j6) = l6 then
  ga 11 l8 fun j11 =>
  qX9_bySteps_242 pa pb pc_ pd k273 xs l5 l6 l7 l8 ((m_second xs) j11)
  else
  ga 11 l8 fun j7 =>
  qX9_bySteps_242 pa pb pc_ pd k273 xs l5 l6 l7 l8 ((m_first xs) j7))
def qX9_bySteps_273 (pa : Int32) (pb : Int32) (pc_ : Int32) (pd : Int32) (k177 : SX9 → Int32 → Int32 → Int32 → Int32 → Option (Int64 × SX9)) (xs : SX9) (l5 : Int32) (l6 : Int32) (l7 : Int32) (l8 : Int32) : Option (Int64 × SX9) :=
  ltt (l8 + (1 : Int32)) fun v4 =>
  k177 xs l5 l6 l7 v4
def qX9_bySteps_177 (pa : Int32) (pb : Int32) (pc_ : Int32) (pd : Int32) (k138 : SX9 → Int32 → Int32 → Option (Int64 × SX9)) : Nat → SX9 → Int32 → Int32 → Int32 → Int32 → Option (Int64 × SX9)
  | 0, _, _, _, _, _ => none
  | fu + 1, xs, l5, l6, l7, l8 =>
  (if (m_many xs) ≤ l8 then
  ltt (l6 + (1 : Int32)) fun v3 =>
  k138 xs l5 v3
  else
  ga 11 l8 fun j5 =>
  (if ((m_first xs) j5) = l6 then
  qX9_bySteps_213 pa pb pc_ pd (qX9_bySteps_273 pa pb pc_ pd (qX9_bySteps_177 pa pb pc_ pd k138 fu)) xs l5 l6 l7 l8
  else
  ga 11 l8 fun j12 =>
  (if ((m_second xs) j12) = l6 then
  qX9_bySteps_213 pa pb pc_ pd (qX9_bySteps_273 pa pb pc_ pd (qX9_bySteps_177 pa pb pc_ pd k138 fu)) xs l5 l6 l7 l8
  else
  qX9_bySteps_273 pa pb pc_ pd (qX9_bySteps_177 pa pb pc_ pd k138 fu) xs l5 l6 l7 l8)))
def qX9_bySteps_174 (pa : Int32) (pb : Int32) (pc_ : Int32) (pd : Int32) (k138 : SX9 → Int32 → Int32 → Option (Int64 × SX9)) (xs : SX9) (l5 : Int32) (l6 : Int32) (l7 : Int32) : Option (Int64 × SX9) :=
  qX9_bySteps_177 pa pb pc_ pd k138 FU xs l5 l6 l7 (0 : Int32)
def qX9_bySteps_138 (pa : Int32) (pb : Int32) (pc_ : Int32) (pd : Int32) (k105 : SX9 → Int32 → Option (Int64 × SX9)) : Nat → SX9 → Int32 → Int32 → Option (Int64 × SX9)
  | 0, _, _, _ => none
  | fu + 1, xs, l5, l6 =>
  (if (m_points xs) ≤ l6 then
  qX9_bySteps_288 pa pb pc_ pd k105 FU xs l5 (0 : Int32)
  else
  (fX9_weightsAt xs l6).bind fun o7 =>
  (if o7 = (0 : Int32) then
  ga 6 l6 fun j13 =>
  ga 6 l6 fun j14 =>
  ltt ((m_then_s xs (vf_upd (m_then xs) j14 ((m_now xs) j13)))) fun xs3 =>
  qX9_bySteps_174 pa pb pc_ pd (qX9_bySteps_138 pa pb pc_ pd k105 fu) xs3 l5 l6 o7
  else
  qX9_bySteps_174 pa pb pc_ pd (qX9_bySteps_138 pa pb pc_ pd k105 fu) xs l5 l6 o7))
def qX9_bySteps_114 (pa : Int32) (pb : Int32) (pc_ : Int32) (pd : Int32) (k105 : SX9 → Int32 → Option (Int64 × SX9)) : Nat → SX9 → Int32 → Int32 → Option (Int64 × SX9)
  | 0, _, _, _ => none
  | fu + 1, xs, l5, l6 =>
  (if (6 : Int32) ≤ l6 then
  qX9_bySteps_138 pa pb pc_ pd k105 FU xs l5 (0 : Int32)
  else
  ga 6 l6 fun j15 =>
  ltt ((m_then_s xs (vf_upd (m_then xs) j15 (0 : UInt64)))) fun xs4 =>
  ltt (l6 + (1 : Int32)) fun v5 =>
  qX9_bySteps_114 pa pb pc_ pd k105 fu xs4 l5 v5)
def qX9_bySteps_105 (pa : Int32) (pb : Int32) (pc_ : Int32) (pd : Int32)  : Nat → SX9 → Int32 → Option (Int64 × SX9)
  | 0, _, _ => none
  | fu + 1, xs, l5 =>
  (if pc_ ≤ l5 then
  (if pd = (0 : Int32) then
  ga 6 pb fun j2 =>
  (fJxe99ae_doubleToLongBits_ccdee ((m_now xs) j2)).bind fun o6 =>
  some (o6, xs)
  else
  ga 6 pb fun j1 =>
  gn (FP.dmul ((m_now xs) j1) (4696837146684686336 : UInt64)) <|
  some (((FP.d2i (FP.dmul ((m_now xs) j1) (4696837146684686336 : UInt64))).toInt64), xs))
  else
  qX9_bySteps_114 pa pb pc_ pd (qX9_bySteps_105 pa pb pc_ pd  fu) FU xs l5 (0 : Int32))
def qX9_bySteps_95 (pa : Int32) (pb : Int32) (pc_ : Int32) (pd : Int32) (k71 : SX9 → Int32 → Option (Int64 × SX9)) (xs : SX9) (l5 : Int32) (t1 : Int32) (t2 : UInt64) : Option (Int64 × SX9) :=
  ga 6 t1 fun j16 =>
  ltt ((m_now_s xs (vf_upd (m_now xs) j16 t2))) fun xs5 =>
  ltt (l5 + (1 : Int32)) fun v6 =>
  k71 xs5 v6
def qX9_bySteps_71 (pa : Int32) (pb : Int32) (pc_ : Int32) (pd : Int32)  : Nat → SX9 → Int32 → Option (Int64 × SX9)
  | 0, _, _ => none
  | fu + 1, xs, l5 =>
  (if (6 : Int32) ≤ l5 then
  qX9_bySteps_105 pa pb pc_ pd FU xs (0 : Int32)
  else
  (if l5 = pa then
  qX9_bySteps_95 pa pb pc_ pd (qX9_bySteps_71 pa pb pc_ pd  fu) xs l5 l5 (4607182418800017408 : UInt64)
  else
  qX9_bySteps_95 pa pb pc_ pd (qX9_bySteps_71 pa pb pc_ pd  fu) xs l5 l5 (0 : UInt64)))
def fX9_bySteps (xs : SX9) (pa : Int32) (pb : Int32) (pc_ : Int32) (pd : Int32) : Option (Int64 × SX9) :=
  (fX9_isPoint xs pa).bind fun o1 =>
  (if o1 = (0 : Int32) then
  qX9_bySteps_16 pa pb pc_ pd xs
  else
  (fX9_isPoint xs pb).bind fun o3 =>
  (if o3 = (0 : Int32) then
  qX9_bySteps_16 pa pb pc_ pd xs
  else
  (if (0 : Int32) ≤ pc_ then
  (if pc_ ≤ (30 : Int32) then
  (fX9_isIn (pd.toInt64) (0 : Int64) (1 : Int64)).bind fun o4 =>
  (if o4 = (0 : Int32) then
  (fX9_far xs (-2 : Int32)).bind fun o9 =>
  some (o9.1, o9.2)
  else
  (fX9_allThere xs).bind fun o5 =>
  qX9_bySteps_71 pa pb pc_ pd FU o5 (0 : Int32))
  else
  (fX9_far xs (-6 : Int32)).bind fun o10 =>
  some (o10.1, o10.2))
  else
  (fX9_far xs (-4 : Int32)).bind fun o11 =>
  some (o11.1, o11.2))))
set_option maxHeartbeats 4000000 in
set_option maxRecDepth 100000 in
theorem pX9_bySteps_16 {p : Program} {l : Launch} {e : Env} {s : State} {m : MethodId} {args : Array Value} {below : List Frame} {meth : Method} {c : Code} {g : GG} {w0 : va_W} {a : Nat → Nat} {i : Nat} {pa : Int32} {pb : Int32} {pc_ : Int32} {pd : Int32} {o : (Int64 × SX9)} (X : mX g yX9_bySteps cX9_bySteps 10 (some .long) p s m args meth c w0) :
  ∀ (xs : SX9) (H : Heap) (locs : List Loc) (ls : Array Slot), qX9_bySteps_16 pa pb pc_ pd xs = some o → mH g s w0 (wX9 g a i xs) H locs → lv_has ls 10 [(0, .ref (a i)), (1, .int pa), (2, .int pb), (3, .int pc_), (4, .int pd)] → W p l e (rM 3 66) s m args below meth c H locs 0 0 (mZ g below args s w0 (wX9 g a i o.2) (some (.long o.1))) (F0 m 16 ls []) := by
  have hx := X.1
  have hb := X.2.1
  intro xs H locs ls h hH hl
  unfold qX9_bySteps_16 at h
  refine lv_aload_n hx hb dX9_bySteps_16 rfl (lv_at hl 0 rfl) ?_
  refine lv_iconst (v := (-1 : Int32)) hx hb dX9_bySteps_17 (by decide) ?_
  obtain ⟨o2, ho2, h⟩ := bd_x h
  refine r_V X hH (ws1 := (wX9 g a i o2.2)) (As := [.int (-1 : Int32)]) (rest := []) (st1 := [.long o2.1]) (uX9_far (a := a) (i := i) ho2) kX9_far mX9_272 iX9_far vX9_far zX9 okX9_far ⟨Nat.le_of_ble_eq_true rfl, Nat.le_of_ble_eq_true rfl⟩ rfl rfl (q0 := 0) rfl rfl [0, 1, 2, 3, 4, 5, 6, 7, 8, 9, 10, 11, 12, 13, 14, 15, 16, 17, 18, 19, 20, 21, 22, 23, 24, 25, 26, 27, 28, 29, 30, 31, 32, 33] rfl rfl rfl rfl rfl hl.1 rfl (Nat.le_of_ble_eq_true rfl) ⟨Nat.le_refl 0, Nat.le_refl 0⟩ rfl dX9_bySteps_18 (fun H locs hH => ?_)
  cases h
  exact e_l X hH dX9_bySteps_21
set_option maxHeartbeats 4000000 in
set_option maxRecDepth 100000 in
theorem pX9_bySteps_288 {p : Program} {l : Launch} {e : Env} {s : State} {m : MethodId} {args : Array Value} {below : List Frame} {meth : Method} {c : Code} {g : GG} {w0 : va_W} {a : Nat → Nat} {i : Nat} {pa : Int32} {pb : Int32} {pc_ : Int32} {pd : Int32} {o : (Int64 × SX9)} (X : mX g yX9_bySteps cX9_bySteps 10 (some .long) p s m args meth c w0)
  {k105 : SX9 → Int32 → Option (Int64 × SX9)} (K105 : ∀ (xs : SX9) (l5 : Int32) (H : Heap) (locs : List Loc) (ls : Array Slot), k105 xs l5 = some o → mH g s w0 (wX9 g a i xs) H locs → lv_has ls 10 [(0, .ref (a i)), (1, .int pa), (2, .int pb), (3, .int pc_), (4, .int pd), (5, .int l5)] → W p l e (rM 3 66) s m args below meth c H locs 0 0 (mZ g below args s w0 (wX9 g a i o.2) (some (.long o.1))) (F0 m 105 ls [])) :
  ∀ (fu : Nat) (xs : SX9) (l5 : Int32) (l6 : Int32) (H : Heap) (locs : List Loc) (ls : Array Slot), qX9_bySteps_288 pa pb pc_ pd k105 fu xs l5 l6 = some o → mH g s w0 (wX9 g a i xs) H locs → lv_has ls 10 [(0, .ref (a i)), (1, .int pa), (2, .int pb), (3, .int pc_), (4, .int pd), (5, .int l5), (6, .int l6)] → W p l e (rM 3 66) s m args below meth c H locs 0 0 (mZ g below args s w0 (wX9 g a i o.2) (some (.long o.1))) (F0 m 288 ls []) := by
  have hx := X.1
  have hb := X.2.1
  intro fu
  induction fu with
  | zero =>
    intro xs l5 l6 H locs ls h
    unfold qX9_bySteps_288 at h
    cases h
  | succ fu ih =>
    intro xs l5 l6 H locs ls h hH hl
    unfold qX9_bySteps_288 at h
    refine lv_iload hx hb dX9_bySteps_288 (lv_at hl 6 rfl) ?_
    refine lv_bipush (v := (6 : Int32)) hx hb dX9_bySteps_290 (by decide) ?_
    refine lv_icmp_ge (tgt := 315) hx hb dX9_bySteps_292 (by decide) (fun c11 => ?_) (fun c11 => ?_)
    · have h := it_x h c11
      obtain ⟨v1, ev1, h⟩ := ltt_x h
      refine s_inc X (k := 5) (lv' := [(5, .int v1), (0, .ref (a i)), (1, .int pa), (2, .int pb), (3, .int pc_), (4, .int pd), (6, .int l6)]) hl rfl (by rw [ev1]; rfl) dX9_bySteps_315 (by decide) rfl (fun ls hl => ?_)
      refine lv_goto (tgt := 105) hx hb dX9_bySteps_318 (by decide) ?_
      exact K105 xs v1 H locs ls h hH (lv_sub hl [1, 2, 3, 4, 5, 0] rfl)
    · have h := ie_x h c11
      refine lv_aload_n hx hb dX9_bySteps_295 rfl (lv_at hl 0 rfl) ?_
      refine f_get X hH 0 rfl rfl 30 (by decide) inX9 fX9_70 rfl dX9_bySteps_296 ?_
      refine lv_iload hx hb dX9_bySteps_299 (lv_at hl 6 rfl) ?_
      refine lv_aload_n hx hb dX9_bySteps_301 rfl (lv_at hl 0 rfl) ?_
      refine f_get X hH 0 rfl rfl 31 (by decide) inX9 fX9_74 rfl dX9_bySteps_302 ?_
      refine lv_iload hx hb dX9_bySteps_305 (lv_at hl 6 rfl) ?_
      obtain ⟨j3, ej3, hinj3, h⟩ := ga_x h
      refine a_dl X hH 20 rfl hinj3 ej3 dX9_bySteps_307 ?_
      obtain ⟨j4, ej4, hinj4, h⟩ := ga_x h
      obtain ⟨xs1, exs1, h⟩ := ltt_x h
      refine a_ds X hH (ws1 := (wX9 g a i xs1)) 19 rfl hinj4 ej4 (by rw [exs1]; rfl) dX9_bySteps_308 (fun H locs hH => ?_)
      obtain ⟨v2, ev2, h⟩ := ltt_x h
      refine s_inc X (k := 6) (lv' := [(6, .int v2), (0, .ref (a i)), (1, .int pa), (2, .int pb), (3, .int pc_), (4, .int pd), (5, .int l5)]) hl rfl (by rw [ev2]; rfl) dX9_bySteps_309 (by decide) rfl (fun ls hl => ?_)
      refine lv_goto (tgt := 288) hx hb dX9_bySteps_312 (by decide) ?_
      exact ih xs1 l5 v2 H locs ls h hH (lv_sub hl [1, 2, 3, 4, 5, 6, 0] rfl)
set_option maxHeartbeats 4000000 in
set_option maxRecDepth 100000 in
theorem pX9_bySteps_242 {p : Program} {l : Launch} {e : Env} {s : State} {m : MethodId} {args : Array Value} {below : List Frame} {meth : Method} {c : Code} {g : GG} {w0 : va_W} {a : Nat → Nat} {i : Nat} {pa : Int32} {pb : Int32} {pc_ : Int32} {pd : Int32} {o : (Int64 × SX9)} (X : mX g yX9_bySteps cX9_bySteps 10 (some .long) p s m args meth c w0)
  {k273 : SX9 → Int32 → Int32 → Int32 → Int32 → Option (Int64 × SX9)} (K273 : ∀ (xs : SX9) (l5 : Int32) (l6 : Int32) (l7 : Int32) (l8 : Int32) (H : Heap) (locs : List Loc) (ls : Array Slot), k273 xs l5 l6 l7 l8 = some o → mH g s w0 (wX9 g a i xs) H locs → lv_has ls 10 [(0, .ref (a i)), (1, .int pa), (2, .int pb), (3, .int pc_), (4, .int pd), (5, .int l5), (6, .int l6), (7, .int l7), (8, .int l8)] → W p l e (rM 3 66) s m args below meth c H locs 0 0 (mZ g below args s w0 (wX9 g a i o.2) (some (.long o.1))) (F0 m 273 ls [])) :
  ∀ (xs : SX9) (l5 : Int32) (l6 : Int32) (l7 : Int32) (l8 : Int32) (t0 : Int32) (H : Heap) (locs : List Loc) (ls : Array Slot), qX9_bySteps_242 pa pb pc_ pd k273 xs l5 l6 l7 l8 t0 = some o → mH g s w0 (wX9 g a i xs) H locs → lv_has ls 10 [(0, .ref (a i)), (1, .int pa), (2, .int pb), (3, .int pc_), (4, .int pd), (5, .int l5), (6, .int l6), (7, .int l7), (8, .int l8)] → W p l e (rM 3 66) s m args below meth c H locs 0 0 (mZ g below args s w0 (wX9 g a i o.2) (some (.long o.1))) (F0 m 242 ls [.int t0]) := by
  have hx := X.1
  have hb := X.2.1
  intro xs l5 l6 l7 l8 t0 H locs ls h hH hl
  unfold qX9_bySteps_242 at h
  refine s_i X (lv' := [(9, .int t0), (0, .ref (a i)), (1, .int pa), (2, .int pb), (3, .int pc_), (4, .int pd), (5, .int l5), (6, .int l6), (7, .int l7), (8, .int l8)]) hl rfl dX9_bySteps_242 (by decide) rfl (fun ls hl => ?_)
  refine lv_aload_n hx hb dX9_bySteps_244 rfl (lv_at hl 1 rfl) ?_
  refine f_get X hH 0 rfl rfl 31 (by decide) inX9 fX9_74 rfl dX9_bySteps_245 ?_
  refine lv_iload hx hb dX9_bySteps_248 (lv_at hl 0 rfl) ?_
  refine lv_dup2_11 hx hb dX9_bySteps_250 rfl rfl ?_
  obtain ⟨j8, ej8, hinj8, h⟩ := ga_x h
  refine a_dl X hH 20 rfl hinj8 ej8 dX9_bySteps_251 ?_
  refine lv_aload_n hx hb dX9_bySteps_252 rfl (lv_at hl 1 rfl) ?_
  refine f_get X hH 0 rfl rfl 30 (by decide) inX9 fX9_70 rfl dX9_bySteps_253 ?_
  refine lv_iload hx hb dX9_bySteps_256 (lv_at hl 7 rfl) ?_
  obtain ⟨j9, ej9, hinj9, h⟩ := ga_x h
  refine a_dl X hH 19 rfl hinj9 ej9 dX9_bySteps_258 ?_
  refine lv_aload_n hx hb dX9_bySteps_259 rfl (lv_at hl 1 rfl) ?_
  refine lv_iload hx hb dX9_bySteps_260 (lv_at hl 9 rfl) ?_
  obtain ⟨o8, ho8, h⟩ := bd_x h
  refine r_V X hH (ws1 := (wX9 g a i xs)) (As := [.int l8]) (rest := [.double ((m_now xs) j9), .double ((m_then xs) j8), .int t0, .ref (a (i + 20))]) (st1 := [.int o8, .double ((m_now xs) j9), .double ((m_then xs) j8), .int t0, .ref (a (i + 20))]) (uX9_weight (a := a) (i := i) ho8) kX9_weight mX9_171 iX9_weight vX9_weight zX9 okX9_weight ⟨Nat.le_of_ble_eq_true rfl, Nat.le_of_ble_eq_true rfl⟩ rfl rfl (q0 := 0) rfl rfl [0, 1, 2, 3, 4, 5, 6, 7, 8, 9, 10, 11, 12, 13, 14, 15, 16, 17, 18, 19, 20, 21, 22, 23, 24, 25, 26, 27, 28, 29, 30, 31, 32, 33] rfl rfl rfl (putl_self _ _ rfl) rfl hl.1 rfl (Nat.le_of_ble_eq_true rfl) ⟨Nat.le_refl 0, Nat.le_refl 0⟩ rfl dX9_bySteps_262 (fun H locs hH => ?_)
  refine lv_i2d hx hb dX9_bySteps_265 ?_
  obtain ⟨z2, h⟩ := gn_x h
  refine lv_dmul hx hb dX9_bySteps_266 z2 ?_
  refine lv_iload hx hb dX9_bySteps_267 (lv_at hl 8 rfl) ?_
  refine lv_i2d hx hb dX9_bySteps_269 ?_
  obtain ⟨z3, h⟩ := gn_x h
  refine lv_ddiv hx hb dX9_bySteps_270 z3 ?_
  obtain ⟨z4, h⟩ := gn_x h
  refine lv_dadd hx hb dX9_bySteps_271 z4 ?_
  obtain ⟨j10, ej10, hinj10, h⟩ := ga_x h
  obtain ⟨xs2, exs2, h⟩ := ltt_x h
  refine a_ds X hH (ws1 := (wX9 g a i xs2)) 20 rfl hinj10 ej10 (by rw [exs2]; rfl) dX9_bySteps_272 (fun H locs hH => ?_)
  exact K273 xs2 l5 l6 l7 l8 H locs ls h hH (lv_sub hl [1, 2, 3, 4, 5, 6, 7, 8, 9] rfl)
set_option maxHeartbeats 4000000 in
set_option maxRecDepth 100000 in
theorem pX9_bySteps_213 {p : Program} {l : Launch} {e : Env} {s : State} {m : MethodId} {args : Array Value} {below : List Frame} {meth : Method} {c : Code} {g : GG} {w0 : va_W} {a : Nat → Nat} {i : Nat} {pa : Int32} {pb : Int32} {pc_ : Int32} {pd : Int32} {o : (Int64 × SX9)} (X : mX g yX9_bySteps cX9_bySteps 10 (some .long) p s m args meth c w0)
  {k273 : SX9 → Int32 → Int32 → Int32 → Int32 → Option (Int64 × SX9)} (K273 : ∀ (xs : SX9) (l5 : Int32) (l6 : Int32) (l7 : Int32) (l8 : Int32) (H : Heap) (locs : List Loc) (ls : Array Slot), k273 xs l5 l6 l7 l8 = some o → mH g s w0 (wX9 g a i xs) H locs → lv_has ls 10 [(0, .ref (a i)), (1, .int pa), (2, .int pb), (3, .int pc_), (4, .int pd), (5, .int l5), (6, .int l6), (7, .int l7), (8, .int l8)] → W p l e (rM 3 66) s m args below meth c H locs 0 0 (mZ g below args s w0 (wX9 g a i o.2) (some (.long o.1))) (F0 m 273 ls [])) :
  ∀ (xs : SX9) (l5 : Int32) (l6 : Int32) (l7 : Int32) (l8 : Int32) (H : Heap) (locs : List Loc) (ls : Array Slot), qX9_bySteps_213 pa pb pc_ pd k273 xs l5 l6 l7 l8 = some o → mH g s w0 (wX9 g a i xs) H locs → lv_has ls 10 [(0, .ref (a i)), (1, .int pa), (2, .int pb), (3, .int pc_), (4, .int pd), (5, .int l5), (6, .int l6), (7, .int l7), (8, .int l8)] → W p l e (rM 3 66) s m args below meth c H locs 0 0 (mZ g below args s w0 (wX9 g a i o.2) (some (.long o.1))) (F0 m 213 ls []) := by
  have hx := X.1
  have hb := X.2.1
  intro xs l5 l6 l7 l8 H locs ls h hH hl
  unfold qX9_bySteps_213 at h
  refine lv_aload_n hx hb dX9_bySteps_213 rfl (lv_at hl 0 rfl) ?_
  refine f_get X hH 0 rfl rfl 2 (by decide) inX9 fX9_13 rfl dX9_bySteps_214 ?_
  refine lv_iload hx hb dX9_bySteps_217 (lv_at hl 8 rfl) ?_
  obtain ⟨j6, ej6, hinj6, h⟩ := ga_x h
  refine a_il X hH 1 rfl hinj6 ej6 dX9_bySteps_219 ?_
  refine lv_iload hx hb dX9_bySteps_220 (lv_at hl 6 rfl) ?_
  refine lv_icmp_ne (tgt := 235) hx hb dX9_bySteps_222 (by decide) (fun c15 => ?_) (fun c15 => ?_)
  · have h := ie_x h c15
    refine lv_aload_n hx hb dX9_bySteps_235 rfl (lv_at hl 0 rfl) ?_
    refine f_get X hH 0 rfl rfl 2 (by decide) inX9 fX9_13 rfl dX9_bySteps_236 ?_
    refine lv_iload hx hb dX9_bySteps_239 (lv_at hl 8 rfl) ?_
    obtain ⟨j7, ej7, hinj7, h⟩ := ga_x h
    refine a_il X hH 1 rfl hinj7 ej7 dX9_bySteps_241 ?_
    exact pX9_bySteps_242 X K273 xs l5 l6 l7 l8 ((m_first xs) j7) H locs ls h hH (lv_sub hl [0, 1, 2, 3, 4, 5, 6, 7, 8] rfl)
  · have h := it_x h c15
    refine lv_aload_n hx hb dX9_bySteps_225 rfl (lv_at hl 0 rfl) ?_
    refine f_get X hH 0 rfl rfl 3 (by decide) inX9 fX9_17 rfl dX9_bySteps_226 ?_
    refine lv_iload hx hb dX9_bySteps_229 (lv_at hl 8 rfl) ?_
    obtain ⟨j11, ej11, hinj11, h⟩ := ga_x h
    refine a_il X hH 2 rfl hinj11 ej11 dX9_bySteps_231 ?_
    refine lv_goto (tgt := 242) hx hb dX9_bySteps_232 (by decide) ?_
    exact pX9_bySteps_242 X K273 xs l5 l6 l7 l8 ((m_second xs) j11) H locs ls h hH (lv_sub hl [0, 1, 2, 3, 4, 5, 6, 7, 8] rfl)
set_option maxHeartbeats 4000000 in
set_option maxRecDepth 100000 in
theorem pX9_bySteps_273 {p : Program} {l : Launch} {e : Env} {s : State} {m : MethodId} {args : Array Value} {below : List Frame} {meth : Method} {c : Code} {g : GG} {w0 : va_W} {a : Nat → Nat} {i : Nat} {pa : Int32} {pb : Int32} {pc_ : Int32} {pd : Int32} {o : (Int64 × SX9)} (X : mX g yX9_bySteps cX9_bySteps 10 (some .long) p s m args meth c w0)
  {k177 : SX9 → Int32 → Int32 → Int32 → Int32 → Option (Int64 × SX9)} (K177 : ∀ (xs : SX9) (l5 : Int32) (l6 : Int32) (l7 : Int32) (l8 : Int32) (H : Heap) (locs : List Loc) (ls : Array Slot), k177 xs l5 l6 l7 l8 = some o → mH g s w0 (wX9 g a i xs) H locs → lv_has ls 10 [(0, .ref (a i)), (1, .int pa), (2, .int pb), (3, .int pc_), (4, .int pd), (5, .int l5), (6, .int l6), (7, .int l7), (8, .int l8)] → W p l e (rM 3 66) s m args below meth c H locs 0 0 (mZ g below args s w0 (wX9 g a i o.2) (some (.long o.1))) (F0 m 177 ls [])) :
  ∀ (xs : SX9) (l5 : Int32) (l6 : Int32) (l7 : Int32) (l8 : Int32) (H : Heap) (locs : List Loc) (ls : Array Slot), qX9_bySteps_273 pa pb pc_ pd k177 xs l5 l6 l7 l8 = some o → mH g s w0 (wX9 g a i xs) H locs → lv_has ls 10 [(0, .ref (a i)), (1, .int pa), (2, .int pb), (3, .int pc_), (4, .int pd), (5, .int l5), (6, .int l6), (7, .int l7), (8, .int l8)] → W p l e (rM 3 66) s m args below meth c H locs 0 0 (mZ g below args s w0 (wX9 g a i o.2) (some (.long o.1))) (F0 m 273 ls []) := by
  have hx := X.1
  have hb := X.2.1
  intro xs l5 l6 l7 l8 H locs ls h hH hl
  unfold qX9_bySteps_273 at h
  obtain ⟨v4, ev4, h⟩ := ltt_x h
  refine s_inc X (k := 8) (lv' := [(8, .int v4), (0, .ref (a i)), (1, .int pa), (2, .int pb), (3, .int pc_), (4, .int pd), (5, .int l5), (6, .int l6), (7, .int l7)]) hl rfl (by rw [ev4]; rfl) dX9_bySteps_273 (by decide) rfl (fun ls hl => ?_)
  refine lv_goto (tgt := 177) hx hb dX9_bySteps_276 (by decide) ?_
  exact K177 xs l5 l6 l7 v4 H locs ls h hH (lv_sub hl [1, 2, 3, 4, 5, 6, 7, 8, 0] rfl)
set_option maxHeartbeats 4000000 in
set_option maxRecDepth 100000 in
theorem pX9_bySteps_177 {p : Program} {l : Launch} {e : Env} {s : State} {m : MethodId} {args : Array Value} {below : List Frame} {meth : Method} {c : Code} {g : GG} {w0 : va_W} {a : Nat → Nat} {i : Nat} {pa : Int32} {pb : Int32} {pc_ : Int32} {pd : Int32} {o : (Int64 × SX9)} (X : mX g yX9_bySteps cX9_bySteps 10 (some .long) p s m args meth c w0)
  {k138 : SX9 → Int32 → Int32 → Option (Int64 × SX9)} (K138 : ∀ (xs : SX9) (l5 : Int32) (l6 : Int32) (H : Heap) (locs : List Loc) (ls : Array Slot), k138 xs l5 l6 = some o → mH g s w0 (wX9 g a i xs) H locs → lv_has ls 10 [(0, .ref (a i)), (1, .int pa), (2, .int pb), (3, .int pc_), (4, .int pd), (5, .int l5), (6, .int l6)] → W p l e (rM 3 66) s m args below meth c H locs 0 0 (mZ g below args s w0 (wX9 g a i o.2) (some (.long o.1))) (F0 m 138 ls [])) :
  ∀ (fu : Nat) (xs : SX9) (l5 : Int32) (l6 : Int32) (l7 : Int32) (l8 : Int32) (H : Heap) (locs : List Loc) (ls : Array Slot), qX9_bySteps_177 pa pb pc_ pd k138 fu xs l5 l6 l7 l8 = some o → mH g s w0 (wX9 g a i xs) H locs → lv_has ls 10 [(0, .ref (a i)), (1, .int pa), (2, .int pb), (3, .int pc_), (4, .int pd), (5, .int l5), (6, .int l6), (7, .int l7), (8, .int l8)] → W p l e (rM 3 66) s m args below meth c H locs 0 0 (mZ g below args s w0 (wX9 g a i o.2) (some (.long o.1))) (F0 m 177 ls []) := by
  have hx := X.1
  have hb := X.2.1
  intro fu
  induction fu with
  | zero =>
    intro xs l5 l6 l7 l8 H locs ls h
    unfold qX9_bySteps_177 at h
    cases h
  | succ fu ih =>
    intro xs l5 l6 l7 l8 H locs ls h hH hl
    unfold qX9_bySteps_177 at h
    refine lv_iload hx hb dX9_bySteps_177 (lv_at hl 8 rfl) ?_
    refine lv_aload_n hx hb dX9_bySteps_179 rfl (lv_at hl 0 rfl) ?_
    refine f_get X hH 0 rfl rfl 1 (by decide) inX9 fX9_120 rfl dX9_bySteps_180 ?_
    refine lv_icmp_ge (tgt := 279) hx hb dX9_bySteps_183 (by decide) (fun c13 => ?_) (fun c13 => ?_)
    · have h := it_x h c13
      obtain ⟨v3, ev3, h⟩ := ltt_x h
      refine s_inc X (k := 6) (lv' := [(6, .int v3), (0, .ref (a i)), (1, .int pa), (2, .int pb), (3, .int pc_), (4, .int pd), (5, .int l5), (7, .int l7), (8, .int l8)]) hl rfl (by rw [ev3]; rfl) dX9_bySteps_279 (by decide) rfl (fun ls hl => ?_)
      refine lv_goto (tgt := 138) hx hb dX9_bySteps_282 (by decide) ?_
      exact K138 xs l5 v3 H locs ls h hH (lv_sub hl [1, 2, 3, 4, 5, 6, 0] rfl)
    · have h := ie_x h c13
      refine lv_aload_n hx hb dX9_bySteps_186 rfl (lv_at hl 0 rfl) ?_
      refine f_get X hH 0 rfl rfl 2 (by decide) inX9 fX9_13 rfl dX9_bySteps_187 ?_
      refine lv_iload hx hb dX9_bySteps_190 (lv_at hl 8 rfl) ?_
      obtain ⟨j5, ej5, hinj5, h⟩ := ga_x h
      refine a_il X hH 1 rfl hinj5 ej5 dX9_bySteps_192 ?_
      refine lv_iload hx hb dX9_bySteps_193 (lv_at hl 6 rfl) ?_
      refine lv_icmp_eq (tgt := 213) hx hb dX9_bySteps_195 (by decide) (fun c14 => ?_) (fun c14 => ?_)
      · have h := it_x h c14
        exact pX9_bySteps_213 X (pX9_bySteps_273 X ih) xs l5 l6 l7 l8 H locs ls h hH (lv_sub hl [0, 1, 2, 3, 4, 5, 6, 7, 8] rfl)
      · have h := ie_x h c14
        refine lv_aload_n hx hb dX9_bySteps_198 rfl (lv_at hl 0 rfl) ?_
        refine f_get X hH 0 rfl rfl 3 (by decide) inX9 fX9_17 rfl dX9_bySteps_199 ?_
        refine lv_iload hx hb dX9_bySteps_202 (lv_at hl 8 rfl) ?_
        obtain ⟨j12, ej12, hinj12, h⟩ := ga_x h
        refine a_il X hH 2 rfl hinj12 ej12 dX9_bySteps_204 ?_
        refine lv_iload hx hb dX9_bySteps_205 (lv_at hl 6 rfl) ?_
        refine lv_icmp_eq (tgt := 213) hx hb dX9_bySteps_207 (by decide) (fun c16 => ?_) (fun c16 => ?_)
        · have h := it_x h c16
          exact pX9_bySteps_213 X (pX9_bySteps_273 X ih) xs l5 l6 l7 l8 H locs ls h hH (lv_sub hl [0, 1, 2, 3, 4, 5, 6, 7, 8] rfl)
        · have h := ie_x h c16
          refine lv_goto (tgt := 273) hx hb dX9_bySteps_210 (by decide) ?_
          exact pX9_bySteps_273 X ih xs l5 l6 l7 l8 H locs ls h hH (lv_sub hl [0, 1, 2, 3, 4, 5, 6, 7, 8] rfl)
set_option maxHeartbeats 4000000 in
set_option maxRecDepth 100000 in
theorem pX9_bySteps_174 {p : Program} {l : Launch} {e : Env} {s : State} {m : MethodId} {args : Array Value} {below : List Frame} {meth : Method} {c : Code} {g : GG} {w0 : va_W} {a : Nat → Nat} {i : Nat} {pa : Int32} {pb : Int32} {pc_ : Int32} {pd : Int32} {o : (Int64 × SX9)} (X : mX g yX9_bySteps cX9_bySteps 10 (some .long) p s m args meth c w0)
  {k138 : SX9 → Int32 → Int32 → Option (Int64 × SX9)} (K138 : ∀ (xs : SX9) (l5 : Int32) (l6 : Int32) (H : Heap) (locs : List Loc) (ls : Array Slot), k138 xs l5 l6 = some o → mH g s w0 (wX9 g a i xs) H locs → lv_has ls 10 [(0, .ref (a i)), (1, .int pa), (2, .int pb), (3, .int pc_), (4, .int pd), (5, .int l5), (6, .int l6)] → W p l e (rM 3 66) s m args below meth c H locs 0 0 (mZ g below args s w0 (wX9 g a i o.2) (some (.long o.1))) (F0 m 138 ls [])) :
  ∀ (xs : SX9) (l5 : Int32) (l6 : Int32) (l7 : Int32) (H : Heap) (locs : List Loc) (ls : Array Slot), qX9_bySteps_174 pa pb pc_ pd k138 xs l5 l6 l7 = some o → mH g s w0 (wX9 g a i xs) H locs → lv_has ls 10 [(0, .ref (a i)), (1, .int pa), (2, .int pb), (3, .int pc_), (4, .int pd), (5, .int l5), (6, .int l6), (7, .int l7)] → W p l e (rM 3 66) s m args below meth c H locs 0 0 (mZ g below args s w0 (wX9 g a i o.2) (some (.long o.1))) (F0 m 174 ls []) := by
  have hx := X.1
  have hb := X.2.1
  intro xs l5 l6 l7 H locs ls h hH hl
  unfold qX9_bySteps_174 at h
  refine lv_iconst (v := (0 : Int32)) hx hb dX9_bySteps_174 (by decide) ?_
  refine s_i X (lv' := [(8, .int (0 : Int32)), (0, .ref (a i)), (1, .int pa), (2, .int pb), (3, .int pc_), (4, .int pd), (5, .int l5), (6, .int l6), (7, .int l7)]) hl rfl dX9_bySteps_175 (by decide) rfl (fun ls hl => ?_)
  exact pX9_bySteps_177 X K138 FU xs l5 l6 l7 (0 : Int32) H locs ls h hH (lv_sub hl [1, 2, 3, 4, 5, 6, 7, 8, 0] rfl)
set_option maxHeartbeats 4000000 in
set_option maxRecDepth 100000 in
theorem pX9_bySteps_138 {p : Program} {l : Launch} {e : Env} {s : State} {m : MethodId} {args : Array Value} {below : List Frame} {meth : Method} {c : Code} {g : GG} {w0 : va_W} {a : Nat → Nat} {i : Nat} {pa : Int32} {pb : Int32} {pc_ : Int32} {pd : Int32} {o : (Int64 × SX9)} (X : mX g yX9_bySteps cX9_bySteps 10 (some .long) p s m args meth c w0)
  {k105 : SX9 → Int32 → Option (Int64 × SX9)} (K105 : ∀ (xs : SX9) (l5 : Int32) (H : Heap) (locs : List Loc) (ls : Array Slot), k105 xs l5 = some o → mH g s w0 (wX9 g a i xs) H locs → lv_has ls 10 [(0, .ref (a i)), (1, .int pa), (2, .int pb), (3, .int pc_), (4, .int pd), (5, .int l5)] → W p l e (rM 3 66) s m args below meth c H locs 0 0 (mZ g below args s w0 (wX9 g a i o.2) (some (.long o.1))) (F0 m 105 ls [])) :
  ∀ (fu : Nat) (xs : SX9) (l5 : Int32) (l6 : Int32) (H : Heap) (locs : List Loc) (ls : Array Slot), qX9_bySteps_138 pa pb pc_ pd k105 fu xs l5 l6 = some o → mH g s w0 (wX9 g a i xs) H locs → lv_has ls 10 [(0, .ref (a i)), (1, .int pa), (2, .int pb), (3, .int pc_), (4, .int pd), (5, .int l5), (6, .int l6)] → W p l e (rM 3 66) s m args below meth c H locs 0 0 (mZ g below args s w0 (wX9 g a i o.2) (some (.long o.1))) (F0 m 138 ls []) := by
  have hx := X.1
  have hb := X.2.1
  intro fu
  induction fu with
  | zero =>
    intro xs l5 l6 H locs ls h
    unfold qX9_bySteps_138 at h
    cases h
  | succ fu ih =>
    intro xs l5 l6 H locs ls h hH hl
    unfold qX9_bySteps_138 at h
    refine lv_iload hx hb dX9_bySteps_138 (lv_at hl 6 rfl) ?_
    refine lv_aload_n hx hb dX9_bySteps_140 rfl (lv_at hl 0 rfl) ?_
    refine f_get X hH 0 rfl rfl 0 (by decide) inX9 fX9_7 rfl dX9_bySteps_141 ?_
    refine lv_icmp_ge (tgt := 285) hx hb dX9_bySteps_144 (by decide) (fun c10 => ?_) (fun c10 => ?_)
    · have h := it_x h c10
      refine lv_iconst (v := (0 : Int32)) hx hb dX9_bySteps_285 (by decide) ?_
      refine s_i X (lv' := [(6, .int (0 : Int32)), (0, .ref (a i)), (1, .int pa), (2, .int pb), (3, .int pc_), (4, .int pd), (5, .int l5)]) hl rfl dX9_bySteps_286 (by decide) rfl (fun ls hl => ?_)
      exact pX9_bySteps_288 X K105 FU xs l5 (0 : Int32) H locs ls h hH (lv_sub hl [1, 2, 3, 4, 5, 6, 0] rfl)
    · have h := ie_x h c10
      refine lv_aload_n hx hb dX9_bySteps_147 rfl (lv_at hl 0 rfl) ?_
      refine lv_iload hx hb dX9_bySteps_148 (lv_at hl 6 rfl) ?_
      obtain ⟨o7, ho7, h⟩ := bd_x h
      refine r_V X hH (ws1 := (wX9 g a i xs)) (As := [.int l6]) (rest := []) (st1 := [.int o7]) (uX9_weightsAt (a := a) (i := i) ho7) kX9_weightsAt mX9_239 iX9_weightsAt vX9_weightsAt zX9 okX9_weightsAt ⟨Nat.le_of_ble_eq_true rfl, Nat.le_of_ble_eq_true rfl⟩ rfl rfl (q0 := 0) rfl rfl [0, 1, 2, 3, 4, 5, 6, 7, 8, 9, 10, 11, 12, 13, 14, 15, 16, 17, 18, 19, 20, 21, 22, 23, 24, 25, 26, 27, 28, 29, 30, 31, 32, 33] rfl rfl rfl (putl_self _ _ rfl) rfl hl.1 rfl (Nat.le_of_ble_eq_true rfl) ⟨Nat.le_refl 0, Nat.le_refl 0⟩ rfl dX9_bySteps_150 (fun H locs hH => ?_)
      refine s_i X (lv' := [(7, .int o7), (0, .ref (a i)), (1, .int pa), (2, .int pb), (3, .int pc_), (4, .int pd), (5, .int l5), (6, .int l6)]) hl rfl dX9_bySteps_153 (by decide) rfl (fun ls hl => ?_)
      refine lv_iload hx hb dX9_bySteps_155 (lv_at hl 0 rfl) ?_
      refine lv_if_ne (tgt := 174) hx hb dX9_bySteps_157 (by decide) (fun c12 => ?_) (fun c12 => ?_)
      · have h := ie_x h c12
        exact pX9_bySteps_174 X ih xs l5 l6 o7 H locs ls h hH (lv_sub hl [1, 2, 3, 4, 5, 6, 7, 0] rfl)
      · have h := it_x h c12
        refine lv_aload_n hx hb dX9_bySteps_160 rfl (lv_at hl 1 rfl) ?_
        refine f_get X hH 0 rfl rfl 31 (by decide) inX9 fX9_74 rfl dX9_bySteps_161 ?_
        refine lv_iload hx hb dX9_bySteps_164 (lv_at hl 7 rfl) ?_
        refine lv_aload_n hx hb dX9_bySteps_166 rfl (lv_at hl 1 rfl) ?_
        refine f_get X hH 0 rfl rfl 30 (by decide) inX9 fX9_70 rfl dX9_bySteps_167 ?_
        refine lv_iload hx hb dX9_bySteps_170 (lv_at hl 7 rfl) ?_
        obtain ⟨j13, ej13, hinj13, h⟩ := ga_x h
        refine a_dl X hH 19 rfl hinj13 ej13 dX9_bySteps_172 ?_
        obtain ⟨j14, ej14, hinj14, h⟩ := ga_x h
        obtain ⟨xs3, exs3, h⟩ := ltt_x h
        refine a_ds X hH (ws1 := (wX9 g a i xs3)) 20 rfl hinj14 ej14 (by rw [exs3]; rfl) dX9_bySteps_173 (fun H locs hH => ?_)
        exact pX9_bySteps_174 X ih xs3 l5 l6 o7 H locs ls h hH (lv_sub hl [1, 2, 3, 4, 5, 6, 7, 0] rfl)
set_option maxHeartbeats 4000000 in
set_option maxRecDepth 100000 in
theorem pX9_bySteps_114 {p : Program} {l : Launch} {e : Env} {s : State} {m : MethodId} {args : Array Value} {below : List Frame} {meth : Method} {c : Code} {g : GG} {w0 : va_W} {a : Nat → Nat} {i : Nat} {pa : Int32} {pb : Int32} {pc_ : Int32} {pd : Int32} {o : (Int64 × SX9)} (X : mX g yX9_bySteps cX9_bySteps 10 (some .long) p s m args meth c w0)
  {k105 : SX9 → Int32 → Option (Int64 × SX9)} (K105 : ∀ (xs : SX9) (l5 : Int32) (H : Heap) (locs : List Loc) (ls : Array Slot), k105 xs l5 = some o → mH g s w0 (wX9 g a i xs) H locs → lv_has ls 10 [(0, .ref (a i)), (1, .int pa), (2, .int pb), (3, .int pc_), (4, .int pd), (5, .int l5)] → W p l e (rM 3 66) s m args below meth c H locs 0 0 (mZ g below args s w0 (wX9 g a i o.2) (some (.long o.1))) (F0 m 105 ls [])) :
  ∀ (fu : Nat) (xs : SX9) (l5 : Int32) (l6 : Int32) (H : Heap) (locs : List Loc) (ls : Array Slot), qX9_bySteps_114 pa pb pc_ pd k105 fu xs l5 l6 = some o → mH g s w0 (wX9 g a i xs) H locs → lv_has ls 10 [(0, .ref (a i)), (1, .int pa), (2, .int pb), (3, .int pc_), (4, .int pd), (5, .int l5), (6, .int l6)] → W p l e (rM 3 66) s m args below meth c H locs 0 0 (mZ g below args s w0 (wX9 g a i o.2) (some (.long o.1))) (F0 m 114 ls []) := by
  have hx := X.1
  have hb := X.2.1
  intro fu
  induction fu with
  | zero =>
    intro xs l5 l6 H locs ls h
    unfold qX9_bySteps_114 at h
    cases h
  | succ fu ih =>
    intro xs l5 l6 H locs ls h hH hl
    unfold qX9_bySteps_114 at h
    refine lv_iload hx hb dX9_bySteps_114 (lv_at hl 6 rfl) ?_
    refine lv_bipush (v := (6 : Int32)) hx hb dX9_bySteps_116 (by decide) ?_
    refine lv_icmp_ge (tgt := 135) hx hb dX9_bySteps_118 (by decide) (fun c9 => ?_) (fun c9 => ?_)
    · have h := it_x h c9
      refine lv_iconst (v := (0 : Int32)) hx hb dX9_bySteps_135 (by decide) ?_
      refine s_i X (lv' := [(6, .int (0 : Int32)), (0, .ref (a i)), (1, .int pa), (2, .int pb), (3, .int pc_), (4, .int pd), (5, .int l5)]) hl rfl dX9_bySteps_136 (by decide) rfl (fun ls hl => ?_)
      exact pX9_bySteps_138 X K105 FU xs l5 (0 : Int32) H locs ls h hH (lv_sub hl [1, 2, 3, 4, 5, 6, 0] rfl)
    · have h := ie_x h c9
      refine lv_aload_n hx hb dX9_bySteps_121 rfl (lv_at hl 0 rfl) ?_
      refine f_get X hH 0 rfl rfl 31 (by decide) inX9 fX9_74 rfl dX9_bySteps_122 ?_
      refine lv_iload hx hb dX9_bySteps_125 (lv_at hl 6 rfl) ?_
      refine lv_dconst0 hx hb dX9_bySteps_127 ?_
      obtain ⟨j15, ej15, hinj15, h⟩ := ga_x h
      obtain ⟨xs4, exs4, h⟩ := ltt_x h
      refine a_ds X hH (ws1 := (wX9 g a i xs4)) 20 rfl hinj15 ej15 (by rw [exs4]; rfl) dX9_bySteps_128 (fun H locs hH => ?_)
      obtain ⟨v5, ev5, h⟩ := ltt_x h
      refine s_inc X (k := 6) (lv' := [(6, .int v5), (0, .ref (a i)), (1, .int pa), (2, .int pb), (3, .int pc_), (4, .int pd), (5, .int l5)]) hl rfl (by rw [ev5]; rfl) dX9_bySteps_129 (by decide) rfl (fun ls hl => ?_)
      refine lv_goto (tgt := 114) hx hb dX9_bySteps_132 (by decide) ?_
      exact ih xs4 l5 v5 H locs ls h hH (lv_sub hl [1, 2, 3, 4, 5, 6, 0] rfl)
set_option maxHeartbeats 4000000 in
set_option maxRecDepth 100000 in
theorem pX9_bySteps_105 {p : Program} {l : Launch} {e : Env} {s : State} {m : MethodId} {args : Array Value} {below : List Frame} {meth : Method} {c : Code} {g : GG} {w0 : va_W} {a : Nat → Nat} {i : Nat} {pa : Int32} {pb : Int32} {pc_ : Int32} {pd : Int32} {o : (Int64 × SX9)} (X : mX g yX9_bySteps cX9_bySteps 10 (some .long) p s m args meth c w0) :
  ∀ (fu : Nat) (xs : SX9) (l5 : Int32) (H : Heap) (locs : List Loc) (ls : Array Slot), qX9_bySteps_105 pa pb pc_ pd fu xs l5 = some o → mH g s w0 (wX9 g a i xs) H locs → lv_has ls 10 [(0, .ref (a i)), (1, .int pa), (2, .int pb), (3, .int pc_), (4, .int pd), (5, .int l5)] → W p l e (rM 3 66) s m args below meth c H locs 0 0 (mZ g below args s w0 (wX9 g a i o.2) (some (.long o.1))) (F0 m 105 ls []) := by
  have hx := X.1
  have hb := X.2.1
  intro fu
  induction fu with
  | zero =>
    intro xs l5 H locs ls h
    unfold qX9_bySteps_105 at h
    cases h
  | succ fu ih =>
    intro xs l5 H locs ls h hH hl
    unfold qX9_bySteps_105 at h
    refine lv_iload hx hb dX9_bySteps_105 (lv_at hl 5 rfl) ?_
    refine lv_iload_n hx hb dX9_bySteps_107 rfl (lv_at hl 3 rfl) ?_
    refine lv_icmp_ge (tgt := 321) hx hb dX9_bySteps_108 (by decide) (fun c7 => ?_) (fun c7 => ?_)
    · have h := it_x h c7
      refine lv_iload hx hb dX9_bySteps_321 (lv_at hl 4 rfl) ?_
      refine lv_if_ne (tgt := 338) hx hb dX9_bySteps_323 (by decide) (fun c8 => ?_) (fun c8 => ?_)
      · have h := ie_x h c8
        refine lv_aload_n hx hb dX9_bySteps_338 rfl (lv_at hl 0 rfl) ?_
        refine f_get X hH 0 rfl rfl 30 (by decide) inX9 fX9_70 rfl dX9_bySteps_339 ?_
        refine lv_iload_n hx hb dX9_bySteps_342 rfl (lv_at hl 2 rfl) ?_
        obtain ⟨j1, ej1, hinj1, h⟩ := ga_x h
        refine a_dl X hH 19 rfl hinj1 ej1 dX9_bySteps_343 ?_
        refine lv_ldc2d hx hb X.2.2.2.2.1 (X.2.2.2.2.2.1 _ nX9_324) dX9_bySteps_344 ?_
        obtain ⟨z1, h⟩ := gn_x h
        refine lv_dmul hx hb dX9_bySteps_347 z1 ?_
        refine lv_d2i hx hb dX9_bySteps_348 ?_
        refine lv_i2l hx hb dX9_bySteps_349 rfl ?_
        cases h
        exact e_l X hH dX9_bySteps_350
      · have h := it_x h c8
        refine lv_aload_n hx hb dX9_bySteps_326 rfl (lv_at hl 0 rfl) ?_
        refine f_get X hH 0 rfl rfl 30 (by decide) inX9 fX9_70 rfl dX9_bySteps_327 ?_
        refine lv_iload_n hx hb dX9_bySteps_330 rfl (lv_at hl 2 rfl) ?_
        obtain ⟨j2, ej2, hinj2, h⟩ := ga_x h
        refine a_dl X hH 19 rfl hinj2 ej2 dX9_bySteps_331 ?_
        obtain ⟨o6, ho6, h⟩ := bd_x h
        refine r_S X hH (ws1 := (wX9 g a i xs)) (As := [.double ((m_now xs) j2)]) (rest := []) (st1 := [.long o6]) (uJxe99ae_doubleToLongBits_ccdee  ho6) kJxe99ae_doubleToLongBits_ccdee mX9_318 sJxe99ae_doubleToLongBits_ccdee zJxe99ae okJxe99ae_doubleToLongBits_ccdee ⟨Nat.le_of_ble_eq_true rfl, Nat.le_of_ble_eq_true rfl⟩ rfl rfl [] rfl rfl rfl (putl_self _ _ rfl) rfl hl.1 rfl (Nat.le_of_ble_eq_true rfl) ⟨Nat.le_refl 0, Nat.le_refl 0⟩ rfl dX9_bySteps_332 (fun H locs hH => ?_)
        refine lv_goto (tgt := 350) hx hb dX9_bySteps_335 (by decide) ?_
        cases h
        exact e_l X hH dX9_bySteps_350
    · have h := ie_x h c7
      refine lv_iconst (v := (0 : Int32)) hx hb dX9_bySteps_111 (by decide) ?_
      refine s_i X (lv' := [(6, .int (0 : Int32)), (0, .ref (a i)), (1, .int pa), (2, .int pb), (3, .int pc_), (4, .int pd), (5, .int l5)]) hl rfl dX9_bySteps_112 (by decide) rfl (fun ls hl => ?_)
      exact pX9_bySteps_114 X ih FU xs l5 (0 : Int32) H locs ls h hH (lv_sub hl [1, 2, 3, 4, 5, 6, 0] rfl)
set_option maxHeartbeats 4000000 in
set_option maxRecDepth 100000 in
theorem pX9_bySteps_95 {p : Program} {l : Launch} {e : Env} {s : State} {m : MethodId} {args : Array Value} {below : List Frame} {meth : Method} {c : Code} {g : GG} {w0 : va_W} {a : Nat → Nat} {i : Nat} {pa : Int32} {pb : Int32} {pc_ : Int32} {pd : Int32} {o : (Int64 × SX9)} (X : mX g yX9_bySteps cX9_bySteps 10 (some .long) p s m args meth c w0)
  {k71 : SX9 → Int32 → Option (Int64 × SX9)} (K71 : ∀ (xs : SX9) (l5 : Int32) (H : Heap) (locs : List Loc) (ls : Array Slot), k71 xs l5 = some o → mH g s w0 (wX9 g a i xs) H locs → lv_has ls 10 [(0, .ref (a i)), (1, .int pa), (2, .int pb), (3, .int pc_), (4, .int pd), (5, .int l5)] → W p l e (rM 3 66) s m args below meth c H locs 0 0 (mZ g below args s w0 (wX9 g a i o.2) (some (.long o.1))) (F0 m 71 ls [])) :
  ∀ (xs : SX9) (l5 : Int32) (t1 : Int32) (t2 : UInt64) (H : Heap) (locs : List Loc) (ls : Array Slot), qX9_bySteps_95 pa pb pc_ pd k71 xs l5 t1 t2 = some o → mH g s w0 (wX9 g a i xs) H locs → lv_has ls 10 [(0, .ref (a i)), (1, .int pa), (2, .int pb), (3, .int pc_), (4, .int pd), (5, .int l5)] → W p l e (rM 3 66) s m args below meth c H locs 0 0 (mZ g below args s w0 (wX9 g a i o.2) (some (.long o.1))) (F0 m 95 ls [.double t2, .int t1, .ref (a (i + 19))]) := by
  have hx := X.1
  have hb := X.2.1
  intro xs l5 t1 t2 H locs ls h hH hl
  unfold qX9_bySteps_95 at h
  obtain ⟨j16, ej16, hinj16, h⟩ := ga_x h
  obtain ⟨xs5, exs5, h⟩ := ltt_x h
  refine a_ds X hH (ws1 := (wX9 g a i xs5)) 19 rfl hinj16 ej16 (by rw [exs5]; rfl) dX9_bySteps_95 (fun H locs hH => ?_)
  obtain ⟨v6, ev6, h⟩ := ltt_x h
  refine s_inc X (k := 5) (lv' := [(5, .int v6), (0, .ref (a i)), (1, .int pa), (2, .int pb), (3, .int pc_), (4, .int pd)]) hl rfl (by rw [ev6]; rfl) dX9_bySteps_96 (by decide) rfl (fun ls hl => ?_)
  refine lv_goto (tgt := 71) hx hb dX9_bySteps_99 (by decide) ?_
  exact K71 xs5 v6 H locs ls h hH (lv_sub hl [1, 2, 3, 4, 5, 0] rfl)
set_option maxHeartbeats 4000000 in
set_option maxRecDepth 100000 in
theorem pX9_bySteps_71 {p : Program} {l : Launch} {e : Env} {s : State} {m : MethodId} {args : Array Value} {below : List Frame} {meth : Method} {c : Code} {g : GG} {w0 : va_W} {a : Nat → Nat} {i : Nat} {pa : Int32} {pb : Int32} {pc_ : Int32} {pd : Int32} {o : (Int64 × SX9)} (X : mX g yX9_bySteps cX9_bySteps 10 (some .long) p s m args meth c w0) :
  ∀ (fu : Nat) (xs : SX9) (l5 : Int32) (H : Heap) (locs : List Loc) (ls : Array Slot), qX9_bySteps_71 pa pb pc_ pd fu xs l5 = some o → mH g s w0 (wX9 g a i xs) H locs → lv_has ls 10 [(0, .ref (a i)), (1, .int pa), (2, .int pb), (3, .int pc_), (4, .int pd), (5, .int l5)] → W p l e (rM 3 66) s m args below meth c H locs 0 0 (mZ g below args s w0 (wX9 g a i o.2) (some (.long o.1))) (F0 m 71 ls []) := by
  have hx := X.1
  have hb := X.2.1
  intro fu
  induction fu with
  | zero =>
    intro xs l5 H locs ls h
    unfold qX9_bySteps_71 at h
    cases h
  | succ fu ih =>
    intro xs l5 H locs ls h hH hl
    unfold qX9_bySteps_71 at h
    refine lv_iload hx hb dX9_bySteps_71 (lv_at hl 5 rfl) ?_
    refine lv_bipush (v := (6 : Int32)) hx hb dX9_bySteps_73 (by decide) ?_
    refine lv_icmp_ge (tgt := 102) hx hb dX9_bySteps_75 (by decide) (fun c6 => ?_) (fun c6 => ?_)
    · have h := it_x h c6
      refine lv_iconst (v := (0 : Int32)) hx hb dX9_bySteps_102 (by decide) ?_
      refine s_i X (lv' := [(5, .int (0 : Int32)), (0, .ref (a i)), (1, .int pa), (2, .int pb), (3, .int pc_), (4, .int pd)]) hl rfl dX9_bySteps_103 (by decide) rfl (fun ls hl => ?_)
      exact pX9_bySteps_105 X FU xs (0 : Int32) H locs ls h hH (lv_sub hl [1, 2, 3, 4, 5, 0] rfl)
    · have h := ie_x h c6
      refine lv_aload_n hx hb dX9_bySteps_78 rfl (lv_at hl 0 rfl) ?_
      refine f_get X hH 0 rfl rfl 30 (by decide) inX9 fX9_70 rfl dX9_bySteps_79 ?_
      refine lv_iload hx hb dX9_bySteps_82 (lv_at hl 5 rfl) ?_
      refine lv_iload hx hb dX9_bySteps_84 (lv_at hl 5 rfl) ?_
      refine lv_iload_n hx hb dX9_bySteps_86 rfl (lv_at hl 1 rfl) ?_
      refine lv_icmp_ne (tgt := 94) hx hb dX9_bySteps_87 (by decide) (fun c17 => ?_) (fun c17 => ?_)
      · have h := ie_x h c17
        refine lv_dconst0 hx hb dX9_bySteps_94 ?_
        exact pX9_bySteps_95 X ih xs l5 l5 (0 : UInt64) H locs ls h hH (lv_sub hl [0, 1, 2, 3, 4, 5] rfl)
      · have h := it_x h c17
        refine lv_dconst1 hx hb dX9_bySteps_90 ?_
        refine lv_goto (tgt := 95) hx hb dX9_bySteps_91 (by decide) ?_
        exact pX9_bySteps_95 X ih xs l5 l5 (4607182418800017408 : UInt64) H locs ls h hH (lv_sub hl [0, 1, 2, 3, 4, 5] rfl)
set_option maxHeartbeats 4000000 in
set_option maxRecDepth 100000 in
theorem uX9_bySteps {l : Launch} {g : GG} {a : Nat → Nat} {i : Nat} {xs : SX9} {pa : Int32} {pb : Int32} {pc_ : Int32} {pd : Int32} {o : (Int64 × SX9)} (h : fX9_bySteps xs pa pb pc_ pd = some o) : mC l g yX9_bySteps cX9_bySteps 10 (some .long) (rM 3 66) [.ref (a i), .int pa, .int pb, .int pc_, .int pd] (wX9 g a i xs) (wX9 g a i o.2) (some (.long o.1)) := by
  refine mC.ofW (by decide) (fun p e s m below meth c X hH ls _ hl => ?_) (Nat.le_of_ble_eq_true rfl)
  have hx := X.1
  have hb := X.2.1
  have hl : lv_has ls 10 [(0, .ref (a i)), (1, .int pa), (2, .int pb), (3, .int pc_), (4, .int pd)] := hl
  unfold fX9_bySteps at h
  suffices HH : ∀ (H : Heap) (locs : List Loc), mH g s (wX9 g a i xs) (wX9 g a i xs) H locs → W p l e (rM 3 66) s m _ below meth c H locs 0 0 (mZ g below _ s (wX9 g a i xs) (wX9 g a i o.2) (some (.long o.1))) (F0 m 0 ls []) from HH _ _ hH
  clear hH
  intro H locs hH
  refine lv_aload_n hx hb dX9_bySteps_0 rfl (lv_at hl 0 rfl) ?_
  refine lv_iload_n hx hb dX9_bySteps_1 rfl (lv_at hl 1 rfl) ?_
  obtain ⟨o1, ho1, h⟩ := bd_x h
  refine r_V X hH (ws1 := (wX9 g a i xs)) (As := [.int pa]) (rest := []) (st1 := [.int o1]) (uX9_isPoint (a := a) (i := i) ho1) kX9_isPoint mX9_141 iX9_isPoint vX9_isPoint zX9 okX9_isPoint ⟨Nat.le_of_ble_eq_true rfl, Nat.le_of_ble_eq_true rfl⟩ rfl rfl (q0 := 0) rfl rfl [0, 1, 2, 3, 4, 5, 6, 7, 8, 9, 10, 11, 12, 13, 14, 15, 16, 17, 18, 19, 20, 21, 22, 23, 24, 25, 26, 27, 28, 29, 30, 31, 32, 33] rfl rfl rfl (putl_self _ _ rfl) rfl hl.1 rfl (Nat.le_of_ble_eq_true rfl) ⟨Nat.le_refl 0, Nat.le_refl 0⟩ rfl dX9_bySteps_2 (fun H locs hH => ?_)
  refine lv_if_eq (tgt := 16) hx hb dX9_bySteps_5 (by decide) (fun c1 => ?_) (fun c1 => ?_)
  · have h := it_x h c1
    exact pX9_bySteps_16 X  xs H locs ls h hH (lv_sub hl [0, 1, 2, 3, 4] rfl)
  · have h := ie_x h c1
    refine lv_aload_n hx hb dX9_bySteps_8 rfl (lv_at hl 0 rfl) ?_
    refine lv_iload_n hx hb dX9_bySteps_9 rfl (lv_at hl 2 rfl) ?_
    obtain ⟨o3, ho3, h⟩ := bd_x h
    refine r_V X hH (ws1 := (wX9 g a i xs)) (As := [.int pb]) (rest := []) (st1 := [.int o3]) (uX9_isPoint (a := a) (i := i) ho3) kX9_isPoint mX9_141 iX9_isPoint vX9_isPoint zX9 okX9_isPoint ⟨Nat.le_of_ble_eq_true rfl, Nat.le_of_ble_eq_true rfl⟩ rfl rfl (q0 := 0) rfl rfl [0, 1, 2, 3, 4, 5, 6, 7, 8, 9, 10, 11, 12, 13, 14, 15, 16, 17, 18, 19, 20, 21, 22, 23, 24, 25, 26, 27, 28, 29, 30, 31, 32, 33] rfl rfl rfl (putl_self _ _ rfl) rfl hl.1 rfl (Nat.le_of_ble_eq_true rfl) ⟨Nat.le_refl 0, Nat.le_refl 0⟩ rfl dX9_bySteps_10 (fun H locs hH => ?_)
    refine lv_if_ne (tgt := 22) hx hb dX9_bySteps_13 (by decide) (fun c2 => ?_) (fun c2 => ?_)
    · have h := ie_x h c2
      refine lv_iload_n hx hb dX9_bySteps_22 rfl (lv_at hl 3 rfl) ?_
      refine lv_if_ge (tgt := 33) hx hb dX9_bySteps_23 (by decide) (fun c3 => ?_) (fun c3 => ?_)
      · have h := it_x h c3
        refine lv_iload_n hx hb dX9_bySteps_33 rfl (lv_at hl 3 rfl) ?_
        refine lv_bipush (v := (30 : Int32)) hx hb dX9_bySteps_34 (by decide) ?_
        refine lv_icmp_le (tgt := 46) hx hb dX9_bySteps_36 (by decide) (fun c4 => ?_) (fun c4 => ?_)
        · have h := it_x h c4
          refine lv_iload hx hb dX9_bySteps_46 (lv_at hl 4 rfl) ?_
          refine lv_i2l hx hb dX9_bySteps_48 rfl ?_
          refine lv_lconst (v := (0 : Int64)) hx hb dX9_bySteps_49 (by decide) ?_
          refine lv_lconst (v := (1 : Int64)) hx hb dX9_bySteps_50 (by decide) ?_
          obtain ⟨o4, ho4, h⟩ := bd_x h
          refine r_S X hH (ws1 := (wX9 g a i xs)) (As := [.long (pd.toInt64), .long (0 : Int64), .long (1 : Int64)]) (rest := []) (st1 := [.int o4]) (uX9_isIn  ho4) kX9_isIn mX9_116 sX9_isIn zX9 okX9_isIn ⟨Nat.le_of_ble_eq_true rfl, Nat.le_of_ble_eq_true rfl⟩ rfl rfl [] rfl rfl rfl (putl_self _ _ rfl) rfl hl.1 rfl (Nat.le_of_ble_eq_true rfl) ⟨Nat.le_refl 0, Nat.le_refl 0⟩ rfl dX9_bySteps_51 (fun H locs hH => ?_)
          refine lv_if_ne (tgt := 64) hx hb dX9_bySteps_54 (by decide) (fun c5 => ?_) (fun c5 => ?_)
          · have h := ie_x h c5
            refine lv_aload_n hx hb dX9_bySteps_64 rfl (lv_at hl 0 rfl) ?_
            obtain ⟨o5, ho5, h⟩ := bd_x h
            refine r_V X hH (ws1 := (wX9 g a i o5)) (As := []) (rest := []) (st1 := []) (uX9_allThere (a := a) (i := i) ho5) kX9_allThere mX9_230 iX9_allThere vX9_allThere zX9 okX9_allThere ⟨Nat.le_of_ble_eq_true rfl, Nat.le_of_ble_eq_true rfl⟩ rfl rfl (q0 := 0) rfl rfl [0, 1, 2, 3, 4, 5, 6, 7, 8, 9, 10, 11, 12, 13, 14, 15, 16, 17, 18, 19, 20, 21, 22, 23, 24, 25, 26, 27, 28, 29, 30, 31, 32, 33] rfl rfl rfl rfl rfl hl.1 rfl (Nat.le_of_ble_eq_true rfl) ⟨Nat.le_refl 0, Nat.le_refl 0⟩ rfl dX9_bySteps_65 (fun H locs hH => ?_)
            refine lv_iconst (v := (0 : Int32)) hx hb dX9_bySteps_68 (by decide) ?_
            refine s_i X (lv' := [(5, .int (0 : Int32)), (0, .ref (a i)), (1, .int pa), (2, .int pb), (3, .int pc_), (4, .int pd)]) hl rfl dX9_bySteps_69 (by decide) rfl (fun ls hl => ?_)
            exact pX9_bySteps_71 X FU o5 (0 : Int32) H locs ls h hH (lv_sub hl [1, 2, 3, 4, 5, 0] rfl)
          · have h := it_x h c5
            refine lv_aload_n hx hb dX9_bySteps_57 rfl (lv_at hl 0 rfl) ?_
            refine lv_bipush (v := (-2 : Int32)) hx hb dX9_bySteps_58 (by decide) ?_
            obtain ⟨o9, ho9, h⟩ := bd_x h
            refine r_V X hH (ws1 := (wX9 g a i o9.2)) (As := [.int (-2 : Int32)]) (rest := []) (st1 := [.long o9.1]) (uX9_far (a := a) (i := i) ho9) kX9_far mX9_272 iX9_far vX9_far zX9 okX9_far ⟨Nat.le_of_ble_eq_true rfl, Nat.le_of_ble_eq_true rfl⟩ rfl rfl (q0 := 0) rfl rfl [0, 1, 2, 3, 4, 5, 6, 7, 8, 9, 10, 11, 12, 13, 14, 15, 16, 17, 18, 19, 20, 21, 22, 23, 24, 25, 26, 27, 28, 29, 30, 31, 32, 33] rfl rfl rfl rfl rfl hl.1 rfl (Nat.le_of_ble_eq_true rfl) ⟨Nat.le_refl 0, Nat.le_refl 0⟩ rfl dX9_bySteps_60 (fun H locs hH => ?_)
            cases h
            exact e_l X hH dX9_bySteps_63
        · have h := ie_x h c4
          refine lv_aload_n hx hb dX9_bySteps_39 rfl (lv_at hl 0 rfl) ?_
          refine lv_bipush (v := (-6 : Int32)) hx hb dX9_bySteps_40 (by decide) ?_
          obtain ⟨o10, ho10, h⟩ := bd_x h
          refine r_V X hH (ws1 := (wX9 g a i o10.2)) (As := [.int (-6 : Int32)]) (rest := []) (st1 := [.long o10.1]) (uX9_far (a := a) (i := i) ho10) kX9_far mX9_272 iX9_far vX9_far zX9 okX9_far ⟨Nat.le_of_ble_eq_true rfl, Nat.le_of_ble_eq_true rfl⟩ rfl rfl (q0 := 0) rfl rfl [0, 1, 2, 3, 4, 5, 6, 7, 8, 9, 10, 11, 12, 13, 14, 15, 16, 17, 18, 19, 20, 21, 22, 23, 24, 25, 26, 27, 28, 29, 30, 31, 32, 33] rfl rfl rfl rfl rfl hl.1 rfl (Nat.le_of_ble_eq_true rfl) ⟨Nat.le_refl 0, Nat.le_refl 0⟩ rfl dX9_bySteps_42 (fun H locs hH => ?_)
          cases h
          exact e_l X hH dX9_bySteps_45
      · have h := ie_x h c3
        refine lv_aload_n hx hb dX9_bySteps_26 rfl (lv_at hl 0 rfl) ?_
        refine lv_bipush (v := (-4 : Int32)) hx hb dX9_bySteps_27 (by decide) ?_
        obtain ⟨o11, ho11, h⟩ := bd_x h
        refine r_V X hH (ws1 := (wX9 g a i o11.2)) (As := [.int (-4 : Int32)]) (rest := []) (st1 := [.long o11.1]) (uX9_far (a := a) (i := i) ho11) kX9_far mX9_272 iX9_far vX9_far zX9 okX9_far ⟨Nat.le_of_ble_eq_true rfl, Nat.le_of_ble_eq_true rfl⟩ rfl rfl (q0 := 0) rfl rfl [0, 1, 2, 3, 4, 5, 6, 7, 8, 9, 10, 11, 12, 13, 14, 15, 16, 17, 18, 19, 20, 21, 22, 23, 24, 25, 26, 27, 28, 29, 30, 31, 32, 33] rfl rfl rfl rfl rfl hl.1 rfl (Nat.le_of_ble_eq_true rfl) ⟨Nat.le_refl 0, Nat.le_refl 0⟩ rfl dX9_bySteps_29 (fun H locs hH => ?_)
        cases h
        exact e_l X hH dX9_bySteps_32
    · have h := it_x h c2
      exact pX9_bySteps_16 X  xs H locs ls h hH (lv_sub hl [0, 1, 2, 3, 4] rfl)
