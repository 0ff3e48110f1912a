def fX9_draw (xs : SX9) (pa : Int32) : Option (Int32 × SX9) :=
  ltt ((m_z_s xs (((m_z xs) * (1664525 : Int32)) + (1013904223 : Int32)))) fun xs1 =>
  gz (pa) <|
  some (((((m_z xs1) &&& (2147483647 : Int32)) / (256 : Int32)) - (((m_z xs1) &&& (2147483647 : Int32)) / (256 : Int32)) / pa * pa), xs1)
set_option maxHeartbeats 4000000 in
set_option maxRecDepth 100000 in
theorem uX9_draw {l : Launch} {g : GG} {a : Nat → Nat} {i : Nat} {xs : SX9} {pa : Int32} {o : (Int32 × SX9)} (h : fX9_draw xs pa = some o) : mC l g yX9_draw cX9_draw 2 (some .int) (rM 0 0) [.ref (a i), .int pa] (wX9 g a i xs) (wX9 g a i o.2) (some (.int o.1)) := by
  refine mC.ofW (by decide) (fun p e s m below meth c X hH ls _ hl => ?_) (Nat.le_of_ble_eq_true rfl)
  have hx := X.1
  have hb := X.2.1
  have hl : lv_has ls 2 [(0, .ref (a i)), (1, .int pa)] := hl
  unfold fX9_draw at h
  suffices HH : ∀ (H : Heap) (locs : List Loc), mH g s (wX9 g a i xs) (wX9 g a i xs) H locs → W p l e (rM 0 0) s m _ below meth c H locs 0 0 (mZ g below _ s (wX9 g a i xs) (wX9 g a i o.2) (some (.int o.1))) (F0 m 0 ls []) from HH _ _ hH
  clear hH
  intro H locs hH
  refine lv_aload_n hx hb dX9_draw_0 rfl (lv_at hl 0 rfl) ?_
  refine lv_aload_n hx hb dX9_draw_1 rfl (lv_at hl 0 rfl) ?_
  refine f_get X hH 0 rfl rfl 32 (by decide) inX9 fX9_326 rfl dX9_draw_2 ?_
  refine lv_ldcw hx hb X.2.2.2.2.1 (X.2.2.2.2.2.1 _ nX9_329) dX9_draw_5 ?_
  refine lv_imul hx hb dX9_draw_8 ?_
  refine lv_ldcw hx hb X.2.2.2.2.1 (X.2.2.2.2.2.1 _ nX9_330) dX9_draw_9 ?_
  refine lv_iadd hx hb dX9_draw_12 ?_
  obtain ⟨xs1, exs1, h⟩ := ltt_x h
  refine f_put X hH (ws1 := (wX9 g a i xs1)) 0 rfl rfl 32 (by decide) inX9 tyX9 tyX9_ok nmX9 fX9_326 rfl rfl rfl (Nat.le_of_ble_eq_true rfl) (by rw [exs1]; rfl) dX9_draw_13 (fun H locs hH => ?_)
  refine lv_aload_n hx hb dX9_draw_16 rfl (lv_at hl 0 rfl) ?_
  refine f_get X hH 0 rfl rfl 32 (by decide) inX9 fX9_326 rfl dX9_draw_17 ?_
  refine lv_ldcw hx hb X.2.2.2.2.1 (X.2.2.2.2.2.1 _ nX9_331) dX9_draw_20 ?_
  refine lv_iand hx hb dX9_draw_23 ?_
  refine lv_sipush (v := (256 : Int32)) hx hb dX9_draw_24 (by decide) ?_
  refine lv_idiv hx hb dX9_draw_27 (by decide) ?_
  refine lv_iload_n hx hb dX9_draw_28 rfl (lv_at hl 1 rfl) ?_
  obtain ⟨z1, h⟩ := gz_x h
  refine lv_irem hx hb dX9_draw_29 z1 ?_
  cases h
  exact e_i X hH dX9_draw_30

def qX9_wayFrom_32 (pa : Int32) (k41 : SX9 → Int32 → Int32 → Option (Int32 × SX9)) (xs : SX9) (l2 : Int32) (l3 : Int32) : Option (Int32 × SX9) :=
  (fX9_weight xs l3).bind fun o3 =>
  (if l2 < o3 then
  some (l3, xs)
  else
  k41 xs l2 l3)
def qX9_wayFrom_62 (pa : Int32) (k71 : SX9 → Int32 → Int32 → Int32 → Option (Int32 × SX9)) (xs : SX9) (l3 : Int32) (t0 : Int32) : Option (Int32 × SX9) :=
  (fX9_weight xs l3).bind fun o4 =>
  k71 xs l3 t0 o4
def qX9_wayFrom_71 (pa : Int32) (k12 : SX9 → Int32 → Int32 → Option (Int32 × SX9)) (xs : SX9) (l3 : Int32) (t0 : Int32) (t1 : Int32) : Option (Int32 × SX9) :=
  ltt ((t0 - t1)) fun v1 =>
  ltt (l3 + (1 : Int32)) fun v2 =>
  k12 xs v1 v2
def qX9_wayFrom_41 (pa : Int32) (k12 : SX9 → Int32 → Int32 → Option (Int32 × SX9)) (xs : SX9) (l2 : Int32) (l3 : Int32) : Option (Int32 × SX9) :=
  ga 11 l3 fun j2 =>
  (if ((m_first xs) j2) = pa then
  qX9_wayFrom_62 pa (qX9_wayFrom_71 pa k12) xs l3 l2
  else
  ga 11 l3 fun j3 =>
  (if ((m_second xs) j3) = pa then
  qX9_wayFrom_62 pa (qX9_wayFrom_71 pa k12) xs l3 l2
  else
  qX9_wayFrom_71 pa k12 xs l3 l2 (0 : Int32)))
def qX9_wayFrom_12 (pa : Int32)  : Nat → SX9 → Int32 → Int32 → Option (Int32 × SX9)
  | 0, _, _, _ => none
  | fu + 1, xs, l2, l3 =>
  ga 11 l3 fun j1 =>
  (if ((m_first xs) j1) = pa then
  qX9_wayFrom_32 pa (qX9_wayFrom_41 pa (qX9_wayFrom_12 pa  fu)) xs l2 l3
  else
  ga 11 l3 fun j4 =>
  (if ((m_second xs) j4) = pa then
  qX9_wayFrom_32 pa (qX9_wayFrom_41 pa (qX9_wayFrom_12 pa  fu)) xs l2 l3
  else
  qX9_wayFrom_41 pa (qX9_wayFrom_12 pa  fu) xs l2 l3))
def fX9_wayFrom (xs : SX9) (pa : Int32) : Option (Int32 × SX9) :=
  (fX9_weightsAt xs pa).bind fun o1 =>
  (fX9_draw xs o1).bind fun o2 =>
  qX9_wayFrom_12 pa FU o2.2 o2.1 (0 : Int32)
set_option maxHeartbeats 4000000 in
set_option maxRecDepth 100000 in
theorem pX9_wayFrom_32 {p : Program} {l : Launch} {e : Env} {s : State} {m : MethodId} {args : Array Value} {below : List Frame} {meth : Method} {c : Code} {g : GG} {w0 : va_W} {a : Nat → Nat} {i : Nat} {pa : Int32} {o : (Int32 × SX9)} (X : mX g yX9_wayFrom cX9_wayFrom 4 (some .int) p s m args meth c w0)
  {k41 : SX9 → Int32 → Int32 → Option (Int32 × SX9)} (K41 : ∀ (xs : SX9) (l2 : Int32) (l3 : Int32) (H : Heap) (locs : List Loc) (ls : Array Slot), k41 xs l2 l3 = some o → mH g s w0 (wX9 g a i xs) H locs → lv_has ls 4 [(0, .ref (a i)), (1, .int pa), (2, .int l2), (3, .int l3)] → W p l e (rM 3 66) s m args below meth c H locs 0 0 (mZ g below args s w0 (wX9 g a i o.2) (some (.int o.1))) (F0 m 41 ls [])) :
  ∀ (xs : SX9) (l2 : Int32) (l3 : Int32) (H : Heap) (locs : List Loc) (ls : Array Slot), qX9_wayFrom_32 pa k41 xs l2 l3 = some o → mH g s w0 (wX9 g a i xs) H locs → lv_has ls 4 [(0, .ref (a i)), (1, .int pa), (2, .int l2), (3, .int l3)] → W p l e (rM 3 66) s m args below meth c H locs 0 0 (mZ g below args s w0 (wX9 g a i o.2) (some (.int o.1))) (F0 m 32 ls []) := by
  have hx := X.1
  have hb := X.2.1
  intro xs l2 l3 H locs ls h hH hl
  unfold qX9_wayFrom_32 at h
  refine lv_iload_n hx hb dX9_wayFrom_32 rfl (lv_at hl 2 rfl) ?_
  refine lv_aload_n hx hb dX9_wayFrom_33 rfl (lv_at hl 0 rfl) ?_
  refine lv_iload_n hx hb dX9_wayFrom_34 rfl (lv_at hl 3 rfl) ?_
  obtain ⟨o3, ho3, h⟩ := bd_x h
  refine r_V X hH (ws1 := (wX9 g a i xs)) (As := [.int l3]) (rest := [.int l2]) (st1 := [.int o3, .int l2]) (uX9_weight (a := a) (i := i) ho3) kX9_weight mX9_171 iX9_weight vX9_weight zX9 okX9_weight ⟨Nat.le_of_ble_eq_true rfl, Nat.le_of_ble_eq_true rfl⟩ rfl rfl (q0 := 0) rfl rfl [0, 1, 2, 3, 4, 5, 6, 7, 8, 9, 10, 11, 12, 13, 14, 15, 16, 17, 18, 19, 20, 21, 22, 23, 24, 25, 26, 27, 28, 29, 30, 31, 32, 33] rfl rfl rfl (putl_self _ _ rfl) rfl hl.1 rfl (Nat.le_of_ble_eq_true rfl) ⟨Nat.le_refl 0, Nat.le_refl 0⟩ rfl dX9_wayFrom_35 (fun H locs hH => ?_)
  refine lv_icmp_lt (tgt := 79) hx hb dX9_wayFrom_38 (by decide) (fun c2 => ?_) (fun c2 => ?_)
  · have h := it_x h c2
    refine lv_iload_n hx hb dX9_wayFrom_79 rfl (lv_at hl 3 rfl) ?_
    cases h
    exact e_i X hH dX9_wayFrom_80
  · have h := ie_x h c2
    exact K41 xs l2 l3 H locs ls h hH (lv_sub hl [0, 1, 2, 3] rfl)
set_option maxHeartbeats 4000000 in
set_option maxRecDepth 100000 in
theorem pX9_wayFrom_62 {p : Program} {l : Launch} {e : Env} {s : State} {m : MethodId} {args : Array Value} {below : List Frame} {meth : Method} {c : Code} {g : GG} {w0 : va_W} {a : Nat → Nat} {i : Nat} {pa : Int32} {o : (Int32 × SX9)} (X : mX g yX9_wayFrom cX9_wayFrom 4 (some .int) p s m args meth c w0)
  {k71 : SX9 → Int32 → Int32 → Int32 → Option (Int32 × SX9)} (K71 : ∀ (xs : SX9) (l3 : Int32) (t0 : Int32) (t1 : Int32) (H : Heap) (locs : List Loc) (ls : Array Slot), k71 xs l3 t0 t1 = some o → mH g s w0 (wX9 g a i xs) H locs → lv_has ls 4 [(0, .ref (a i)), (1, .int pa), (3, .int l3)] → W p l e (rM 3 66) s m args below meth c H locs 0 0 (mZ g below args s w0 (wX9 g a i o.2) (some (.int o.1))) (F0 m 71 ls [.int t1, .int t0])) :
  ∀ (xs : SX9) (l3 : Int32) (t0 : Int32) (H : Heap) (locs : List Loc) (ls : Array Slot), qX9_wayFrom_62 pa k71 xs l3 t0 = some o → mH g s w0 (wX9 g a i xs) H locs → lv_has ls 4 [(0, .ref (a i)), (1, .int pa), (3, .int l3)] → W p l e (rM 3 66) s m args below meth c H locs 0 0 (mZ g below args s w0 (wX9 g a i o.2) (some (.int o.1))) (F0 m 62 ls [.int t0]) := by
  have hx := X.1
  have hb := X.2.1
  intro xs l3 t0 H locs ls h hH hl
  unfold qX9_wayFrom_62 at h
  refine lv_aload_n hx hb dX9_wayFrom_62 rfl (lv_at hl 0 rfl) ?_
  refine lv_iload_n hx hb dX9_wayFrom_63 rfl (lv_at hl 2 rfl) ?_
  obtain ⟨o4, ho4, h⟩ := bd_x h
  refine r_V X hH (ws1 := (wX9 g a i xs)) (As := [.int l3]) (rest := [.int t0]) (st1 := [.int o4, .int t0]) (uX9_weight (a := a) (i := i) ho4) kX9_weight mX9_171 iX9_weight vX9_weight zX9 okX9_weight ⟨Nat.le_of_ble_eq_true rfl, Nat.le_of_ble_eq_true rfl⟩ rfl rfl (q0 := 0) rfl rfl [0, 1, 2, 3, 4, 5, 6, 7, 8, 9, 10, 11, 12, 13, 14, 15, 16, 17, 18, 19, 20, 21, 22, 23, 24, 25, 26, 27, 28, 29, 30, 31, 32, 33] rfl rfl rfl (putl_self _ _ rfl) rfl hl.1 rfl (Nat.le_of_ble_eq_true rfl) ⟨Nat.le_refl 0, Nat.le_refl 0⟩ rfl dX9_wayFrom_64 (fun H locs hH => ?_)
  refine lv_goto (tgt := 71) hx hb dX9_wayFrom_67 (by decide) ?_
  exact K71 xs l3 t0 o4 H locs ls h hH (lv_sub hl [0, 1, 2] rfl)
set_option maxHeartbeats 4000000 in
set_option maxRecDepth 100000 in
theorem pX9_wayFrom_71 {p : Program} {l : Launch} {e : Env} {s : State} {m : MethodId} {args : Array Value} {below : List Frame} {meth : Method} {c : Code} {g : GG} {w0 : va_W} {a : Nat → Nat} {i : Nat} {pa : Int32} {o : (Int32 × SX9)} (X : mX g yX9_wayFrom cX9_wayFrom 4 (some .int) p s m args meth c w0)
  {k12 : SX9 → Int32 → Int32 → Option (Int32 × SX9)} (K12 : ∀ (xs : SX9) (l2 : Int32) (l3 : Int32) (H : Heap) (locs : List Loc) (ls : Array Slot), k12 xs l2 l3 = some o → mH g s w0 (wX9 g a i xs) H locs → lv_has ls 4 [(0, .ref (a i)), (1, .int pa), (2, .int l2), (3, .int l3)] → W p l e (rM 3 66) s m args below meth c H locs 0 0 (mZ g below args s w0 (wX9 g a i o.2) (some (.int o.1))) (F0 m 12 ls [])) :
  ∀ (xs : SX9) (l3 : Int32) (t0 : Int32) (t1 : Int32) (H : Heap) (locs : List Loc) (ls : Array Slot), qX9_wayFrom_71 pa k12 xs l3 t0 t1 = some o → mH g s w0 (wX9 g a i xs) H locs → lv_has ls 4 [(0, .ref (a i)), (1, .int pa), (3, .int l3)] → W p l e (rM 3 66) s m args below meth c H locs 0 0 (mZ g below args s w0 (wX9 g a i o.2) (some (.int o.1))) (F0 m 71 ls [.int t1, .int t0]) := by
  have hx := X.1
  have hb := X.2.1
  intro xs l3 t0 t1 H locs ls h hH hl
  unfold qX9_wayFrom_71 at h
  refine lv_isub hx hb dX9_wayFrom_71 ?_
  obtain ⟨v1, ev1, h⟩ := ltt_x h
  refine s_in X (lv' := [(2, .int v1), (0, .ref (a i)), (1, .int pa), (3, .int l3)]) hl ev1 dX9_wayFrom_72 rfl (by decide) rfl (fun ls hl => ?_)
  obtain ⟨v2, ev2, h⟩ := ltt_x h
  refine s_inc X (k := 3) (lv' := [(3, .int v2), (2, .int v1), (0, .ref (a i)), (1, .int pa)]) hl rfl (by rw [ev2]; rfl) dX9_wayFrom_73 (by decide) rfl (fun ls hl => ?_)
  refine lv_goto (tgt := 12) hx hb dX9_wayFrom_76 (by decide) ?_
  exact K12 xs v1 v2 H locs ls h hH (lv_sub hl [2, 3, 1, 0] rfl)
set_option maxHeartbeats 4000000 in
set_option maxRecDepth 100000 in
theorem pX9_wayFrom_41 {p : Program} {l : Launch} {e : Env} {s : State} {m : MethodId} {args : Array Value} {below : List Frame} {meth : Method} {c : Code} {g : GG} {w0 : va_W} {a : Nat → Nat} {i : Nat} {pa : Int32} {o : (Int32 × SX9)} (X : mX g yX9_wayFrom cX9_wayFrom 4 (some .int) p s m args meth c w0)
  {k12 : SX9 → Int32 → Int32 → Option (Int32 × SX9)} (K12 : ∀ (xs : SX9) (l2 : Int32) (l3 : Int32) (H : Heap) (locs : List Loc) (ls : Array Slot), k12 xs l2 l3 = some o → mH g s w0 (wX9 g a i xs) H locs → lv_has ls 4 [(0, .ref (a i)), (1, .int pa), (2, .int l2), (3, .int l3)] → W p l e (rM 3 66) s m args below meth c H locs 0 0 (mZ g below args s w0 (wX9 g a i o.2) (some (.int o.1))) (F0 m 12 ls [])) :
  ∀ (xs : SX9) (l2 : Int32) (l3 : Int32) (H : Heap) (locs : List Loc) (ls : Array Slot), qX9_wayFrom_41 pa k12 xs l2 l3 = some o → mH g s w0 (wX9 g a i xs) H locs → lv_has ls 4 [(0, .ref (a i)), (1, .int pa), (2, .int l2), (3, .int l3)] → W p l e (rM 3 66) s m args below meth c H locs 0 0 (mZ g below args s w0 (wX9 g a i o.2) (some (.int o.1))) (F0 m 41 ls []) := by
  have hx := X.1
  have hb := X.2.1
  intro xs l2 l3 H locs ls h hH hl
  unfold qX9_wayFrom_41 at h
  refine lv_iload_n hx hb dX9_wayFrom_41 rfl (lv_at hl 2 rfl) ?_
  refine lv_aload_n hx hb dX9_wayFrom_42 rfl (lv_at hl 0 rfl) ?_
  refine f_get X hH 0 rfl rfl 2 (by decide) inX9 fX9_13 rfl dX9_wayFrom_43 ?_
  refine lv_iload_n hx hb dX9_wayFrom_46 rfl (lv_at hl 3 rfl) ?_
  obtain ⟨j2, ej2, hinj2, h⟩ := ga_x h
  refine a_il X hH 1 rfl hinj2 ej2 dX9_wayFrom_47 ?_
  refine lv_iload_n hx hb dX9_wayFrom_48 rfl (lv_at hl 1 rfl) ?_
  refine lv_icmp_eq (tgt := 62) hx hb dX9_wayFrom_49 (by decide) (fun c3 => ?_) (fun c3 => ?_)
  · have h := it_x h c3
    exact pX9_wayFrom_62 X (pX9_wayFrom_71 X K12) xs l3 l2 H locs ls h hH (lv_sub hl [0, 1, 3] rfl)
  · have h := ie_x h c3
    refine lv_aload_n hx hb dX9_wayFrom_52 rfl (lv_at hl 0 rfl) ?_
    refine f_get X hH 0 rfl rfl 3 (by decide) inX9 fX9_17 rfl dX9_wayFrom_53 ?_
    refine lv_iload_n hx hb dX9_wayFrom_56 rfl (lv_at hl 3 rfl) ?_
    obtain ⟨j3, ej3, hinj3, h⟩ := ga_x h
    refine a_il X hH 2 rfl hinj3 ej3 dX9_wayFrom_57 ?_
    refine lv_iload_n hx hb dX9_wayFrom_58 rfl (lv_at hl 1 rfl) ?_
    refine lv_icmp_ne (tgt := 70) hx hb dX9_wayFrom_59 (by decide) (fun c4 => ?_) (fun c4 => ?_)
    · have h := ie_x h c4
      refine lv_iconst (v := (0 : Int32)) hx hb dX9_wayFrom_70 (by decide) ?_
      exact pX9_wayFrom_71 X K12 xs l3 l2 (0 : Int32) H locs ls h hH (lv_sub hl [0, 1, 3] rfl)
    · have h := it_x h c4
      exact pX9_wayFrom_62 X (pX9_wayFrom_71 X K12) xs l3 l2 H locs ls h hH (lv_sub hl [0, 1, 3] rfl)
set_option maxHeartbeats 4000000 in
set_option maxRecDepth 100000 in
theorem pX9_wayFrom_12 {p : Program} {l : Launch} {e : Env} {s : State} {m : MethodId} {args : Array Value} {below : List Frame} {meth : Method} {c : Code} {g : GG} {w0 : va_W} {a : Nat → Nat} {i : Nat} {pa : Int32} {o : (Int32 × SX9)} (X : mX g yX9_wayFrom cX9_wayFrom 4 (some .int) p s m args meth c w0) :
  ∀ (fu : Nat) (xs : SX9) (l2 : Int32) (l3 : Int32) (H : Heap) (locs : List Loc) (ls : Array Slot), qX9_wayFrom_12 pa fu xs l2 l3 = some o → mH g s w0 (wX9 g a i xs) H locs → lv_has ls 4 [(0, .ref (a i)), (1, .int pa), (2, .int l2), (3, .int l3)] → W p l e (rM 3 66) s m args below meth c H locs 0 0 (mZ g below args s w0 (wX9 g a i o.2) (some (.int o.1))) (F0 m 12 ls []) := by
  have hx := X.1
  have hb := X.2.1
  intro fu
  induction fu with
  | zero =>
    intro xs l2 l3 H locs ls h
    unfold qX9_wayFrom_12 at h
    cases h
  | succ fu ih =>
    intro xs l2 l3 H locs ls h hH hl
    unfold qX9_wayFrom_12 at h
    refine lv_aload_n hx hb dX9_wayFrom_12 rfl (lv_at hl 0 rfl) ?_
    refine f_get X hH 0 rfl rfl 2 (by decide) inX9 fX9_13 rfl dX9_wayFrom_13 ?_
    refine lv_iload_n hx hb dX9_wayFrom_16 rfl (lv_at hl 3 rfl) ?_
    obtain ⟨j1, ej1, hinj1, h⟩ := ga_x h
    refine a_il X hH 1 rfl hinj1 ej1 dX9_wayFrom_17 ?_
    refine lv_iload_n hx hb dX9_wayFrom_18 rfl (lv_at hl 1 rfl) ?_
    refine lv_icmp_eq (tgt := 32) hx hb dX9_wayFrom_19 (by decide) (fun c1 => ?_) (fun c1 => ?_)
    · have h := it_x h c1
      exact pX9_wayFrom_32 X (pX9_wayFrom_41 X ih) xs l2 l3 H locs ls h hH (lv_sub hl [0, 1, 2, 3] rfl)
    · have h := ie_x h c1
      refine lv_aload_n hx hb dX9_wayFrom_22 rfl (lv_at hl 0 rfl) ?_
      refine f_get X hH 0 rfl rfl 3 (by decide) inX9 fX9_17 rfl dX9_wayFrom_23 ?_
      refine lv_iload_n hx hb dX9_wayFrom_26 rfl (lv_at hl 3 rfl) ?_
      obtain ⟨j4, ej4, hinj4, h⟩ := ga_x h
      refine a_il X hH 2 rfl hinj4 ej4 dX9_wayFrom_27 ?_
      refine lv_iload_n hx hb dX9_wayFrom_28 rfl (lv_at hl 1 rfl) ?_
      refine lv_icmp_ne (tgt := 41) hx hb dX9_wayFrom_29 (by decide) (fun c5 => ?_) (fun c5 => ?_)
      · have h := ie_x h c5
        exact pX9_wayFrom_41 X ih xs l2 l3 H locs ls h hH (lv_sub hl [0, 1, 2, 3] rfl)
      · have h := it_x h c5
        exact pX9_wayFrom_32 X (pX9_wayFrom_41 X ih) xs l2 l3 H locs ls h hH (lv_sub hl [0, 1, 2, 3] rfl)
set_option maxHeartbeats 4000000 in
set_option maxRecDepth 100000 in
theorem uX9_wayFrom {l : Launch} {g : GG} {a : Nat → Nat} {i : Nat} {xs : SX9} {pa : Int32} {o : (Int32 × SX9)} (h : fX9_wayFrom xs pa = some o) : mC l g yX9_wayFrom cX9_wayFrom 4 (some .int) (rM 3 66) [.ref (a i), .int pa] (wX9 g a i xs) (wX9 g a i o.2) (some (.int o.1)) := by
  refine mC.ofW (by decide) (fun p e s m below meth c X hH ls _ hl => ?_) (Nat.le_of_ble_eq_true rfl)
  have hx := X.1
  have hb := X.2.1
  have hl : lv_has ls 4 [(0, .ref (a i)), (1, .int pa)] := hl
  unfold fX9_wayFrom at h
  suffices HH : ∀ (H : Heap) (locs : List Loc), mH g s (wX9 g a i xs) (wX9 g a i xs) H locs → W p l e (rM 3 66) s m _ below meth c H locs 0 0 (mZ g below _ s (wX9 g a i xs) (wX9 g a i o.2) (some (.int o.1))) (F0 m 0 ls []) from HH _ _ hH
  clear hH
  intro H locs hH
  refine lv_aload_n hx hb dX9_wayFrom_0 rfl (lv_at hl 0 rfl) ?_
  refine lv_aload_n hx hb dX9_wayFrom_1 rfl (lv_at hl 0 rfl) ?_
  refine lv_iload_n hx hb dX9_wayFrom_2 rfl (lv_at hl 1 rfl) ?_
  obtain ⟨o1, ho1, h⟩ := bd_x h
  refine r_V X hH (ws1 := (wX9 g a i xs)) (As := [.int pa]) (rest := [.ref (a i)]) (st1 := [.int o1, .ref (a i)]) (uX9_weightsAt (a := a) (i := i) ho1) kX9_weightsAt mX9_239 iX9_weightsAt vX9_weightsAt zX9 okX9_weightsAt ⟨Nat.le_of_ble_eq_true rfl, Nat.le_of_ble_eq_true rfl⟩ rfl rfl (q0 := 0) rfl rfl [0, 1, 2, 3, 4, 5, 6, 7, 8, 9, 10, 11, 12, 13, 14, 15, 16, 17, 18, 19, 20, 21, 22, 23, 24, 25, 26, 27, 28, 29, 30, 31, 32, 33] rfl rfl rfl (putl_self _ _ rfl) rfl hl.1 rfl (Nat.le_of_ble_eq_true rfl) ⟨Nat.le_refl 0, Nat.le_refl 0⟩ rfl dX9_wayFrom_3 (fun H locs hH => ?_)
  obtain ⟨o2, ho2, h⟩ := bd_x h
  refine r_V X hH (ws1 := (wX9 g a i o2.2)) (As := [.int o1]) (rest := []) (st1 := [.int o2.1]) (uX9_draw (a := a) (i := i) ho2) kX9_draw mX9_332 iX9_draw vX9_draw zX9 okX9_draw ⟨Nat.le_of_ble_eq_true rfl, Nat.le_of_ble_eq_true rfl⟩ rfl rfl (q0 := 0) rfl rfl [0, 1, 2, 3, 4, 5, 6, 7, 8, 9, 10, 11, 12, 13, 14, 15, 16, 17, 18, 19, 20, 21, 22, 23, 24, 25, 26, 27, 28, 29, 30, 31, 32, 33] rfl rfl rfl rfl rfl hl.1 rfl (Nat.le_of_ble_eq_true rfl) ⟨Nat.le_refl 0, Nat.le_refl 0⟩ rfl dX9_wayFrom_6 (fun H locs hH => ?_)
  refine s_in X (lv' := [(2, .int o2.1), (0, .ref (a i)), (1, .int pa)]) hl rfl dX9_wayFrom_9 rfl (by decide) rfl (fun ls hl => ?_)
  refine lv_iconst (v := (0 : Int32)) hx hb dX9_wayFrom_10 (by decide) ?_
  refine s_in X (lv' := [(3, .int (0 : Int32)), (2, .int o2.1), (0, .ref (a i)), (1, .int pa)]) hl rfl dX9_wayFrom_11 rfl (by decide) rfl (fun ls hl => ?_)
  exact pX9_wayFrom_12 X FU o2.2 o2.1 (0 : Int32) H locs ls h hH (lv_sub hl [2, 3, 1, 0] rfl)

def qX9_lots_21 (pa : Int32) (pb : Int32) (pc_ : Int32) (pd : Int32) (pe : Int32)  (xs : SX9) : Option (Int32 × SX9) :=
  (fX9_no xs (-1 : Int32)).bind fun o2 =>
  some (o2.1, o2.2)
def qX9_lots_212 (pa : Int32) (pb : Int32) (pc_ : Int32) (pd : Int32) (pe : Int32) (k89 : SX9 → Int32 → Int32 → Int32 → Option (Int32 × SX9)) (xs : SX9) (l6 : Int32) (l8 : Int32) (t0 : Int32) (t1 : Int32) : Option (Int32 × SX9) :=
  ltt ((t0 + t1)) fun v2 =>
  ltt (l8 + (1 : Int32)) fun v3 =>
  k89 xs l6 v2 v3
def qX9_lots_195 (pa : Int32) (pb : Int32) (pc_ : Int32) (pd : Int32) (pe : Int32) (k89 : SX9 → Int32 → Int32 → Int32 → Option (Int32 × SX9)) (xs : SX9) (l7 : Int32) (l8 : Int32) (l9 : Int32) (l10 : Int32) (t0 : Int32) (t1 : Int32) : Option (Int32 × SX9) :=
  ltt ((t0 + t1)) fun v1 =>
  (if l9 = pb then
  qX9_lots_212 pa pb pc_ pd pe k89 xs v1 l8 l7 l10
  else
  qX9_lots_212 pa pb pc_ pd pe k89 xs v1 l8 l7 (0 : Int32))
def qX9_lots_182 (pa : Int32) (pb : Int32) (pc_ : Int32) (pd : Int32) (pe : Int32) (k89 : SX9 → Int32 → Int32 → Int32 → Option (Int32 × SX9)) (xs : SX9) (l6 : Int32) (l7 : Int32) (l8 : Int32) (l9 : Int32) (l10 : Int32) : Option (Int32 × SX9) :=
  (if l9 = pb then
  qX9_lots_195 pa pb pc_ pd pe k89 xs l7 l8 l9 l10 l6 (1 : Int32)
  else
  qX9_lots_195 pa pb pc_ pd pe k89 xs l7 l8 l9 l10 l6 (0 : Int32))
def qX9_lots_174 (pa : Int32) (pb : Int32) (pc_ : Int32) (pd : Int32) (pe : Int32) (k104 : SX9 → Int32 → Int32 → Int32 → Int32 → Int32 → Int32 → Option (Int32 × SX9)) (xs : SX9) (l6 : Int32) (l7 : Int32) (l8 : Int32) (l10 : Int32) (l11 : Int32) (t0 : Int32) : Option (Int32 × SX9) :=
  ltt (l11 + (1 : Int32)) fun v5 =>
  k104 xs l6 l7 l8 t0 l10 v5
def qX9_lots_104 (pa : Int32) (pb : Int32) (pc_ : Int32) (pd : Int32) (pe : Int32) (k89 : SX9 → Int32 → Int32 → Int32 → Option (Int32 × SX9)) : Nat → SX9 → Int32 → Int32 → Int32 → Int32 → Int32 → Int32 → Option (Int32 × SX9)
  | 0, _, _, _, _, _, _, _ => none
  | fu + 1, xs, l6, l7, l8, l9, l10, l11 =>
  (if (60 : Int32) ≤ l11 then
  qX9_lots_182 pa pb pc_ pd pe k89 xs l6 l7 l8 l9 l10
  else
  (if l9 = pb then
  qX9_lots_182 pa pb pc_ pd pe k89 xs l6 l7 l8 l9 l10
  else
  (fX9_weightsAt xs l9).bind fun o6 =>
  (if o6 ≤ (0 : Int32) then
  qX9_lots_182 pa pb pc_ pd pe k89 xs l6 l7 l8 l9 l10
  else
  (fX9_wayFrom xs l9).bind fun o7 =>
  (fX9_minutes o7.2 o7.1).bind fun o8 =>
  ltt ((l10 + o8)) fun v4 =>
  ga 11 o7.1 fun j1 =>
  (if ((m_first o7.2) j1) = l9 then
  ga 11 o7.1 fun j3 =>
  qX9_lots_174 pa pb pc_ pd pe (qX9_lots_104 pa pb pc_ pd pe k89 fu) o7.2 l6 l7 l8 v4 l11 ((m_second o7.2) j3)
  else
  ga 11 o7.1 fun j2 =>
  qX9_lots_174 pa pb pc_ pd pe (qX9_lots_104 pa pb pc_ pd pe k89 fu) o7.2 l6 l7 l8 v4 l11 ((m_first o7.2) j2)))))
def qX9_lots_89 (pa : Int32) (pb : Int32) (pc_ : Int32) (pd : Int32) (pe : Int32)  : Nat → SX9 → Int32 → Int32 → Int32 → Option (Int32 × SX9)
  | 0, _, _, _, _ => none
  | fu + 1, xs, l6, l7, l8 =>
  (if pc_ ≤ l8 then
  (if pe = (0 : Int32) then
  some (l6, xs)
  else
  some (l7, xs))
  else
  qX9_lots_104 pa pb pc_ pd pe (qX9_lots_89 pa pb pc_ pd pe  fu) FU xs l6 l7 l8 pa (0 : Int32) (0 : Int32))
def fX9_lots (xs : SX9) (pa : Int32) (pb : Int32) (pc_ : Int32) (pd : Int32) (pe : Int32) : Option (Int32 × SX9) :=
  (fX9_isPoint xs pa).bind fun o1 =>
  (if o1 = (0 : Int32) then
  qX9_lots_21 pa pb pc_ pd pe xs
  else
  (fX9_isPoint xs pb).bind fun o3 =>
  (if o3 = (0 : Int32) then
  qX9_lots_21 pa pb pc_ pd pe xs
  else
  (if pa = pb then
  qX9_lots_21 pa pb pc_ pd pe xs
  else
  (if (1 : Int32) ≤ pc_ then
  (if pc_ ≤ (30 : Int32) then
  (fX9_isIn (pe.toInt64) (0 : Int64) (1 : Int64)).bind fun o4 =>
  (if o4 = (0 : Int32) then
  (fX9_no xs (-2 : Int32)).bind fun o9 =>
  some (o9.1, o9.2)
  else
  (fX9_allThere xs).bind fun o5 =>
  ltt ((m_z_s o5 pd)) fun xs1 =>
  qX9_lots_89 pa pb pc_ pd pe FU xs1 (0 : Int32) (0 : Int32) (0 : Int32))
  else
  (fX9_no xs (-6 : Int32)).bind fun o10 =>
  some (o10.1, o10.2))
  else
  (fX9_no xs (-4 : Int32)).bind fun o11 =>
  some (o11.1, o11.2)))))
set_option maxHeartbeats 4000000 in
set_option maxRecDepth 100000 in
theorem pX9_lots_21 {p : Program} {l : Launch} {e : Env} {s : State} {m : MethodId} {args : Array Value} {below : List Frame} {meth : Method} {c : Code} {g : GG} {w0 : va_W} {a : Nat → Nat} {i : Nat} {pa : Int32} {pb : Int32} {pc_ : Int32} {pd : Int32} {pe : Int32} {o : (Int32 × SX9)} (X : mX g yX9_lots cX9_lots 13 (some .int) p s m args meth c w0) :
  ∀ (xs : SX9) (H : Heap) (locs : List Loc) (ls : Array Slot), qX9_lots_21 pa pb pc_ pd pe xs = some o → mH g s w0 (wX9 g a i xs) H locs → lv_has ls 13 [(0, .ref (a i)), (1, .int pa), (2, .int pb), (3, .int pc_), (4, .int pd), (5, .int pe)] → W p l e (rM 4 89) s m args below meth c H locs 0 0 (mZ g below args s w0 (wX9 g a i o.2) (some (.int o.1))) (F0 m 21 ls []) := by
  have hx := X.1
  have hb := X.2.1
  intro xs H locs ls h hH hl
  unfold qX9_lots_21 at h
  refine lv_aload_n hx hb dX9_lots_21 rfl (lv_at hl 0 rfl) ?_
  refine lv_iconst (v := (-1 : Int32)) hx hb dX9_lots_22 (by decide) ?_
  obtain ⟨o2, ho2, h⟩ := bd_x h
  refine r_V X hH (ws1 := (wX9 g a i o2.2)) (As := [.int (-1 : Int32)]) (rest := []) (st1 := [.int o2.1]) (uX9_no (a := a) (i := i) ho2) kX9_no mX9_125 iX9_no vX9_no zX9 okX9_no ⟨Nat.le_of_ble_eq_true rfl, Nat.le_of_ble_eq_true rfl⟩ rfl rfl (q0 := 0) rfl rfl [0, 1, 2, 3, 4, 5, 6, 7, 8, 9, 10, 11, 12, 13, 14, 15, 16, 17, 18, 19, 20, 21, 22, 23, 24, 25, 26, 27, 28, 29, 30, 31, 32, 33] rfl rfl rfl rfl rfl hl.1 rfl (Nat.le_of_ble_eq_true rfl) ⟨Nat.le_refl 0, Nat.le_refl 0⟩ rfl dX9_lots_23 (fun H locs hH => ?_)
  cases h
  exact e_i X hH dX9_lots_26
set_option maxHeartbeats 4000000 in
set_option maxRecDepth 100000 in
theorem pX9_lots_212 {p : Program} {l : Launch} {e : Env} {s : State} {m : MethodId} {args : Array Value} {below : List Frame} {meth : Method} {c : Code} {g : GG} {w0 : va_W} {a : Nat → Nat} {i : Nat} {pa : Int32} {pb : Int32} {pc_ : Int32} {pd : Int32} {pe : Int32} {o : (Int32 × SX9)} (X : mX g yX9_lots cX9_lots 13 (some .int) p s m args meth c w0)
  {k89 : SX9 → Int32 → Int32 → Int32 → Option (Int32 × SX9)} (K89 : ∀ (xs : SX9) (l6 : Int32) (l7 : Int32) (l8 : Int32) (H : Heap) (locs : List Loc) (ls : Array Slot), k89 xs l6 l7 l8 = some o → mH g s w0 (wX9 g a i xs) H locs → lv_has ls 13 [(0, .ref (a i)), (1, .int pa), (2, .int pb), (3, .int pc_), (4, .int pd), (5, .int pe), (6, .int l6), (7, .int l7), (8, .int l8)] → W p l e (rM 4 89) s m args below meth c H locs 0 0 (mZ g below args s w0 (wX9 g a i o.2) (some (.int o.1))) (F0 m 89 ls [])) :
  ∀ (xs : SX9) (l6 : Int32) (l8 : Int32) (t0 : Int32) (t1 : Int32) (H : Heap) (locs : List Loc) (ls : Array Slot), qX9_lots_212 pa pb pc_ pd pe k89 xs l6 l8 t0 t1 = some o → mH g s w0 (wX9 g a i xs) H locs → lv_has ls 13 [(0, .ref (a i)), (1, .int pa), (2, .int pb), (3, .int pc_), (4, .int pd), (5, .int pe), (6, .int l6), (8, .int l8)] → W p l e (rM 4 89) s m args below meth c H locs 0 0 (mZ g below args s w0 (wX9 g a i o.2) (some (.int o.1))) (F0 m 212 ls [.int t1, .int t0]) := by
  have hx := X.1
  have hb := X.2.1
  intro xs l6 l8 t0 t1 H locs ls h hH hl
  unfold qX9_lots_212 at h
  refine lv_iadd hx hb dX9_lots_212 ?_
  obtain ⟨v2, ev2, h⟩ := ltt_x h
  refine s_i X (lv' := [(7, .int v2), (0, .ref (a i)), (1, .int pa), (2, .int pb), (3, .int pc_), (4, .int pd), (5, .int pe), (6, .int l6), (8, .int l8)]) hl ev2 dX9_lots_213 (by decide) rfl (fun ls hl => ?_)
  obtain ⟨v3, ev3, h⟩ := ltt_x h
  refine s_inc X (k := 8) (lv' := [(8, .int v3), (7, .int v2), (0, .ref (a i)), (1, .int pa), (2, .int pb), (3, .int pc_), (4, .int pd), (5, .int pe), (6, .int l6)]) hl rfl (by rw [ev3]; rfl) dX9_lots_215 (by decide) rfl (fun ls hl => ?_)
  refine lv_goto (tgt := 89) hx hb dX9_lots_218 (by decide) ?_
  exact K89 xs l6 v2 v3 H locs ls h hH (lv_sub hl [2, 3, 4, 5, 6, 7, 8, 1, 0] rfl)
set_option maxHeartbeats 4000000 in
set_option maxRecDepth 100000 in
theorem pX9_lots_195 {p : Program} {l : Launch} {e : Env} {s : State} {m : MethodId} {args : Array Value} {below : List Frame} {meth : Method} {c : Code} {g : GG} {w0 : va_W} {a : Nat → Nat} {i : Nat} {pa : Int32} {pb : Int32} {pc_ : Int32} {pd : Int32} {pe : Int32} {o : (Int32 × SX9)} (X : mX g yX9_lots cX9_lots 13 (some .int) p s m args meth c w0)
  {k89 : SX9 → Int32 → Int32 → Int32 → Option (Int32 × SX9)} (K89 : ∀ (xs : SX9) (l6 : Int32) (l7 : Int32) (l8 : Int32) (H : Heap) (locs : List Loc) (ls : Array Slot), k89 xs l6 l7 l8 = some o → mH g s w0 (wX9 g a i xs) H locs → lv_has ls 13 [(0, .ref (a i)), (1, .int pa), (2, .int pb), (3, .int pc_), (4, .int pd), (5, .int pe), (6, .int l6), (7, .int l7), (8, .int l8)] → W p l e (rM 4 89) s m args below meth c H locs 0 0 (mZ g below args s w0 (wX9 g a i o.2) (some (.int o.1))) (F0 m 89 ls [])) :
  ∀ (xs : SX9) (l7 : Int32) (l8 : Int32) (l9 : Int32) (l10 : Int32) (t0 : Int32) (t1 : Int32) (H : Heap) (locs : List Loc) (ls : Array Slot), qX9_lots_195 pa pb pc_ pd pe k89 xs l7 l8 l9 l10 t0 t1 = some o → mH g s w0 (wX9 g a i xs) H locs → lv_has ls 13 [(0, .ref (a i)), (1, .int pa), (2, .int pb), (3, .int pc_), (4, .int pd), (5, .int pe), (7, .int l7), (8, .int l8), (9, .int l9), (10, .int l10)] → W p l e (rM 4 89) s m args below meth c H locs 0 0 (mZ g below args s w0 (wX9 g a i o.2) (some (.int o.1))) (F0 m 195 ls [.int t1, .int t0]) := by
  have hx := X.1
  have hb := X.2.1
  intro xs l7 l8 l9 l10 t0 t1 H locs ls h hH hl
  unfold qX9_lots_195 at h
  refine lv_iadd hx hb dX9_lots_195 ?_
  obtain ⟨v1, ev1, h⟩ := ltt_x h
  refine s_i X (lv' := [(6, .int v1), (0, .ref (a i)), (1, .int pa), (2, .int pb), (3, .int pc_), (4, .int pd), (5, .int pe), (7, .int l7), (8, .int l8), (9, .int l9), (10, .int l10)]) hl ev1 dX9_lots_196 (by decide) rfl (fun ls hl => ?_)
  refine lv_iload hx hb dX9_lots_198 (lv_at hl 7 rfl) ?_
  refine lv_iload hx hb dX9_lots_200 (lv_at hl 9 rfl) ?_
  refine lv_iload_n hx hb dX9_lots_202 rfl (lv_at hl 3 rfl) ?_
  refine lv_icmp_ne (tgt := 211) hx hb dX9_lots_203 (by decide) (fun c11 => ?_) (fun c11 => ?_)
  · have h := ie_x h c11
    refine lv_iconst (v := (0 : Int32)) hx hb dX9_lots_211 (by decide) ?_
    exact pX9_lots_212 X K89 xs v1 l8 l7 (0 : Int32) H locs ls h hH (lv_sub hl [1, 2, 3, 4, 5, 6, 0, 8] rfl)
  · have h := it_x h c11
    refine lv_iload hx hb dX9_lots_206 (lv_at hl 10 rfl) ?_
    refine lv_goto (tgt := 212) hx hb dX9_lots_208 (by decide) ?_
    exact pX9_lots_212 X K89 xs v1 l8 l7 l10 H locs ls h hH (lv_sub hl [1, 2, 3, 4, 5, 6, 0, 8] rfl)
set_option maxHeartbeats 4000000 in
set_option maxRecDepth 100000 in
theorem pX9_lots_182 {p : Program} {l : Launch} {e : Env} {s : State} {m : MethodId} {args : Array Value} {below : List Frame} {meth : Method} {c : Code} {g : GG} {w0 : va_W} {a : Nat → Nat} {i : Nat} {pa : Int32} {pb : Int32} {pc_ : Int32} {pd : Int32} {pe : Int32} {o : (Int32 × SX9)} (X : mX g yX9_lots cX9_lots 13 (some .int) p s m args meth c w0)
  {k89 : SX9 → Int32 → Int32 → Int32 → Option (Int32 × SX9)} (K89 : ∀ (xs : SX9) (l6 : Int32) (l7 : Int32) (l8 : Int32) (H : Heap) (locs : List Loc) (ls : Array Slot), k89 xs l6 l7 l8 = some o → mH g s w0 (wX9 g a i xs) H locs → lv_has ls 13 [(0, .ref (a i)), (1, .int pa), (2, .int pb), (3, .int pc_), (4, .int pd), (5, .int pe), (6, .int l6), (7, .int l7), (8, .int l8)] → W p l e (rM 4 89) s m args below meth c H locs 0 0 (mZ g below args s w0 (wX9 g a i o.2) (some (.int o.1))) (F0 m 89 ls [])) :
  ∀ (xs : SX9) (l6 : Int32) (l7 : Int32) (l8 : Int32) (l9 : Int32) (l10 : Int32) (H : Heap) (locs : List Loc) (ls : Array Slot), qX9_lots_182 pa pb pc_ pd pe k89 xs l6 l7 l8 l9 l10 = some o → mH g s w0 (wX9 g a i xs) H locs → lv_has ls 13 [(0, .ref (a i)), (1, .int pa), (2, .int pb), (3, .int pc_), (4, .int pd), (5, .int pe), (6, .int l6), (7, .int l7), (8, .int l8), (9, .int l9), (10, .int l10)] → W p l e (rM 4 89) s m args below meth c H locs 0 0 (mZ g below args s w0 (wX9 g a i o.2) (some (.int o.1))) (F0 m 182 ls []) := by
  have hx := X.1
  have hb := X.2.1
  intro xs l6 l7 l8 l9 l10 H locs ls h hH hl
  unfold qX9_lots_182 at h
  refine lv_iload hx hb dX9_lots_182 (lv_at hl 6 rfl) ?_
  refine lv_iload hx hb dX9_lots_184 (lv_at hl 9 rfl) ?_
  refine lv_iload_n hx hb dX9_lots_186 rfl (lv_at hl 2 rfl) ?_
  refine lv_icmp_ne (tgt := 194) hx hb dX9_lots_187 (by decide) (fun c10 => ?_) (fun c10 => ?_)
  · have h := ie_x h c10
    refine lv_iconst (v := (0 : Int32)) hx hb dX9_lots_194 (by decide) ?_
    exact pX9_lots_195 X K89 xs l7 l8 l9 l10 l6 (0 : Int32) H locs ls h hH (lv_sub hl [0, 1, 2, 3, 4, 5, 7, 8, 9, 10] rfl)
  · have h := it_x h c10
    refine lv_iconst (v := (1 : Int32)) hx hb dX9_lots_190 (by decide) ?_
    refine lv_goto (tgt := 195) hx hb dX9_lots_191 (by decide) ?_
    exact pX9_lots_195 X K89 xs l7 l8 l9 l10 l6 (1 : Int32) H locs ls h hH (lv_sub hl [0, 1, 2, 3, 4, 5, 7, 8, 9, 10] rfl)
set_option maxHeartbeats 4000000 in
set_option maxRecDepth 100000 in
theorem pX9_lots_174 {p : Program} {l : Launch} {e : Env} {s : State} {m : MethodId} {args : Array Value} {below : List Frame} {meth : Method} {c : Code} {g : GG} {w0 : va_W} {a : Nat → Nat} {i : Nat} {pa : Int32} {pb : Int32} {pc_ : Int32} {pd : Int32} {pe : Int32} {o : (Int32 × SX9)} (X : mX g yX9_lots cX9_lots 13 (some .int) p s m args meth c w0)
  {k104 : SX9 → Int32 → Int32 → Int32 → Int32 → Int32 → Int32 → Option (Int32 × SX9)} (K104 : ∀ (xs : SX9) (l6 : Int32) (l7 : Int32) (l8 : Int32) (l9 : Int32) (l10 : Int32) (l11 : Int32) (H : Heap) (locs : List Loc) (ls : Array Slot), k104 xs l6 l7 l8 l9 l10 l11 = some o → mH g s w0 (wX9 g a i xs) H locs → lv_has ls 13 [(0, .ref (a i)), (1, .int pa), (2, .int pb), (3, .int pc_), (4, .int pd), (5, .int pe), (6, .int l6), (7, .int l7), (8, .int l8), (9, .int l9), (10, .int l10), (11, .int l11)] → W p l e (rM 4 89) s m args below meth c H locs 0 0 (mZ g below args s w0 (wX9 g a i o.2) (some (.int o.1))) (F0 m 104 ls [])) :
  ∀ (xs : SX9) (l6 : Int32) (l7 : Int32) (l8 : Int32) (l10 : Int32) (l11 : Int32) (t0 : Int32) (H : Heap) (locs : List Loc) (ls : Array Slot), qX9_lots_174 pa pb pc_ pd pe k104 xs l6 l7 l8 l10 l11 t0 = some o → mH g s w0 (wX9 g a i xs) H locs → lv_has ls 13 [(0, .ref (a i)), (1, .int pa), (2, .int pb), (3, .int pc_), (4, .int pd), (5, .int pe), (6, .int l6), (7, .int l7), (8, .int l8), (10, .int l10), (11, .int l11)] → W p l e (rM 4 89) s m args below meth c H locs 0 0 (mZ g below args s w0 (wX9 g a i o.2) (some (.int o.1))) (F0 m 174 ls [.int t0]) := by
  have hx := X.1
  have hb := X.2.1
  intro xs l6 l7 l8 l10 l11 t0 H locs ls h hH hl
  unfold qX9_lots_174 at h
  refine s_i X (lv' := [(9, .int t0), (0, .ref (a i)), (1, .int pa), (2, .int pb), (3, .int pc_), (4, .int pd), (5, .int pe), (6, .int l6), (7, .int l7), (8, .int l8), (10, .int l10), (11, .int l11)]) hl rfl dX9_lots_174 (by decide) rfl (fun ls hl => ?_)
  obtain ⟨v5, ev5, h⟩ := ltt_x h
  refine s_inc X (k := 11) (lv' := [(11, .int v5), (9, .int t0), (0, .ref (a i)), (1, .int pa), (2, .int pb), (3, .int pc_), (4, .int pd), (5, .int pe), (6, .int l6), (7, .int l7), (8, .int l8), (10, .int l10)]) hl rfl (by rw [ev5]; rfl) dX9_lots_176 (by decide) rfl (fun ls hl => ?_)
  refine lv_goto (tgt := 104) hx hb dX9_lots_179 (by decide) ?_
  exact K104 xs l6 l7 l8 t0 l10 v5 H locs ls h hH (lv_sub hl [2, 3, 4, 5, 6, 7, 8, 9, 10, 1, 11, 0] rfl)
set_option maxHeartbeats 4000000 in
set_option maxRecDepth 100000 in
theorem pX9_lots_104 {p : Program} {l : Launch} {e : Env} {s : State} {m : MethodId} {args : Array Value} {below : List Frame} {meth : Method} {c : Code} {g : GG} {w0 : va_W} {a : Nat → Nat} {i : Nat} {pa : Int32} {pb : Int32} {pc_ : Int32} {pd : Int32} {pe : Int32} {o : (Int32 × SX9)} (X : mX g yX9_lots cX9_lots 13 (some .int) p s m args meth c w0)
  {k89 : SX9 → Int32 → Int32 → Int32 → Option (Int32 × SX9)} (K89 : ∀ (xs : SX9) (l6 : Int32) (l7 : Int32) (l8 : Int32) (H : Heap) (locs : List Loc) (ls : Array Slot), k89 xs l6 l7 l8 = some o → mH g s w0 (wX9 g a i xs) H locs → lv_has ls 13 [(0, .ref (a i)), (1, .int pa), (2, .int pb), (3, .int pc_), (4, .int pd), (5, .int pe), (6, .int l6), (7, .int l7), (8, .int l8)] → W p l e (rM 4 89) s m args below meth c H locs 0 0 (mZ g below args s w0 (wX9 g a i o.2) (some (.int o.1))) (F0 m 89 ls [])) :
  ∀ (fu : Nat) (xs : SX9) (l6 : Int32) (l7 : Int32) (l8 : Int32) (l9 : Int32) (l10 : Int32) (l11 : Int32) (H : Heap) (locs : List Loc) (ls : Array Slot), qX9_lots_104 pa pb pc_ pd pe k89 fu xs l6 l7 l8 l9 l10 l11 = some o → mH g s w0 (wX9 g a i xs) H locs → lv_has ls 13 [(0, .ref (a i)), (1, .int pa), (2, .int pb), (3, .int pc_), (4, .int pd), (5, .int pe), (6, .int l6), (7, .int l7), (8, .int l8), (9, .int l9), (10, .int l10), (11, .int l11)] → W p l e (rM 4 89) s m args below meth c H locs 0 0 (mZ g below args s w0 (wX9 g a i o.2) (some (.int o.1))) (F0 m 104 ls []) := by
  have hx := X.1
  have hb := X.2.1
  intro fu
  induction fu with
  | zero =>
    intro xs l6 l7 l8 l9 l10 l11 H locs ls h
    unfold qX9_lots_104 at h
    cases h
  | succ fu ih =>
    intro xs l6 l7 l8 l9 l10 l11 H locs ls h hH hl
    unfold qX9_lots_104 at h
    refine lv_iload hx hb dX9_lots_104 (lv_at hl 11 rfl) ?_
    refine lv_bipush (v := (60 : Int32)) hx hb dX9_lots_106 (by decide) ?_
    refine lv_icmp_ge (tgt := 182) hx hb dX9_lots_108 (by decide) (fun c9 => ?_) (fun c9 => ?_)
    · have h := it_x h c9
      exact pX9_lots_182 X K89 xs l6 l7 l8 l9 l10 H locs ls h hH (lv_sub hl [0, 1, 2, 3, 4, 5, 6, 7, 8, 9, 10] rfl)
    · have h := ie_x h c9
      refine lv_iload hx hb dX9_lots_111 (lv_at hl 9 rfl) ?_
      refine lv_iload_n hx hb dX9_lots_113 rfl (lv_at hl 2 rfl) ?_
      refine lv_icmp_eq (tgt := 182) hx hb dX9_lots_114 (by decide) (fun c12 => ?_) (fun c12 => ?_)
      · have h := it_x h c12
        exact pX9_lots_182 X K89 xs l6 l7 l8 l9 l10 H locs ls h hH (lv_sub hl [0, 1, 2, 3, 4, 5, 6, 7, 8, 9, 10] rfl)
      · have h := ie_x h c12
        refine lv_aload_n hx hb dX9_lots_117 rfl (lv_at hl 0 rfl) ?_
        refine lv_iload hx hb dX9_lots_118 (lv_at hl 9 rfl) ?_
        obtain ⟨o6, ho6, h⟩ := bd_x h
        refine r_V X hH (ws1 := (wX9 g a i xs)) (As := [.int l9]) (rest := []) (st1 := [.int o6]) (uX9_weightsAt (a := a) (i := i) ho6) kX9_weightsAt mX9_239 iX9_weightsAt vX9_weightsAt zX9 okX9_weightsAt ⟨Nat.le_of_ble_eq_true rfl, Nat.le_of_ble_eq_true rfl⟩ rfl rfl (q0 := 0) rfl rfl [0, 1, 2, 3, 4, 5, 6, 7, 8, 9, 10, 11, 12, 13, 14, 15, 16, 17, 18, 19, 20, 21, 22, 23, 24, 25, 26, 27, 28, 29, 30, 31, 32, 33] rfl rfl rfl (putl_self _ _ rfl) rfl hl.1 rfl (Nat.le_of_ble_eq_true rfl) ⟨Nat.le_refl 0, Nat.le_refl 0⟩ rfl dX9_lots_120 (fun H locs hH => ?_)
        refine lv_if_le (tgt := 182) hx hb dX9_lots_123 (by decide) (fun c13 => ?_) (fun c13 => ?_)
        · have h := it_x h c13
          exact pX9_lots_182 X K89 xs l6 l7 l8 l9 l10 H locs ls h hH (lv_sub hl [0, 1, 2, 3, 4, 5, 6, 7, 8, 9, 10] rfl)
        · have h := ie_x h c13
          refine lv_aload_n hx hb dX9_lots_126 rfl (lv_at hl 0 rfl) ?_
          refine lv_iload hx hb dX9_lots_127 (lv_at hl 9 rfl) ?_
          obtain ⟨o7, ho7, h⟩ := bd_x h
          refine r_V X hH (ws1 := (wX9 g a i o7.2)) (As := [.int l9]) (rest := []) (st1 := [.int o7.1]) (uX9_wayFrom (a := a) (i := i) ho7) kX9_wayFrom mX9_335 iX9_wayFrom vX9_wayFrom zX9 okX9_wayFrom ⟨Nat.le_of_ble_eq_true rfl, Nat.le_of_ble_eq_true rfl⟩ rfl rfl (q0 := 0) rfl rfl [0, 1, 2, 3, 4, 5, 6, 7, 8, 9, 10, 11, 12, 13, 14, 15, 16, 17, 18, 19, 20, 21, 22, 23, 24, 25, 26, 27, 28, 29, 30, 31, 32, 33] rfl rfl rfl rfl rfl hl.1 rfl (Nat.le_of_ble_eq_true rfl) ⟨Nat.le_refl 0, Nat.le_refl 0⟩ rfl dX9_lots_129 (fun H locs hH => ?_)
          refine s_i X (lv' := [(12, .int o7.1), (0, .ref (a i)), (1, .int pa), (2, .int pb), (3, .int pc_), (4, .int pd), (5, .int pe), (6, .int l6), (7, .int l7), (8, .int l8), (9, .int l9), (10, .int l10), (11, .int l11)]) hl rfl dX9_lots_132 (by decide) rfl (fun ls hl => ?_)
          refine lv_iload hx hb dX9_lots_134 (lv_at hl 11 rfl) ?_
          refine lv_aload_n hx hb dX9_lots_136 rfl (lv_at hl 1 rfl) ?_
          refine lv_iload hx hb dX9_lots_137 (lv_at hl 0 rfl) ?_
          obtain ⟨o8, ho8, h⟩ := bd_x h
          refine r_V X hH (ws1 := (wX9 g a i o7.2)) (As := [.int o7.1]) (rest := [.int l10]) (st1 := [.int o8, .int l10]) (uX9_minutes (a := a) (i := i) ho8) kX9_minutes mX9_174 iX9_minutes vX9_minutes zX9 okX9_minutes ⟨Nat.le_of_ble_eq_true rfl, Nat.le_of_ble_eq_true rfl⟩ rfl rfl (q0 := 0) rfl rfl [0, 1, 2, 3, 4, 5, 6, 7, 8, 9, 10, 11, 12, 13, 14, 15, 16, 17, 18, 19, 20, 21, 22, 23, 24, 25, 26, 27, 28, 29, 30, 31, 32, 33] rfl rfl rfl (putl_self _ _ rfl) rfl hl.1 rfl (Nat.le_of_ble_eq_true rfl) ⟨Nat.le_refl 0, Nat.le_refl 0⟩ rfl dX9_lots_139 (fun H locs hH => ?_)
          refine lv_iadd hx hb dX9_lots_142 ?_
          obtain ⟨v4, ev4, h⟩ := ltt_x h
          refine s_i X (lv' := [(10, .int v4), (12, .int o7.1), (0, .ref (a i)), (1, .int pa), (2, .int pb), (3, .int pc_), (4, .int pd), (5, .int pe), (6, .int l6), (7, .int l7), (8, .int l8), (9, .int l9), (11, .int l11)]) hl ev4 dX9_lots_143 (by decide) rfl (fun ls hl => ?_)
          refine lv_aload_n hx hb dX9_lots_145 rfl (lv_at hl 2 rfl) ?_
          refine f_get X hH 0 rfl rfl 2 (by decide) inX9 fX9_13 rfl dX9_lots_146 ?_
          refine lv_iload hx hb dX9_lots_149 (lv_at hl 1 rfl) ?_
          obtain ⟨j1, ej1, hinj1, h⟩ := ga_x h
          refine a_il X hH 1 rfl hinj1 ej1 dX9_lots_151 ?_
          refine lv_iload hx hb dX9_lots_152 (lv_at hl 11 rfl) ?_
          refine lv_icmp_ne (tgt := 167) hx hb dX9_lots_154 (by decide) (fun c14 => ?_) (fun c14 => ?_)
          · have h := ie_x h c14
            refine lv_aload_n hx hb dX9_lots_167 rfl (lv_at hl 2 rfl) ?_
            refine f_get X hH 0 rfl rfl 2 (by decide) inX9 fX9_13 rfl dX9_lots_168 ?_
            refine lv_iload hx hb dX9_lots_171 (lv_at hl 1 rfl) ?_
            obtain ⟨j2, ej2, hinj2, h⟩ := ga_x h
            refine a_il X hH 1 rfl hinj2 ej2 dX9_lots_173 ?_
            exact pX9_lots_174 X ih o7.2 l6 l7 l8 v4 l11 ((m_first o7.2) j2) H locs ls h hH (lv_sub hl [2, 3, 4, 5, 6, 7, 8, 9, 10, 0, 12] rfl)
          · have h := it_x h c14
            refine lv_aload_n hx hb dX9_lots_157 rfl (lv_at hl 2 rfl) ?_
            refine f_get X hH 0 rfl rfl 3 (by decide) inX9 fX9_17 rfl dX9_lots_158 ?_
            refine lv_iload hx hb dX9_lots_161 (lv_at hl 1 rfl) ?_
            obtain ⟨j3, ej3, hinj3, h⟩ := ga_x h
            refine a_il X hH 2 rfl hinj3 ej3 dX9_lots_163 ?_
            refine lv_goto (tgt := 174) hx hb dX9_lots_164 (by decide) ?_
            exact pX9_lots_174 X ih o7.2 l6 l7 l8 v4 l11 ((m_second o7.2) j3) H locs ls h hH (lv_sub hl [2, 3, 4, 5, 6, 7, 8, 9, 10, 0, 12] rfl)
set_option maxHeartbeats 4000000 in
set_option maxRecDepth 100000 in
theorem pX9_lots_89 {p : Program} {l : Launch} {e : Env} {s : State} {m : MethodId} {args : Array Value} {below : List Frame} {meth : Method} {c : Code} {g : GG} {w0 : va_W} {a : Nat → Nat} {i : Nat} {pa : Int32} {pb : Int32} {pc_ : Int32} {pd : Int32} {pe : Int32} {o : (Int32 × SX9)} (X : mX g yX9_lots cX9_lots 13 (some .int) p s m args meth c w0) :
  ∀ (fu : Nat) (xs : SX9) (l6 : Int32) (l7 : Int32) (l8 : Int32) (H : Heap) (locs : List Loc) (ls : Array Slot), qX9_lots_89 pa pb pc_ pd pe fu xs l6 l7 l8 = some o → mH g s w0 (wX9 g a i xs) H locs → lv_has ls 13 [(0, .ref (a i)), (1, .int pa), (2, .int pb), (3, .int pc_), (4, .int pd), (5, .int pe), (6, .int l6), (7, .int l7), (8, .int l8)] → W p l e (rM 4 89) s m args below meth c H locs 0 0 (mZ g below args s w0 (wX9 g a i o.2) (some (.int o.1))) (F0 m 89 ls []) := by
  have hx := X.1
  have hb := X.2.1
  intro fu
  induction fu with
  | zero =>
    intro xs l6 l7 l8 H locs ls h
    unfold qX9_lots_89 at h
    cases h
  | succ fu ih =>
    intro xs l6 l7 l8 H locs ls h hH hl
    unfold qX9_lots_89 at h
    refine lv_iload hx hb dX9_lots_89 (lv_at hl 8 rfl) ?_
    refine lv_iload_n hx hb dX9_lots_91 rfl (lv_at hl 3 rfl) ?_
    refine lv_icmp_ge (tgt := 221) hx hb dX9_lots_92 (by decide) (fun c7 => ?_) (fun c7 => ?_)
    · have h := it_x h c7
      refine lv_iload hx hb dX9_lots_221 (lv_at hl 5 rfl) ?_
      refine lv_if_ne (tgt := 231) hx hb dX9_lots_223 (by decide) (fun c8 => ?_) (fun c8 => ?_)
      · have h := ie_x h c8
        refine lv_iload hx hb dX9_lots_231 (lv_at hl 7 rfl) ?_
        cases h
        exact e_i X hH dX9_lots_233
      · have h := it_x h c8
        refine lv_iload hx hb dX9_lots_226 (lv_at hl 6 rfl) ?_
        refine lv_goto (tgt := 233) hx hb dX9_lots_228 (by decide) ?_
        cases h
        exact e_i X hH dX9_lots_233
    · have h := ie_x h c7
      refine lv_iload_n hx hb dX9_lots_95 rfl (lv_at hl 1 rfl) ?_
      refine s_i X (lv' := [(9, .int pa), (0, .ref (a i)), (1, .int pa), (2, .int pb), (3, .int pc_), (4, .int pd), (5, .int pe), (6, .int l6), (7, .int l7), (8, .int l8)]) hl rfl dX9_lots_96 (by decide) rfl (fun ls hl => ?_)
      refine lv_iconst (v := (0 : Int32)) hx hb dX9_lots_98 (by decide) ?_
      refine s_i X (lv' := [(10, .int (0 : Int32)), (9, .int pa), (0, .ref (a i)), (1, .int pa), (2, .int pb), (3, .int pc_), (4, .int pd), (5, .int pe), (6, .int l6), (7, .int l7), (8, .int l8)]) hl rfl dX9_lots_99 (by decide) rfl (fun ls hl => ?_)
      refine lv_iconst (v := (0 : Int32)) hx hb dX9_lots_101 (by decide) ?_
      refine s_i X (lv' := [(11, .int (0 : Int32)), (10, .int (0 : Int32)), (9, .int pa), (0, .ref (a i)), (1, .int pa), (2, .int pb), (3, .int pc_), (4, .int pd), (5, .int pe), (6, .int l6), (7, .int l7), (8, .int l8)]) hl rfl dX9_lots_102 (by decide) rfl (fun ls hl => ?_)
      exact pX9_lots_104 X ih FU xs l6 l7 l8 pa (0 : Int32) (0 : Int32) H locs ls h hH (lv_sub hl [3, 4, 5, 6, 7, 8, 9, 10, 11, 2, 1, 0] rfl)
set_option maxHeartbeats 4000000 in
set_option maxRecDepth 100000 in
theorem uX9_lots {l : Launch} {g : GG} {a : Nat → Nat} {i : Nat} {xs : SX9} {pa : Int32} {pb : Int32} {pc_ : Int32} {pd : Int32} {pe : Int32} {o : (Int32 × SX9)} (h : fX9_lots xs pa pb pc_ pd pe = some o) : mC l g yX9_lots cX9_lots 13 (some .int) (rM 4 89) [.ref (a i), .int pa, .int pb, .int pc_, .int pd, .int pe] (wX9 g a i xs) (wX9 g a i o.2) (some (.int o.1)) := by
  refine mC.ofW (by decide) (fun p e s m below meth c X hH ls _ hl => ?_) (Nat.le_of_ble_eq_true rfl)
  have hx := X.1
  have hb := X.2.1
  have hl : lv_has ls 13 [(0, .ref (a i)), (1, .int pa), (2, .int pb), (3, .int pc_), (4, .int pd), (5, .int pe)] := hl
  unfold fX9_lots at h
  suffices HH : ∀ (H : Heap) (locs : List Loc), mH g s (wX9 g a i xs) (wX9 g a i xs) H locs → W p l e (rM 4 89) s m _ below meth c H locs 0 0 (mZ g below _ s (wX9 g a i xs) (wX9 g a i o.2) (some (.int o.1))) (F0 m 0 ls []) from HH _ _ hH
  clear hH
  intro H locs hH
  refine lv_aload_n hx hb dX9_lots_0 rfl (lv_at hl 0 rfl) ?_
  refine lv_iload_n hx hb dX9_lots_1 rfl (lv_at hl 1 rfl) ?_
  obtain ⟨o1, ho1, h⟩ := bd_x h
  refine r_V X hH (ws1 := (wX9 g a i xs)) (As := [.int pa]) (rest := []) (st1 := [.int o1]) (uX9_isPoint (a := a) (i := i) ho1) kX9_isPoint mX9_141 iX9_isPoint vX9_isPoint zX9 okX9_isPoint ⟨Nat.le_of_ble_eq_true rfl, Nat.le_of_ble_eq_true rfl⟩ rfl rfl (q0 := 0) rfl rfl [0, 1, 2, 3, 4, 5, 6, 7, 8, 9, 10, 11, 12, 13, 14, 15, 16, 17, 18, 19, 20, 21, 22, 23, 24, 25, 26, 27, 28, 29, 30, 31, 32, 33] rfl rfl rfl (putl_self _ _ rfl) rfl hl.1 rfl (Nat.le_of_ble_eq_true rfl) ⟨Nat.le_refl 0, Nat.le_refl 0⟩ rfl dX9_lots_2 (fun H locs hH => ?_)
  refine lv_if_eq (tgt := 21) hx hb dX9_lots_5 (by decide) (fun c1 => ?_) (fun c1 => ?_)
  · have h := it_x h c1
    exact pX9_lots_21 X  xs H locs ls h hH (lv_sub hl [0, 1, 2, 3, 4, 5] rfl)
  · have h := ie_x h c1
    refine lv_aload_n hx hb dX9_lots_8 rfl (lv_at hl 0 rfl) ?_
    refine lv_iload_n hx hb dX9_lots_9 rfl (lv_at hl 2 rfl) ?_
    obtain ⟨o3, ho3, h⟩ := bd_x h
    refine r_V X hH (ws1 := (wX9 g a i xs)) (As := [.int pb]) (rest := []) (st1 := [.int o3]) (uX9_isPoint (a := a) (i := i) ho3) kX9_isPoint mX9_141 iX9_isPoint vX9_isPoint zX9 okX9_isPoint ⟨Nat.le_of_ble_eq_true rfl, Nat.le_of_ble_eq_true rfl⟩ rfl rfl (q0 := 0) rfl rfl [0, 1, 2, 3, 4, 5, 6, 7, 8, 9, 10, 11, 12, 13, 14, 15, 16, 17, 18, 19, 20, 21, 22, 23, 24, 25, 26, 27, 28, 29, 30, 31, 32, 33] rfl rfl rfl (putl_self _ _ rfl) rfl hl.1 rfl (Nat.le_of_ble_eq_true rfl) ⟨Nat.le_refl 0, Nat.le_refl 0⟩ rfl dX9_lots_10 (fun H locs hH => ?_)
    refine lv_if_eq (tgt := 21) hx hb dX9_lots_13 (by decide) (fun c2 => ?_) (fun c2 => ?_)
    · have h := it_x h c2
      exact pX9_lots_21 X  xs H locs ls h hH (lv_sub hl [0, 1, 2, 3, 4, 5] rfl)
    · have h := ie_x h c2
      refine lv_iload_n hx hb dX9_lots_16 rfl (lv_at hl 1 rfl) ?_
      refine lv_iload_n hx hb dX9_lots_17 rfl (lv_at hl 2 rfl) ?_
      refine lv_icmp_ne (tgt := 27) hx hb dX9_lots_18 (by decide) (fun c3 => ?_) (fun c3 => ?_)
      · have h := ie_x h c3
        refine lv_iload_n hx hb dX9_lots_27 rfl (lv_at hl 3 rfl) ?_
        refine lv_iconst (v := (1 : Int32)) hx hb dX9_lots_28 (by decide) ?_
        refine lv_icmp_ge (tgt := 39) hx hb dX9_lots_29 (by decide) (fun c4 => ?_) (fun c4 => ?_)
        · have h := it_x h c4
          refine lv_iload_n hx hb dX9_lots_39 rfl (lv_at hl 3 rfl) ?_
          refine lv_bipush (v := (30 : Int32)) hx hb dX9_lots_40 (by decide) ?_
          refine lv_icmp_le (tgt := 52) hx hb dX9_lots_42 (by decide) (fun c5 => ?_) (fun c5 => ?_)
          · have h := it_x h c5
            refine lv_iload hx hb dX9_lots_52 (lv_at hl 5 rfl) ?_
            refine lv_i2l hx hb dX9_lots_54 rfl ?_
            refine lv_lconst (v := (0 : Int64)) hx hb dX9_lots_55 (by decide) ?_
            refine lv_lconst (v := (1 : Int64)) hx hb dX9_lots_56 (by decide) ?_
            obtain ⟨o4, ho4, h⟩ := bd_x h
            refine r_S X hH (ws1 := (wX9 g a i xs)) (As := [.long (pe.toInt64), .long (0 : Int64), .long (1 : Int64)]) (rest := []) (st1 := [.int o4]) (uX9_isIn  ho4) kX9_isIn mX9_116 sX9_isIn zX9 okX9_isIn ⟨Nat.le_of_ble_eq_true rfl, Nat.le_of_ble_eq_true rfl⟩ rfl rfl [] rfl rfl rfl (putl_self _ _ rfl) rfl hl.1 rfl (Nat.le_of_ble_eq_true rfl) ⟨Nat.le_refl 0, Nat.le_refl 0⟩ rfl dX9_lots_57 (fun H locs hH => ?_)
            refine lv_if_ne (tgt := 70) hx hb dX9_lots_60 (by decide) (fun c6 => ?_) (fun c6 => ?_)
            · have h := ie_x h c6
              refine lv_aload_n hx hb dX9_lots_70 rfl (lv_at hl 0 rfl) ?_
              obtain ⟨o5, ho5, h⟩ := bd_x h
              refine r_V X hH (ws1 := (wX9 g a i o5)) (As := []) (rest := []) (st1 := []) (uX9_allThere (a := a) (i := i) ho5) kX9_allThere mX9_230 iX9_allThere vX9_allThere zX9 okX9_allThere ⟨Nat.le_of_ble_eq_true rfl, Nat.le_of_ble_eq_true rfl⟩ rfl rfl (q0 := 0) rfl rfl [0, 1, 2, 3, 4, 5, 6, 7, 8, 9, 10, 11, 12, 13, 14, 15, 16, 17, 18, 19, 20, 21, 22, 23, 24, 25, 26, 27, 28, 29, 30, 31, 32, 33] rfl rfl rfl rfl rfl hl.1 rfl (Nat.le_of_ble_eq_true rfl) ⟨Nat.le_refl 0, Nat.le_refl 0⟩ rfl dX9_lots_71 (fun H locs hH => ?_)
              refine lv_aload_n hx hb dX9_lots_74 rfl (lv_at hl 0 rfl) ?_
              refine lv_iload hx hb dX9_lots_75 (lv_at hl 4 rfl) ?_
              obtain ⟨xs1, exs1, h⟩ := ltt_x h
              refine f_put X hH (ws1 := (wX9 g a i xs1)) 0 rfl rfl 32 (by decide) inX9 tyX9 tyX9_ok nmX9 fX9_326 rfl rfl rfl (Nat.le_of_ble_eq_true rfl) (by rw [exs1]; rfl) dX9_lots_77 (fun H locs hH => ?_)
              refine lv_iconst (v := (0 : Int32)) hx hb dX9_lots_80 (by decide) ?_
              refine s_i X (lv' := [(6, .int (0 : Int32)), (0, .ref (a i)), (1, .int pa), (2, .int pb), (3, .int pc_), (4, .int pd), (5, .int pe)]) hl rfl dX9_lots_81 (by decide) rfl (fun ls hl => ?_)
              refine lv_iconst (v := (0 : Int32)) hx hb dX9_lots_83 (by decide) ?_
              refine s_i X (lv' := [(7, .int (0 : Int32)), (6, .int (0 : Int32)), (0, .ref (a i)), (1, .int pa), (2, .int pb), (3, .int pc_), (4, .int pd), (5, .int pe)]) hl rfl dX9_lots_84 (by decide) rfl (fun ls hl => ?_)
              refine lv_iconst (v := (0 : Int32)) hx hb dX9_lots_86 (by decide) ?_
              refine s_i X (lv' := [(8, .int (0 : Int32)), (7, .int (0 : Int32)), (6, .int (0 : Int32)), (0, .ref (a i)), (1, .int pa), (2, .int pb), (3, .int pc_), (4, .int pd), (5, .int pe)]) hl rfl dX9_lots_87 (by decide) rfl (fun ls hl => ?_)
              exact pX9_lots_89 X FU xs1 (0 : Int32) (0 : Int32) (0 : Int32) H locs ls h hH (lv_sub hl [3, 4, 5, 6, 7, 8, 2, 1, 0] rfl)
            · have h := it_x h c6
              refine lv_aload_n hx hb dX9_lots_63 rfl (lv_at hl 0 rfl) ?_
              refine lv_bipush (v := (-2 : Int32)) hx hb dX9_lots_64 (by decide) ?_
              obtain ⟨o9, ho9, h⟩ := bd_x h
              refine r_V X hH (ws1 := (wX9 g a i o9.2)) (As := [.int (-2 : Int32)]) (rest := []) (st1 := [.int o9.1]) (uX9_no (a := a) (i := i) ho9) kX9_no mX9_125 iX9_no vX9_no zX9 okX9_no ⟨Nat.le_of_ble_eq_true rfl, Nat.le_of_ble_eq_true rfl⟩ rfl rfl (q0 := 0) rfl rfl [0, 1, 2, 3, 4, 5, 6, 7, 8, 9, 10, 11, 12, 13, 14, 15, 16, 17, 18, 19, 20, 21, 22, 23, 24, 25, 26, 27, 28, 29, 30, 31, 32, 33] rfl rfl rfl rfl rfl hl.1 rfl (Nat.le_of_ble_eq_true rfl) ⟨Nat.le_refl 0, Nat.le_refl 0⟩ rfl dX9_lots_66 (fun H locs hH => ?_)
              cases h
              exact e_i X hH dX9_lots_69
          · have h := ie_x h c5
            refine lv_aload_n hx hb dX9_lots_45 rfl (lv_at hl 0 rfl) ?_
            refine lv_bipush (v := (-6 : Int32)) hx hb dX9_lots_46 (by decide) ?_
            obtain ⟨o10, ho10, h⟩ := bd_x h
            refine r_V X hH (ws1 := (wX9 g a i o10.2)) (As := [.int (-6 : Int32)]) (rest := []) (st1 := [.int o10.1]) (uX9_no (a := a) (i := i) ho10) kX9_no mX9_125 iX9_no vX9_no zX9 okX9_no ⟨Nat.le_of_ble_eq_true rfl, Nat.le_of_ble_eq_true rfl⟩ rfl rfl (q0 := 0) rfl rfl [0, 1, 2, 3, 4, 5, 6, 7, 8, 9, 10, 11, 12, 13, 14, 15, 16, 17, 18, 19, 20, 21, 22, 23, 24, 25, 26, 27, 28, 29, 30, 31, 32, 33] rfl rfl rfl rfl rfl hl.1 rfl (Nat.le_of_ble_eq_true rfl) ⟨Nat.le_refl 0, Nat.le_refl 0⟩ rfl dX9_lots_48 (fun H locs hH => ?_)
            cases h
            exact e_i X hH dX9_lots_51
        · have h := ie_x h c4
          refine lv_aload_n hx hb dX9_lots_32 rfl (lv_at hl 0 rfl) ?_
          refine lv_bipush (v := (-4 : Int32)) hx hb dX9_lots_33 (by decide) ?_
          obtain ⟨o11, ho11, h⟩ := bd_x h
          refine r_V X hH (ws1 := (wX9 g a i o11.2)) (As := [.int (-4 : Int32)]) (rest := []) (st1 := [.int o11.1]) (uX9_no (a := a) (i := i) ho11) kX9_no mX9_125 iX9_no vX9_no zX9 okX9_no ⟨Nat.le_of_ble_eq_true rfl, Nat.le_of_ble_eq_true rfl⟩ rfl rfl (q0 := 0) rfl rfl [0, 1, 2, 3, 4, 5, 6, 7, 8, 9, 10, 11, 12, 13, 14, 15, 16, 17, 18, 19, 20, 21, 22, 23, 24, 25, 26, 27, 28, 29, 30, 31, 32, 33] rfl rfl rfl rfl rfl hl.1 rfl (Nat.le_of_ble_eq_true rfl) ⟨Nat.le_refl 0, Nat.le_refl 0⟩ rfl dX9_lots_35 (fun H locs hH => ?_)
          cases h
          exact e_i X hH dX9_lots_38
      · have h := it_x h c3
        exact pX9_lots_21 X  xs H locs ls h hH (lv_sub hl [0, 1, 2, 3, 4, 5] rfl)

def fX9_writes (xs : SX9) (pa : Int32) : Option SX9 :=
  ga 120 (m_saidMany xs) fun j1 =>
  ltt ((m_said_s xs (upd (m_said xs) j1 pa))) fun xs1 =>
  ltt ((m_saidMany_s xs1 ((m_saidMany xs1) + (1 : Int32)))) fun xs2 =>
  some xs2
set_option maxHeartbeats 4000000 in
set_option maxRecDepth 100000 in
theorem uX9_writes {l : Launch} {g : GG} {a : Nat → Nat} {i : Nat} {xs : SX9} {pa : Int32} {o : SX9} (h : fX9_writes xs pa = some o) : mC l g yX9_writes cX9_writes 2 none (rM 0 0) [.ref (a i), .int pa] (wX9 g a i xs) (wX9 g a i o) none := by
  refine mC.ofW (by decide) (fun p e s m below meth c X hH ls _ hl => ?_) (Nat.le_of_ble_eq_true rfl)
  have hx := X.1
  have hb := X.2.1
  have hl : lv_has ls 2 [(0, .ref (a i)), (1, .int pa)] := hl
  unfold fX9_writes at h
  suffices HH : ∀ (H : Heap) (locs : List Loc), mH g s (wX9 g a i xs) (wX9 g a i xs) H locs → W p l e (rM 0 0) s m _ below meth c H locs 0 0 (mZ g below _ s (wX9 g a i xs) (wX9 g a i o) none) (F0 m 0 ls []) from HH _ _ hH
  clear hH
  intro H locs hH
  refine lv_aload_n hx hb dX9_writes_0 rfl (lv_at hl 0 rfl) ?_
  refine f_get X hH 0 rfl rfl 33 (by decide) inX9 fX9_77 rfl dX9_writes_1 ?_
  refine lv_aload_n hx hb dX9_writes_4 rfl (lv_at hl 0 rfl) ?_
  refine f_get X hH 0 rfl rfl 39 (by decide) inX9 fX9_338 rfl dX9_writes_5 ?_
  refine lv_iload_n hx hb dX9_writes_8 rfl (lv_at hl 1 rfl) ?_
  obtain ⟨j1, ej1, hinj1, h⟩ := ga_x h
  obtain ⟨xs1, exs1, h⟩ := ltt_x h
  refine a_is X hH (ws1 := (wX9 g a i xs1)) 21 rfl hinj1 ej1 (by rw [exs1]; rfl) dX9_writes_9 (fun H locs hH => ?_)
  refine lv_aload_n hx hb dX9_writes_10 rfl (lv_at hl 0 rfl) ?_
  refine lv_dup hx hb dX9_writes_11 rfl ?_
  refine f_get X hH 0 rfl rfl 39 (by decide) inX9 fX9_338 rfl dX9_writes_12 ?_
  refine lv_iconst (v := (1 : Int32)) hx hb dX9_writes_15 (by decide) ?_
  refine lv_iadd hx hb dX9_writes_16 ?_
  obtain ⟨xs2, exs2, h⟩ := ltt_x h
  refine f_put X hH (ws1 := (wX9 g a i xs2)) 0 rfl rfl 39 (by decide) inX9 tyX9 tyX9_ok nmX9 fX9_338 rfl rfl rfl (Nat.le_of_ble_eq_true rfl) (by rw [exs2]; rfl) dX9_writes_17 (fun H locs hH => ?_)
  cases h
  exact e_v X hH dX9_writes_20

def qX9_saysAll_2 (xt : Nat → Int32)  : Nat → SX9 → Int32 → Option SX9
  | 0, _, _ => none
  | fu + 1, xs, l2 =>
  (if (6 : Int32) ≤ l2 then
  some xs
  else
  ga 6 l2 fun j1 =>
  (fX9_writes xs (xt j1)).bind fun o1 =>
  ltt (l2 + (1 : Int32)) fun v1 =>
  qX9_saysAll_2 xt  fu o1 v1)
def fX9_saysAll (xs : SX9) (xt : Nat → Int32) : Option SX9 :=
  qX9_saysAll_2 xt FU xs (0 : Int32)
set_option maxHeartbeats 4000000 in
set_option maxRecDepth 100000 in
theorem pX9_saysAll_2 {p : Program} {l : Launch} {e : Env} {s : State} {m : MethodId} {args : Array Value} {below : List Frame} {meth : Method} {c : Code} {g : GG} {w0 : va_W} {a : Nat → Nat} {i : Nat} {b : Nat → Nat} {xt : Nat → Int32} {o : SX9} (X : mX g yX9_saysAll cX9_saysAll 3 none p s m args meth c w0) :
  ∀ (fu : Nat) (xs : SX9) (l2 : Int32) (H : Heap) (locs : List Loc) (ls : Array Slot), qX9_saysAll_2 xt fu xs l2 = some o → mH g s w0 ((wX9 g a i xs) ++ [(b 0, .inl (g.2.1 3, 6, .inl (xt)))]) H locs → lv_has ls 3 [(0, .ref (a i)), (1, .ref (b 0)), (2, .int l2)] → W p l e (rM 1 21) s m args below meth c H locs 0 0 (mZ g below args s w0 ((wX9 g a i o) ++ [(b 0, .inl (g.2.1 3, 6, .inl (xt)))]) none) (F0 m 2 ls []) := by
  have hx := X.1
  have hb := X.2.1
  intro fu
  induction fu with
  | zero =>
    intro xs l2 H locs ls h
    unfold qX9_saysAll_2 at h
    cases h
  | succ fu ih =>
    intro xs l2 H locs ls h hH hl
    unfold qX9_saysAll_2 at h
    refine lv_iload_n hx hb dX9_saysAll_2 rfl (lv_at hl 2 rfl) ?_
    refine lv_aload_n hx hb dX9_saysAll_3 rfl (lv_at hl 1 rfl) ?_
    refine a_len X hH (v := (6 : Int32)) 34 3 rfl rfl (by decide) dX9_saysAll_4 ?_
    refine lv_icmp_ge (tgt := 21) hx hb dX9_saysAll_5 (by decide) (fun c1 => ?_) (fun c1 => ?_)
    · have h := it_x h c1
      cases h
      exact e_v X hH dX9_saysAll_21
    · have h := ie_x h c1
      refine lv_aload_n hx hb dX9_saysAll_8 rfl (lv_at hl 0 rfl) ?_
      refine lv_aload_n hx hb dX9_saysAll_9 rfl (lv_at hl 1 rfl) ?_
      refine lv_iload_n hx hb dX9_saysAll_10 rfl (lv_at hl 2 rfl) ?_
      obtain ⟨j1, ej1, hinj1, h⟩ := ga_x h
      refine a_cl X hH 34 rfl hinj1 ej1 dX9_saysAll_11 ?_
      obtain ⟨o1, ho1, h⟩ := bd_x h
      refine r_V X hH (ws1 := ((wX9 g a i o1) ++ [(b 0, .inl (g.2.1 3, 6, .inl (xt)))])) (As := [.int (xt j1)]) (rest := []) (st1 := []) (uX9_writes (a := a) (i := i) ho1) kX9_writes mX9_341 iX9_writes vX9_writes zX9 okX9_writes ⟨Nat.le_of_ble_eq_true rfl, Nat.le_of_ble_eq_true rfl⟩ rfl rfl (q0 := 0) rfl rfl [0, 1, 2, 3, 4, 5, 6, 7, 8, 9, 10, 11, 12, 13, 14, 15, 16, 17, 18, 19, 20, 21, 22, 23, 24, 25, 26, 27, 28, 29, 30, 31, 32, 33] rfl rfl rfl rfl rfl hl.1 rfl (Nat.le_of_ble_eq_true rfl) ⟨Nat.le_refl 0, Nat.le_refl 0⟩ rfl dX9_saysAll_12 (fun H locs hH => ?_)
      obtain ⟨v1, ev1, h⟩ := ltt_x h
      refine s_inc X (k := 2) (lv' := [(2, .int v1), (0, .ref (a i)), (1, .ref (b 0))]) hl rfl (by rw [ev1]; rfl) dX9_saysAll_15 (by decide) rfl (fun ls hl => ?_)
      refine lv_goto (tgt := 2) hx hb dX9_saysAll_18 (by decide) ?_
      exact ih o1 v1 H locs ls h hH (lv_sub hl [1, 2, 0] rfl)
set_option maxHeartbeats 4000000 in
set_option maxRecDepth 100000 in
theorem uX9_saysAll {l : Launch} {g : GG} {a : Nat → Nat} {i : Nat} {b : Nat → Nat} {xs : SX9} {xt : Nat → Int32} {o : SX9} (h : fX9_saysAll xs xt = some o) : mC l g yX9_saysAll cX9_saysAll 3 none (rM 1 21) [.ref (a i), .ref (b 0)] ((wX9 g a i xs) ++ [(b 0, .inl (g.2.1 3, 6, .inl (xt)))]) ((wX9 g a i o) ++ [(b 0, .inl (g.2.1 3, 6, .inl (xt)))]) none := by
  refine mC.ofW (by decide) (fun p e s m below meth c X hH ls _ hl => ?_) (Nat.le_of_ble_eq_true rfl)
  have hx := X.1
  have hb := X.2.1
  have hl : lv_has ls 3 [(0, .ref (a i)), (1, .ref (b 0))] := hl
  unfold fX9_saysAll at h
  suffices HH : ∀ (H : Heap) (locs : List Loc), mH g s ((wX9 g a i xs) ++ [(b 0, .inl (g.2.1 3, 6, .inl (xt)))]) ((wX9 g a i xs) ++ [(b 0, .inl (g.2.1 3, 6, .inl (xt)))]) H locs → W p l e (rM 1 21) s m _ below meth c H locs 0 0 (mZ g below _ s ((wX9 g a i xs) ++ [(b 0, .inl (g.2.1 3, 6, .inl (xt)))]) ((wX9 g a i o) ++ [(b 0, .inl (g.2.1 3, 6, .inl (xt)))]) none) (F0 m 0 ls []) from HH _ _ hH
  clear hH
  intro H locs hH
  refine lv_iconst (v := (0 : Int32)) hx hb dX9_saysAll_0 (by decide) ?_
  refine s_in X (lv' := [(2, .int (0 : Int32)), (0, .ref (a i)), (1, .ref (b 0))]) hl rfl dX9_saysAll_1 rfl (by decide) rfl (fun ls hl => ?_)
  exact pX9_saysAll_2 X FU xs (0 : Int32) H locs ls h hH (lv_sub hl [1, 2, 0] rfl)

def qX9_saysNumber_16 (pa : Int64) (k5 : SX9 → Int32 → Int64 → Option SX9) (xs : SX9) (l3 : Int32) (l4 : Int64) : Option SX9 :=
  ga 20 l3 fun j1 =>
  ltt ((m_figures_s xs (upd (m_figures xs) j1 ((l4 - l4 / (10 : Int64) * (10 : Int64)).toInt32)))) fun xs1 =>
  ltt ((l4 / (10 : Int64))) fun v1 =>
  ltt (l3 + (1 : Int32)) fun v2 =>
  k5 xs1 v2 v1
def qX9_saysNumber_48 (pa : Int64)  : Nat → SX9 → Int32 → Option SX9
  | 0, _, _ => none
  | fu + 1, xs, l6 =>
  (if l6 < (0 : Int32) then
  some xs
  else
  ga 20 l6 fun j2 =>
  (fX9_writes xs ((48 : Int32) + ((m_figures xs) j2))).bind fun o1 =>
  ltt (l6 + (-1 : Int32)) fun v4 =>
  qX9_saysNumber_48 pa  fu o1 v4)
def qX9_saysNumber_5 (pa : Int64)  : Nat → SX9 → Int32 → Int64 → Option SX9
  | 0, _, _, _ => none
  | fu + 1, xs, l3, l4 =>
  (if (0 : Int64) < l4 then
  qX9_saysNumber_16 pa (qX9_saysNumber_5 pa  fu) xs l3 l4
  else
  (if l3 = (0 : Int32) then
  qX9_saysNumber_16 pa (qX9_saysNumber_5 pa  fu) xs l3 l4
  else
  ltt ((l3 - (1 : Int32))) fun v3 =>
  qX9_saysNumber_48 pa FU xs v3))
def fX9_saysNumber (xs : SX9) (pa : Int64) : Option SX9 :=
  qX9_saysNumber_5 pa FU xs (0 : Int32) pa
set_option maxHeartbeats 4000000 in
set_option maxRecDepth 100000 in
theorem pX9_saysNumber_16 {p : Program} {l : Launch} {e : Env} {s : State} {m : MethodId} {args : Array Value} {below : List Frame} {meth : Method} {c : Code} {g : GG} {w0 : va_W} {a : Nat → Nat} {i : Nat} {pa : Int64} {o : SX9} (X : mX g yX9_saysNumber cX9_saysNumber 7 none p s m args meth c w0)
  {k5 : SX9 → Int32 → Int64 → Option SX9} (K5 : ∀ (xs : SX9) (l3 : Int32) (l4 : Int64) (H : Heap) (locs : List Loc) (ls : Array Slot), k5 xs l3 l4 = some o → mH g s w0 (wX9 g a i xs) H locs → lv_has ls 7 [(0, .ref (a i)), (1, .long pa), (3, .int l3), (4, .long l4)] → W p l e (rM 1 21) s m args below meth c H locs 0 0 (mZ g below args s w0 (wX9 g a i o) none) (F0 m 5 ls [])) :
  ∀ (xs : SX9) (l3 : Int32) (l4 : Int64) (H : Heap) (locs : List Loc) (ls : Array Slot), qX9_saysNumber_16 pa k5 xs l3 l4 = some o → mH g s w0 (wX9 g a i xs) H locs → lv_has ls 7 [(0, .ref (a i)), (1, .long pa), (3, .int l3), (4, .long l4)] → W p l e (rM 1 21) s m args below meth c H locs 0 0 (mZ g below args s w0 (wX9 g a i o) none) (F0 m 16 ls []) := by
  have hx := X.1
  have hb := X.2.1
  intro xs l3 l4 H locs ls h hH hl
  unfold qX9_saysNumber_16 at h
  refine lv_aload_n hx hb dX9_saysNumber_16 rfl (lv_at hl 0 rfl) ?_
  refine f_get X hH 0 rfl rfl 34 (by decide) inX9 fX9_80 rfl dX9_saysNumber_17 ?_
  refine lv_iload_n hx hb dX9_saysNumber_20 rfl (lv_at hl 2 rfl) ?_
  refine lv_lload hx hb dX9_saysNumber_21 (lv_at hl 3 rfl) ?_
  refine lv_ldc2 hx hb X.2.2.2.2.1 (X.2.2.2.2.2.1 _ nX9_344) dX9_saysNumber_23 ?_
  refine lv_lrem hx hb dX9_saysNumber_26 (by decide) ?_
  refine lv_l2i hx hb dX9_saysNumber_27 rfl ?_
  obtain ⟨j1, ej1, hinj1, h⟩ := ga_x h
  obtain ⟨xs1, exs1, h⟩ := ltt_x h
  refine a_is X hH (ws1 := (wX9 g a i xs1)) 22 rfl hinj1 ej1 (by rw [exs1]; rfl) dX9_saysNumber_28 (fun H locs hH => ?_)
  refine lv_lload hx hb dX9_saysNumber_29 (lv_at hl 3 rfl) ?_
  refine lv_ldc2 hx hb X.2.2.2.2.1 (X.2.2.2.2.2.1 _ nX9_344) dX9_saysNumber_31 ?_
  refine lv_ldiv hx hb dX9_saysNumber_34 (by decide) ?_
  obtain ⟨v1, ev1, h⟩ := ltt_x h
  refine s_l X (lv' := [(4, .long v1), (0, .ref (a i)), (1, .long pa), (3, .int l3)]) hl ev1 dX9_saysNumber_35 (by decide) rfl (fun ls hl => ?_)
  obtain ⟨v2, ev2, h⟩ := ltt_x h
  refine s_inc X (k := 3) (lv' := [(3, .int v2), (4, .long v1), (0, .ref (a i)), (1, .long pa)]) hl rfl (by rw [ev2]; rfl) dX9_saysNumber_37 (by decide) rfl (fun ls hl => ?_)
  refine lv_goto (tgt := 5) hx hb dX9_saysNumber_40 (by decide) ?_
  exact K5 xs1 v2 v1 H locs ls h hH (lv_sub hl [2, 3, 0, 1] rfl)
set_option maxHeartbeats 4000000 in
set_option maxRecDepth 100000 in
theorem pX9_saysNumber_48 {p : Program} {l : Launch} {e : Env} {s : State} {m : MethodId} {args : Array Value} {below : List Frame} {meth : Method} {c : Code} {g : GG} {w0 : va_W} {a : Nat → Nat} {i : Nat} {pa : Int64} {o : SX9} (X : mX g yX9_saysNumber cX9_saysNumber 7 none p s m args meth c w0) :
  ∀ (fu : Nat) (xs : SX9) (l6 : Int32) (H : Heap) (locs : List Loc) (ls : Array Slot), qX9_saysNumber_48 pa fu xs l6 = some o → mH g s w0 (wX9 g a i xs) H locs → lv_has ls 7 [(0, .ref (a i)), (1, .long pa), (6, .int l6)] → W p l e (rM 1 21) s m args below meth c H locs 0 0 (mZ g below args s w0 (wX9 g a i o) none) (F0 m 48 ls []) := by
  have hx := X.1
  have hb := X.2.1
  intro fu
  induction fu with
  | zero =>
    intro xs l6 H locs ls h
    unfold qX9_saysNumber_48 at h
    cases h
  | succ fu ih =>
    intro xs l6 H locs ls h hH hl
    unfold qX9_saysNumber_48 at h
    refine lv_iload hx hb dX9_saysNumber_48 (lv_at hl 2 rfl) ?_
    refine lv_if_lt (tgt := 73) hx hb dX9_saysNumber_50 (by decide) (fun c3 => ?_) (fun c3 => ?_)
    · have h := it_x h c3
      cases h
      exact e_v X hH dX9_saysNumber_73
    · have h := ie_x h c3
      refine lv_aload_n hx hb dX9_saysNumber_53 rfl (lv_at hl 0 rfl) ?_
      refine lv_bipush (v := (48 : Int32)) hx hb dX9_saysNumber_54 (by decide) ?_
      refine lv_aload_n hx hb dX9_saysNumber_56 rfl (lv_at hl 0 rfl) ?_
      refine f_get X hH 0 rfl rfl 34 (by decide) inX9 fX9_80 rfl dX9_saysNumber_57 ?_
      refine lv_iload hx hb dX9_saysNumber_60 (lv_at hl 2 rfl) ?_
      obtain ⟨j2, ej2, hinj2, h⟩ := ga_x h
      refine a_il X hH 22 rfl hinj2 ej2 dX9_saysNumber_62 ?_
      refine lv_iadd hx hb dX9_saysNumber_63 ?_
      obtain ⟨o1, ho1, h⟩ := bd_x h
      refine r_V X hH (ws1 := (wX9 g a i o1)) (As := [.int ((48 : Int32) + ((m_figures xs) j2))]) (rest := []) (st1 := []) (uX9_writes (a := a) (i := i) ho1) kX9_writes mX9_341 iX9_writes vX9_writes zX9 okX9_writes ⟨Nat.le_of_ble_eq_true rfl, Nat.le_of_ble_eq_true rfl⟩ rfl rfl (q0 := 0) rfl rfl [0, 1, 2, 3, 4, 5, 6, 7, 8, 9, 10, 11, 12, 13, 14, 15, 16, 17, 18, 19, 20, 21, 22, 23, 24, 25, 26, 27, 28, 29, 30, 31, 32, 33] rfl rfl rfl rfl rfl hl.1 rfl (Nat.le_of_ble_eq_true rfl) ⟨Nat.le_refl 0, Nat.le_refl 0⟩ rfl dX9_saysNumber_64 (fun H locs hH => ?_)
      obtain ⟨v4, ev4, h⟩ := ltt_x h
      refine s_inc X (k := 2) (lv' := [(6, .int v4), (0, .ref (a i)), (1, .long pa)]) hl rfl (by rw [ev4]; rfl) dX9_saysNumber_67 (by decide) rfl (fun ls hl => ?_)
      refine lv_goto (tgt := 48) hx hb dX9_saysNumber_70 (by decide) ?_
      exact ih o1 v4 H locs ls h hH (lv_sub hl [1, 2, 0] rfl)
set_option maxHeartbeats 4000000 in
set_option maxRecDepth 100000 in
theorem pX9_saysNumber_5 {p : Program} {l : Launch} {e : Env} {s : State} {m : MethodId} {args : Array Value} {below : List Frame} {meth : Method} {c : Code} {g : GG} {w0 : va_W} {a : Nat → Nat} {i : Nat} {pa : Int64} {o : SX9} (X : mX g yX9_saysNumber cX9_saysNumber 7 none p s m args meth c w0) :
  ∀ (fu : Nat) (xs : SX9) (l3 : Int32) (l4 : Int64) (H : Heap) (locs : List Loc) (ls : Array Slot), qX9_saysNumber_5 pa fu xs l3 l4 = some o → mH g s w0 (wX9 g a i xs) H locs → lv_has ls 7 [(0, .ref (a i)), (1, .long pa), (3, .int l3), (4, .long l4)] → W p l e (rM 1 21) s m args below meth c H locs 0 0 (mZ g below args s w0 (wX9 g a i o) none) (F0 m 5 ls []) := by
  have hx := X.1
  have hb := X.2.1
  intro fu
  induction fu with
  | zero =>
    intro xs l3 l4 H locs ls h
    unfold qX9_saysNumber_5 at h
    cases h
  | succ fu ih =>
    intro xs l3 l4 H locs ls h hH hl
    unfold qX9_saysNumber_5 at h
    refine lv_lload hx hb dX9_saysNumber_5 (lv_at hl 3 rfl) ?_
    refine lv_lconst (v := (0 : Int64)) hx hb dX9_saysNumber_7 (by decide) ?_
    refine W.lcmp hx hb dX9_saysNumber_8 ?_
    refine lv_if_gt (tgt := 16) hx hb dX9_saysNumber_9 (by decide) (fun c1 => ?_) (fun c1 => ?_)
    · have h := it_x h ((lg_cmp_gt l4 (0 : Int64)).mp c1)
      exact pX9_saysNumber_16 X ih xs l3 l4 H locs ls h hH (lv_sub hl [0, 1, 2, 3] rfl)
    · have h := ie_x h (mt (lg_cmp_gt l4 (0 : Int64)).mpr c1)
      refine lv_iload_n hx hb dX9_saysNumber_12 rfl (lv_at hl 2 rfl) ?_
      refine lv_if_ne (tgt := 43) hx hb dX9_saysNumber_13 (by decide) (fun c2 => ?_) (fun c2 => ?_)
      · have h := ie_x h c2
        refine lv_iload_n hx hb dX9_saysNumber_43 rfl (lv_at hl 2 rfl) ?_
        refine lv_iconst (v := (1 : Int32)) hx hb dX9_saysNumber_44 (by decide) ?_
        refine lv_isub hx hb dX9_saysNumber_45 ?_
        obtain ⟨v3, ev3, h⟩ := ltt_x h
        refine s_i X (lv' := [(6, .int v3), (0, .ref (a i)), (1, .long pa), (3, .int l3), (4, .long l4)]) hl ev3 dX9_saysNumber_46 (by decide) rfl (fun ls hl => ?_)
        exact pX9_saysNumber_48 X FU xs v3 H locs ls h hH (lv_sub hl [1, 2, 0] rfl)
      · have h := it_x h c2
        exact pX9_saysNumber_16 X ih xs l3 l4 H locs ls h hH (lv_sub hl [0, 1, 2, 3] rfl)
set_option maxHeartbeats 4000000 in
set_option maxRecDepth 100000 in
theorem uX9_saysNumber {l : Launch} {g : GG} {a : Nat → Nat} {i : Nat} {xs : SX9} {pa : Int64} {o : SX9} (h : fX9_saysNumber xs pa = some o) : mC l g yX9_saysNumber cX9_saysNumber 7 none (rM 1 21) [.ref (a i), .long pa] (wX9 g a i xs) (wX9 g a i o) none := by
  refine mC.ofW (by decide) (fun p e s m below meth c X hH ls _ hl => ?_) (Nat.le_of_ble_eq_true rfl)
  have hx := X.1
  have hb := X.2.1
  have hl : lv_has ls 7 [(0, .ref (a i)), (1, .long pa)] := hl
  unfold fX9_saysNumber at h
  suffices HH : ∀ (H : Heap) (locs : List Loc), mH g s (wX9 g a i xs) (wX9 g a i xs) H locs → W p l e (rM 1 21) s m _ below meth c H locs 0 0 (mZ g below _ s (wX9 g a i xs) (wX9 g a i o) none) (F0 m 0 ls []) from HH _ _ hH
  clear hH
  intro H locs hH
  refine lv_iconst (v := (0 : Int32)) hx hb dX9_saysNumber_0 (by decide) ?_
  refine s_in X (lv' := [(3, .int (0 : Int32)), (0, .ref (a i)), (1, .long pa)]) hl rfl dX9_saysNumber_1 rfl (by decide) rfl (fun ls hl => ?_)
  refine lv_lload_n hx hb dX9_saysNumber_2 rfl (lv_at hl 2 rfl) ?_
  refine s_l X (lv' := [(4, .long pa), (3, .int (0 : Int32)), (0, .ref (a i)), (1, .long pa)]) hl rfl dX9_saysNumber_3 (by decide) rfl (fun ls hl => ?_)
  exact pX9_saysNumber_5 X FU xs (0 : Int32) pa H locs ls h hH (lv_sub hl [2, 3, 1, 0] rfl)

def fX9_saysFraction (xs : SX9) (pa : Int64) (pb : Int64) : Option SX9 :=
  (fX9_partOf pa pb (0 : Int32)).bind fun o1 =>
  (fX9_saysNumber xs o1).bind fun o2 =>
  (fX9_partOf pa pb (1 : Int32)).bind fun o3 =>
  (if o3 = (1 : Int64) then
  some o2
  else
  (fX9_writes o2 (47 : Int32)).bind fun o4 =>
  (fX9_partOf pa pb (1 : Int32)).bind fun o5 =>
  (fX9_saysNumber o4 o5).bind fun o6 =>
  some o6)
set_option maxHeartbeats 4000000 in
set_option maxRecDepth 100000 in
theorem uX9_saysFraction {l : Launch} {g : GG} {a : Nat → Nat} {i : Nat} {xs : SX9} {pa : Int64} {pb : Int64} {o : SX9} (h : fX9_saysFraction xs pa pb = some o) : mC l g yX9_saysFraction cX9_saysFraction 5 none (rM 2 53) [.ref (a i), .long pa, .long pb] (wX9 g a i xs) (wX9 g a i o) none := by
  refine mC.ofW (by decide) (fun p e s m below meth c X hH ls _ hl => ?_) (Nat.le_of_ble_eq_true rfl)
  have hx := X.1
  have hb := X.2.1
  have hl : lv_has ls 5 [(0, .ref (a i)), (1, .long pa), (3, .long pb)] := hl
  unfold fX9_saysFraction at h
  suffices HH : ∀ (H : Heap) (locs : List Loc), mH g s (wX9 g a i xs) (wX9 g a i xs) H locs → W p l e (rM 2 53) s m _ below meth c H locs 0 0 (mZ g below _ s (wX9 g a i xs) (wX9 g a i o) none) (F0 m 0 ls []) from HH _ _ hH
  clear hH
  intro H locs hH
  refine lv_aload_n hx hb dX9_saysFraction_0 rfl (lv_at hl 0 rfl) ?_
  refine lv_lload_n hx hb dX9_saysFraction_1 rfl (lv_at hl 1 rfl) ?_
  refine lv_lload_n hx hb dX9_saysFraction_2 rfl (lv_at hl 2 rfl) ?_
  refine lv_iconst (v := (0 : Int32)) hx hb dX9_saysFraction_3 (by decide) ?_
  obtain ⟨o1, ho1, h⟩ := bd_x h
  refine r_S X hH (ws1 := (wX9 g a i xs)) (As := [.long pa, .long pb, .int (0 : Int32)]) (rest := [.ref (a i)]) (st1 := [.long o1, .ref (a i)]) (uX9_partOf  ho1) kX9_partOf mX9_279 sX9_partOf zX9 okX9_partOf ⟨Nat.le_of_ble_eq_true rfl, Nat.le_of_ble_eq_true rfl⟩ rfl rfl [] rfl rfl rfl (putl_self _ _ rfl) rfl hl.1 rfl (Nat.le_of_ble_eq_true rfl) ⟨Nat.le_refl 0, Nat.le_refl 0⟩ rfl dX9_saysFraction_4 (fun H locs hH => ?_)
  obtain ⟨o2, ho2, h⟩ := bd_x h
  refine r_V X hH (ws1 := (wX9 g a i o2)) (As := [.long o1]) (rest := []) (st1 := []) (uX9_saysNumber (a := a) (i := i) ho2) kX9_saysNumber mX9_346 iX9_saysNumber vX9_saysNumber zX9 okX9_saysNumber ⟨Nat.le_of_ble_eq_true rfl, Nat.le_of_ble_eq_true rfl⟩ rfl rfl (q0 := 0) rfl rfl [0, 1, 2, 3, 4, 5, 6, 7, 8, 9, 10, 11, 12, 13, 14, 15, 16, 17, 18, 19, 20, 21, 22, 23, 24, 25, 26, 27, 28, 29, 30, 31, 32, 33] rfl rfl rfl rfl rfl hl.1 rfl (Nat.le_of_ble_eq_true rfl) ⟨Nat.le_refl 0, Nat.le_refl 0⟩ rfl dX9_saysFraction_7 (fun H locs hH => ?_)
  refine lv_lload_n hx hb dX9_saysFraction_10 rfl (lv_at hl 1 rfl) ?_
  refine lv_lload_n hx hb dX9_saysFraction_11 rfl (lv_at hl 2 rfl) ?_
  refine lv_iconst (v := (1 : Int32)) hx hb dX9_saysFraction_12 (by decide) ?_
  obtain ⟨o3, ho3, h⟩ := bd_x h
  refine r_S X hH (ws1 := (wX9 g a i o2)) (As := [.long pa, .long pb, .int (1 : Int32)]) (rest := []) (st1 := [.long o3]) (uX9_partOf  ho3) kX9_partOf mX9_279 sX9_partOf zX9 okX9_partOf ⟨Nat.le_of_ble_eq_true rfl, Nat.le_of_ble_eq_true rfl⟩ rfl rfl [] rfl rfl rfl (putl_self _ _ rfl) rfl hl.1 rfl (Nat.le_of_ble_eq_true rfl) ⟨Nat.le_refl 0, Nat.le_refl 0⟩ rfl dX9_saysFraction_13 (fun H locs hH => ?_)
  refine lv_lconst (v := (1 : Int64)) hx hb dX9_saysFraction_16 (by decide) ?_
  refine W.lcmp hx hb dX9_saysFraction_17 ?_
  refine lv_if_ne (tgt := 22) hx hb dX9_saysFraction_18 (by decide) (fun c1 => ?_) (fun c1 => ?_)
  · have h := ie_x h (mt (lg_cmp_eq o3 (1 : Int64)).mpr c1)
    refine lv_aload_n hx hb dX9_saysFraction_22 rfl (lv_at hl 0 rfl) ?_
    refine lv_bipush (v := (47 : Int32)) hx hb dX9_saysFraction_23 (by decide) ?_
    obtain ⟨o4, ho4, h⟩ := bd_x h
    refine r_V X hH (ws1 := (wX9 g a i o4)) (As := [.int (47 : Int32)]) (rest := []) (st1 := []) (uX9_writes (a := a) (i := i) ho4) kX9_writes mX9_341 iX9_writes vX9_writes zX9 okX9_writes ⟨Nat.le_of_ble_eq_true rfl, Nat.le_of_ble_eq_true rfl⟩ rfl rfl (q0 := 0) rfl rfl [0, 1, 2, 3, 4, 5, 6, 7, 8, 9, 10, 11, 12, 13, 14, 15, 16, 17, 18, 19, 20, 21, 22, 23, 24, 25, 26, 27, 28, 29, 30, 31, 32, 33] rfl rfl rfl rfl rfl hl.1 rfl (Nat.le_of_ble_eq_true rfl) ⟨Nat.le_refl 0, Nat.le_refl 0⟩ rfl dX9_saysFraction_25 (fun H locs hH => ?_)
    refine lv_aload_n hx hb dX9_saysFraction_28 rfl (lv_at hl 0 rfl) ?_
    refine lv_lload_n hx hb dX9_saysFraction_29 rfl (lv_at hl 1 rfl) ?_
    refine lv_lload_n hx hb dX9_saysFraction_30 rfl (lv_at hl 2 rfl) ?_
    refine lv_iconst (v := (1 : Int32)) hx hb dX9_saysFraction_31 (by decide) ?_
    obtain ⟨o5, ho5, h⟩ := bd_x h
    refine r_S X hH (ws1 := (wX9 g a i o4)) (As := [.long pa, .long pb, .int (1 : Int32)]) (rest := [.ref (a i)]) (st1 := [.long o5, .ref (a i)]) (uX9_partOf  ho5) kX9_partOf mX9_279 sX9_partOf zX9 okX9_partOf ⟨Nat.le_of_ble_eq_true rfl, Nat.le_of_ble_eq_true rfl⟩ rfl rfl [] rfl rfl rfl (putl_self _ _ rfl) rfl hl.1 rfl (Nat.le_of_ble_eq_true rfl) ⟨Nat.le_refl 0, Nat.le_refl 0⟩ rfl dX9_saysFraction_32 (fun H locs hH => ?_)
    obtain ⟨o6, ho6, h⟩ := bd_x h
    refine r_V X hH (ws1 := (wX9 g a i o6)) (As := [.long o5]) (rest := []) (st1 := []) (uX9_saysNumber (a := a) (i := i) ho6) kX9_saysNumber mX9_346 iX9_saysNumber vX9_saysNumber zX9 okX9_saysNumber ⟨Nat.le_of_ble_eq_true rfl, Nat.le_of_ble_eq_true rfl⟩ rfl rfl (q0 := 0) rfl rfl [0, 1, 2, 3, 4, 5, 6, 7, 8, 9, 10, 11, 12, 13, 14, 15, 16, 17, 18, 19, 20, 21, 22, 23, 24, 25, 26, 27, 28, 29, 30, 31, 32, 33] rfl rfl rfl rfl rfl hl.1 rfl (Nat.le_of_ble_eq_true rfl) ⟨Nat.le_refl 0, Nat.le_refl 0⟩ rfl dX9_saysFraction_35 (fun H locs hH => ?_)
    cases h
    exact e_v X hH dX9_saysFraction_38
  · have h := it_x h ((lg_cmp_eq o3 (1 : Int64)).mp c1)
    cases h
    exact e_v X hH dX9_saysFraction_21

def qX9_saysAll_23_2   : Nat → SX9 → Int32 → Option SX9
  | 0, _, _ => none
  | fu + 1, xs, l2 =>
  (if (4 : Int32) ≤ l2 then
  some xs
  else
  ga 4 l2 fun j1 =>
  (fX9_writes xs ((m_to xs) j1)).bind fun o1 =>
  ltt (l2 + (1 : Int32)) fun v1 =>
  qX9_saysAll_23_2  fu o1 v1)
def fX9_saysAll_23 (xs : SX9) : Option SX9 :=
  qX9_saysAll_23_2 FU xs (0 : Int32)
set_option maxHeartbeats 4000000 in
set_option maxRecDepth 100000 in
theorem pX9_saysAll_23_2 {p : Program} {l : Launch} {e : Env} {s : State} {m : MethodId} {args : Array Value} {below : List Frame} {meth : Method} {c : Code} {g : GG} {w0 : va_W} {a : Nat → Nat} {i : Nat}  {o : SX9} (X : mX g yX9_saysAll cX9_saysAll 3 none p s m args meth c w0) :
  ∀ (fu : Nat) (xs : SX9) (l2 : Int32) (H : Heap) (locs : List Loc) (ls : Array Slot), qX9_saysAll_23_2 fu xs l2 = some o → mH g s w0 (wX9 g a i xs) H locs → lv_has ls 3 [(0, .ref (a i)), (1, .ref (a (i + 23))), (2, .int l2)] → W p l e (rM 1 21) s m args below meth c H locs 0 0 (mZ g below args s w0 (wX9 g a i o) none) (F0 m 2 ls []) := by
  have hx := X.1
  have hb := X.2.1
  intro fu
  induction fu with
  | zero =>
    intro xs l2 H locs ls h
    unfold qX9_saysAll_23_2 at h
    cases h
  | succ fu ih =>
    intro xs l2 H locs ls h hH hl
    unfold qX9_saysAll_23_2 at h
    refine lv_iload_n hx hb dX9_saysAll_2 rfl (lv_at hl 2 rfl) ?_
    refine lv_aload_n hx hb dX9_saysAll_3 rfl (lv_at hl 1 rfl) ?_
    refine a_len X hH (v := (4 : Int32)) 23 3 rfl rfl (by decide) dX9_saysAll_4 ?_
    refine lv_icmp_ge (tgt := 21) hx hb dX9_saysAll_5 (by decide) (fun c1 => ?_) (fun c1 => ?_)
    · have h := it_x h c1
      cases h
      exact e_v X hH dX9_saysAll_21
    · have h := ie_x h c1
      refine lv_aload_n hx hb dX9_saysAll_8 rfl (lv_at hl 0 rfl) ?_
      refine lv_aload_n hx hb dX9_saysAll_9 rfl (lv_at hl 1 rfl) ?_
      refine lv_iload_n hx hb dX9_saysAll_10 rfl (lv_at hl 2 rfl) ?_
      obtain ⟨j1, ej1, hinj1, h⟩ := ga_x h
      refine a_cl X hH 23 rfl hinj1 ej1 dX9_saysAll_11 ?_
      obtain ⟨o1, ho1, h⟩ := bd_x h
      refine r_V X hH (ws1 := (wX9 g a i o1)) (As := [.int ((m_to xs) j1)]) (rest := []) (st1 := []) (uX9_writes (a := a) (i := i) ho1) kX9_writes mX9_341 iX9_writes vX9_writes zX9 okX9_writes ⟨Nat.le_of_ble_eq_true rfl, Nat.le_of_ble_eq_true rfl⟩ rfl rfl (q0 := 0) rfl rfl [0, 1, 2, 3, 4, 5, 6, 7, 8, 9, 10, 11, 12, 13, 14, 15, 16, 17, 18, 19, 20, 21, 22, 23, 24, 25, 26, 27, 28, 29, 30, 31, 32, 33] rfl rfl rfl rfl rfl hl.1 rfl (Nat.le_of_ble_eq_true rfl) ⟨Nat.le_refl 0, Nat.le_refl 0⟩ rfl dX9_saysAll_12 (fun H locs hH => ?_)
      obtain ⟨v1, ev1, h⟩ := ltt_x h
      refine s_inc X (k := 2) (lv' := [(2, .int v1), (0, .ref (a i)), (1, .ref (a (i + 23)))]) hl rfl (by rw [ev1]; rfl) dX9_saysAll_15 (by decide) rfl (fun ls hl => ?_)
      refine lv_goto (tgt := 2) hx hb dX9_saysAll_18 (by decide) ?_
      exact ih o1 v1 H locs ls h hH (lv_sub hl [1, 2, 0] rfl)
set_option maxHeartbeats 4000000 in
set_option maxRecDepth 100000 in
theorem uX9_saysAll_23 {l : Launch} {g : GG} {a : Nat → Nat} {i : Nat} {xs : SX9} {o : SX9} (h : fX9_saysAll_23 xs = some o) : mC l g yX9_saysAll cX9_saysAll 3 none (rM 1 21) [.ref (a i), .ref (a (i + 23))] (wX9 g a i xs) (wX9 g a i o) none := by
  refine mC.ofW (by decide) (fun p e s m below meth c X hH ls _ hl => ?_) (Nat.le_of_ble_eq_true rfl)
  have hx := X.1
  have hb := X.2.1
  have hl : lv_has ls 3 [(0, .ref (a i)), (1, .ref (a (i + 23)))] := hl
  unfold fX9_saysAll_23 at h
  suffices HH : ∀ (H : Heap) (locs : List Loc), mH g s (wX9 g a i xs) (wX9 g a i xs) H locs → W p l e (rM 1 21) s m _ below meth c H locs 0 0 (mZ g below _ s (wX9 g a i xs) (wX9 g a i o) none) (F0 m 0 ls []) from HH _ _ hH
  clear hH
  intro H locs hH
  refine lv_iconst (v := (0 : Int32)) hx hb dX9_saysAll_0 (by decide) ?_
  refine s_in X (lv' := [(2, .int (0 : Int32)), (0, .ref (a i)), (1, .ref (a (i + 23)))]) hl rfl dX9_saysAll_1 rfl (by decide) rfl (fun ls hl => ?_)
  exact pX9_saysAll_23_2 X FU xs (0 : Int32) H locs ls h hH (lv_sub hl [1, 2, 0] rfl)

def qX9_saysAll_24_2   : Nat → SX9 → Int32 → Option SX9
  | 0, _, _ => none
  | fu + 1, xs, l2 =>
  (if (5 : Int32) ≤ l2 then
  some xs
  else
  ga 5 l2 fun j1 =>
  (fX9_writes xs ((m_never xs) j1)).bind fun o1 =>
  ltt (l2 + (1 : Int32)) fun v1 =>
  qX9_saysAll_24_2  fu o1 v1)
def fX9_saysAll_24 (xs : SX9) : Option SX9 :=
  qX9_saysAll_24_2 FU xs (0 : Int32)
set_option maxHeartbeats 4000000 in
set_option maxRecDepth 100000 in
theorem pX9_saysAll_24_2 {p : Program} {l : Launch} {e : Env} {s : State} {m : MethodId} {args : Array Value} {below : List Frame} {meth : Method} {c : Code} {g : GG} {w0 : va_W} {a : Nat → Nat} {i : Nat}  {o : SX9} (X : mX g yX9_saysAll cX9_saysAll 3 none p s m args meth c w0) :
  ∀ (fu : Nat) (xs : SX9) (l2 : Int32) (H : Heap) (locs : List Loc) (ls : Array Slot), qX9_saysAll_24_2 fu xs l2 = some o → mH g s w0 (wX9 g a i xs) H locs → lv_has ls 3 [(0, .ref (a i)), (1, .ref (a (i + 24))), (2, .int l2)] → W p l e (rM 1 21) s m args below meth c H locs 0 0 (mZ g below args s w0 (wX9 g a i o) none) (F0 m 2 ls []) := by
  have hx := X.1
  have hb := X.2.1
  intro fu
  induction fu with
  | zero =>
    intro xs l2 H locs ls h
    unfold qX9_saysAll_24_2 at h
    cases h
  | succ fu ih =>
    intro xs l2 H locs ls h hH hl
    unfold qX9_saysAll_24_2 at h
    refine lv_iload_n hx hb dX9_saysAll_2 rfl (lv_at hl 2 rfl) ?_
    refine lv_aload_n hx hb dX9_saysAll_3 rfl (lv_at hl 1 rfl) ?_
    refine a_len X hH (v := (5 : Int32)) 24 3 rfl rfl (by decide) dX9_saysAll_4 ?_
    refine lv_icmp_ge (tgt := 21) hx hb dX9_saysAll_5 (by decide) (fun c1 => ?_) (fun c1 => ?_)
    · have h := it_x h c1
      cases h
      exact e_v X hH dX9_saysAll_21
    · have h := ie_x h c1
      refine lv_aload_n hx hb dX9_saysAll_8 rfl (lv_at hl 0 rfl) ?_
      refine lv_aload_n hx hb dX9_saysAll_9 rfl (lv_at hl 1 rfl) ?_
      refine lv_iload_n hx hb dX9_saysAll_10 rfl (lv_at hl 2 rfl) ?_
      obtain ⟨j1, ej1, hinj1, h⟩ := ga_x h
      refine a_cl X hH 24 rfl hinj1 ej1 dX9_saysAll_11 ?_
      obtain ⟨o1, ho1, h⟩ := bd_x h
      refine r_V X hH (ws1 := (wX9 g a i o1)) (As := [.int ((m_never xs) j1)]) (rest := []) (st1 := []) (uX9_writes (a := a) (i := i) ho1) kX9_writes mX9_341 iX9_writes vX9_writes zX9 okX9_writes ⟨Nat.le_of_ble_eq_true rfl, Nat.le_of_ble_eq_true rfl⟩ rfl rfl (q0 := 0) rfl rfl [0, 1, 2, 3, 4, 5, 6, 7, 8, 9, 10, 11, 12, 13, 14, 15, 16, 17, 18, 19, 20, 21, 22, 23, 24, 25, 26, 27, 28, 29, 30, 31, 32, 33] rfl rfl rfl rfl rfl hl.1 rfl (Nat.le_of_ble_eq_true rfl) ⟨Nat.le_refl 0, Nat.le_refl 0⟩ rfl dX9_saysAll_12 (fun H locs hH => ?_)
      obtain ⟨v1, ev1, h⟩ := ltt_x h
      refine s_inc X (k := 2) (lv' := [(2, .int v1), (0, .ref (a i)), (1, .ref (a (i + 24)))]) hl rfl (by rw [ev1]; rfl) dX9_saysAll_15 (by decide) rfl (fun ls hl => ?_)
      refine lv_goto (tgt := 2) hx hb dX9_saysAll_18 (by decide) ?_
      exact ih o1 v1 H locs ls h hH (lv_sub hl [1, 2, 0] rfl)
set_option maxHeartbeats 4000000 in
set_option maxRecDepth 100000 in
theorem uX9_saysAll_24 {l : Launch} {g : GG} {a : Nat → Nat} {i : Nat} {xs : SX9} {o : SX9} (h : fX9_saysAll_24 xs = some o) : mC l g yX9_saysAll cX9_saysAll 3 none (rM 1 21) [.ref (a i), .ref (a (i + 24))] (wX9 g a i xs) (wX9 g a i o) none := by
  refine mC.ofW (by decide) (fun p e s m below meth c X hH ls _ hl => ?_) (Nat.le_of_ble_eq_true rfl)
  have hx := X.1
  have hb := X.2.1
  have hl : lv_has ls 3 [(0, .ref (a i)), (1, .ref (a (i + 24)))] := hl
  unfold fX9_saysAll_24 at h
  suffices HH : ∀ (H : Heap) (locs : List Loc), mH g s (wX9 g a i xs) (wX9 g a i xs) H locs → W p l e (rM 1 21) s m _ below meth c H locs 0 0 (mZ g below _ s (wX9 g a i xs) (wX9 g a i o) none) (F0 m 0 ls []) from HH _ _ hH
  clear hH
  intro H locs hH
  refine lv_iconst (v := (0 : Int32)) hx hb dX9_saysAll_0 (by decide) ?_
  refine s_in X (lv' := [(2, .int (0 : Int32)), (0, .ref (a i)), (1, .ref (a (i + 24)))]) hl rfl dX9_saysAll_1 rfl (by decide) rfl (fun ls hl => ?_)
  exact pX9_saysAll_24_2 X FU xs (0 : Int32) H locs ls h hH (lv_sub hl [1, 2, 0] rfl)

def qX9_saysAll_25_2   : Nat → SX9 → Int32 → Option SX9
  | 0, _, _ => none
  | fu + 1, xs, l2 =>
  (if (8 : Int32) ≤ l2 then
  some xs
  else
  ga 8 l2 fun j1 =>
  (fX9_writes xs ((m_one xs) j1)).bind fun o1 =>
  ltt (l2 + (1 : Int32)) fun v1 =>
  qX9_saysAll_25_2  fu o1 v1)
def fX9_saysAll_25 (xs : SX9) : Option SX9 :=
  qX9_saysAll_25_2 FU xs (0 : Int32)
set_option maxHeartbeats 4000000 in
set_option maxRecDepth 100000 in
theorem pX9_saysAll_25_2 {p : Program} {l : Launch} {e : Env} {s : State} {m : MethodId} {args : Array Value} {below : List Frame} {meth : Method} {c : Code} {g : GG} {w0 : va_W} {a : Nat → Nat} {i : Nat}  {o : SX9} (X : mX g yX9_saysAll cX9_saysAll 3 none p s m args meth c w0) :
  ∀ (fu : Nat) (xs : SX9) (l2 : Int32) (H : Heap) (locs : List Loc) (ls : Array Slot), qX9_saysAll_25_2 fu xs l2 = some o → mH g s w0 (wX9 g a i xs) H locs → lv_has ls 3 [(0, .ref (a i)), (1, .ref (a (i + 25))), (2, .int l2)] → W p l e (rM 1 21) s m args below meth c H locs 0 0 (mZ g below args s w0 (wX9 g a i o) none) (F0 m 2 ls []) := by
  have hx := X.1
  have hb := X.2.1
  intro fu
  induction fu with
  | zero =>
    intro xs l2 H locs ls h
    unfold qX9_saysAll_25_2 at h
    cases h
  | succ fu ih =>
    intro xs l2 H locs ls h hH hl
    unfold qX9_saysAll_25_2 at h
    refine lv_iload_n hx hb dX9_saysAll_2 rfl (lv_at hl 2 rfl) ?_
    refine lv_aload_n hx hb dX9_saysAll_3 rfl (lv_at hl 1 rfl) ?_
    refine a_len X hH (v := (8 : Int32)) 25 3 rfl rfl (by decide) dX9_saysAll_4 ?_
    refine lv_icmp_ge (tgt := 21) hx hb dX9_saysAll_5 (by decide) (fun c1 => ?_) (fun c1 => ?_)
    · have h := it_x h c1
      cases h
      exact e_v X hH dX9_saysAll_21
    · have h := ie_x h c1
      refine lv_aload_n hx hb dX9_saysAll_8 rfl (lv_at hl 0 rfl) ?_
      refine lv_aload_n hx hb dX9_saysAll_9 rfl (lv_at hl 1 rfl) ?_
      refine lv_iload_n hx hb dX9_saysAll_10 rfl (lv_at hl 2 rfl) ?_
      obtain ⟨j1, ej1, hinj1, h⟩ := ga_x h
      refine a_cl X hH 25 rfl hinj1 ej1 dX9_saysAll_11 ?_
      obtain ⟨o1, ho1, h⟩ := bd_x h
      refine r_V X hH (ws1 := (wX9 g a i o1)) (As := [.int ((m_one xs) j1)]) (rest := []) (st1 := []) (uX9_writes (a := a) (i := i) ho1) kX9_writes mX9_341 iX9_writes vX9_writes zX9 okX9_writes ⟨Nat.le_of_ble_eq_true rfl, Nat.le_of_ble_eq_true rfl⟩ rfl rfl (q0 := 0) rfl rfl [0, 1, 2, 3, 4, 5, 6, 7, 8, 9, 10, 11, 12, 13, 14, 15, 16, 17, 18, 19, 20, 21, 22, 23, 24, 25, 26, 27, 28, 29, 30, 31, 32, 33] rfl rfl rfl rfl rfl hl.1 rfl (Nat.le_of_ble_eq_true rfl) ⟨Nat.le_refl 0, Nat.le_refl 0⟩ rfl dX9_saysAll_12 (fun H locs hH => ?_)
      obtain ⟨v1, ev1, h⟩ := ltt_x h
      refine s_inc X (k := 2) (lv' := [(2, .int v1), (0, .ref (a i)), (1, .ref (a (i + 25)))]) hl rfl (by rw [ev1]; rfl) dX9_saysAll_15 (by decide) rfl (fun ls hl => ?_)
      refine lv_goto (tgt := 2) hx hb dX9_saysAll_18 (by decide) ?_
      exact ih o1 v1 H locs ls h hH (lv_sub hl [1, 2, 0] rfl)
set_option maxHeartbeats 4000000 in
set_option maxRecDepth 100000 in
theorem uX9_saysAll_25 {l : Launch} {g : GG} {a : Nat → Nat} {i : Nat} {xs : SX9} {o : SX9} (h : fX9_saysAll_25 xs = some o) : mC l g yX9_saysAll cX9_saysAll 3 none (rM 1 21) [.ref (a i), .ref (a (i + 25))] (wX9 g a i xs) (wX9 g a i o) none := by
  refine mC.ofW (by decide) (fun p e s m below meth c X hH ls _ hl => ?_) (Nat.le_of_ble_eq_true rfl)
  have hx := X.1
  have hb := X.2.1
  have hl : lv_has ls 3 [(0, .ref (a i)), (1, .ref (a (i + 25)))] := hl
  unfold fX9_saysAll_25 at h
  suffices HH : ∀ (H : Heap) (locs : List Loc), mH g s (wX9 g a i xs) (wX9 g a i xs) H locs → W p l e (rM 1 21) s m _ below meth c H locs 0 0 (mZ g below _ s (wX9 g a i xs) (wX9 g a i o) none) (F0 m 0 ls []) from HH _ _ hH
  clear hH
  intro H locs hH
  refine lv_iconst (v := (0 : Int32)) hx hb dX9_saysAll_0 (by decide) ?_
  refine s_in X (lv' := [(2, .int (0 : Int32)), (0, .ref (a i)), (1, .ref (a (i + 25)))]) hl rfl dX9_saysAll_1 rfl (by decide) rfl (fun ls hl => ?_)
  exact pX9_saysAll_25_2 X FU xs (0 : Int32) H locs ls h hH (lv_sub hl [1, 2, 0] rfl)

def qX9_saysAll_26_2   : Nat → SX9 → Int32 → Option SX9
  | 0, _, _ => none
  | fu + 1, xs, l2 =>
  (if (10 : Int32) ≤ l2 then
  some xs
  else
  ga 10 l2 fun j1 =>
  (fX9_writes xs ((m_both xs) j1)).bind fun o1 =>
  ltt (l2 + (1 : Int32)) fun v1 =>
  qX9_saysAll_26_2  fu o1 v1)
def fX9_saysAll_26 (xs : SX9) : Option SX9 :=
  qX9_saysAll_26_2 FU xs (0 : Int32)
set_option maxHeartbeats 4000000 in
set_option maxRecDepth 100000 in
theorem pX9_saysAll_26_2 {p : Program} {l : Launch} {e : Env} {s : State} {m : MethodId} {args : Array Value} {below : List Frame} {meth : Method} {c : Code} {g : GG} {w0 : va_W} {a : Nat → Nat} {i : Nat}  {o : SX9} (X : mX g yX9_saysAll cX9_saysAll 3 none p s m args meth c w0) :
  ∀ (fu : Nat) (xs : SX9) (l2 : Int32) (H : Heap) (locs : List Loc) (ls : Array Slot), qX9_saysAll_26_2 fu xs l2 = some o → mH g s w0 (wX9 g a i xs) H locs → lv_has ls 3 [(0, .ref (a i)), (1, .ref (a (i + 26))), (2, .int l2)] → W p l e (rM 1 21) s m args below meth c H locs 0 0 (mZ g below args s w0 (wX9 g a i o) none) (F0 m 2 ls []) := by
  have hx := X.1
  have hb := X.2.1
  intro fu
  induction fu with
  | zero =>
    intro xs l2 H locs ls h
    unfold qX9_saysAll_26_2 at h
    cases h
  | succ fu ih =>
    intro xs l2 H locs ls h hH hl
    unfold qX9_saysAll_26_2 at h
    refine lv_iload_n hx hb dX9_saysAll_2 rfl (lv_at hl 2 rfl) ?_
    refine lv_aload_n hx hb dX9_saysAll_3 rfl (lv_at hl 1 rfl) ?_
    refine a_len X hH (v := (10 : Int32)) 26 3 rfl rfl (by decide) dX9_saysAll_4 ?_
    refine lv_icmp_ge (tgt := 21) hx hb dX9_saysAll_5 (by decide) (fun c1 => ?_) (fun c1 => ?_)
    · have h := it_x h c1
      cases h
      exact e_v X hH dX9_saysAll_21
    · have h := ie_x h c1
      refine lv_aload_n hx hb dX9_saysAll_8 rfl (lv_at hl 0 rfl) ?_
      refine lv_aload_n hx hb dX9_saysAll_9 rfl (lv_at hl 1 rfl) ?_
      refine lv_iload_n hx hb dX9_saysAll_10 rfl (lv_at hl 2 rfl) ?_
      obtain ⟨j1, ej1, hinj1, h⟩ := ga_x h
      refine a_cl X hH 26 rfl hinj1 ej1 dX9_saysAll_11 ?_
      obtain ⟨o1, ho1, h⟩ := bd_x h
      refine r_V X hH (ws1 := (wX9 g a i o1)) (As := [.int ((m_both xs) j1)]) (rest := []) (st1 := []) (uX9_writes (a := a) (i := i) ho1) kX9_writes mX9_341 iX9_writes vX9_writes zX9 okX9_writes ⟨Nat.le_of_ble_eq_true rfl, Nat.le_of_ble_eq_true rfl⟩ rfl rfl (q0 := 0) rfl rfl [0, 1, 2, 3, 4, 5, 6, 7, 8, 9, 10, 11, 12, 13, 14, 15, 16, 17, 18, 19, 20, 21, 22, 23, 24, 25, 26, 27, 28, 29, 30, 31, 32, 33] rfl rfl rfl rfl rfl hl.1 rfl (Nat.le_of_ble_eq_true rfl) ⟨Nat.le_refl 0, Nat.le_refl 0⟩ rfl dX9_saysAll_12 (fun H locs hH => ?_)
      obtain ⟨v1, ev1, h⟩ := ltt_x h
      refine s_inc X (k := 2) (lv' := [(2, .int v1), (0, .ref (a i)), (1, .ref (a (i + 26)))]) hl rfl (by rw [ev1]; rfl) dX9_saysAll_15 (by decide) rfl (fun ls hl => ?_)
      refine lv_goto (tgt := 2) hx hb dX9_saysAll_18 (by decide) ?_
      exact ih o1 v1 H locs ls h hH (lv_sub hl [1, 2, 0] rfl)
set_option maxHeartbeats 4000000 in
set_option maxRecDepth 100000 in
theorem uX9_saysAll_26 {l : Launch} {g : GG} {a : Nat → Nat} {i : Nat} {xs : SX9} {o : SX9} (h : fX9_saysAll_26 xs = some o) : mC l g yX9_saysAll cX9_saysAll 3 none (rM 1 21) [.ref (a i), .ref (a (i + 26))] (wX9 g a i xs) (wX9 g a i o) none := by
  refine mC.ofW (by decide) (fun p e s m below meth c X hH ls _ hl => ?_) (Nat.le_of_ble_eq_true rfl)
  have hx := X.1
  have hb := X.2.1
  have hl : lv_has ls 3 [(0, .ref (a i)), (1, .ref (a (i + 26)))] := hl
  unfold fX9_saysAll_26 at h
  suffices HH : ∀ (H : Heap) (locs : List Loc), mH g s (wX9 g a i xs) (wX9 g a i xs) H locs → W p l e (rM 1 21) s m _ below meth c H locs 0 0 (mZ g below _ s (wX9 g a i xs) (wX9 g a i o) none) (F0 m 0 ls []) from HH _ _ hH
  clear hH
  intro H locs hH
  refine lv_iconst (v := (0 : Int32)) hx hb dX9_saysAll_0 (by decide) ?_
  refine s_in X (lv' := [(2, .int (0 : Int32)), (0, .ref (a i)), (1, .ref (a (i + 26)))]) hl rfl dX9_saysAll_1 rfl (by decide) rfl (fun ls hl => ?_)
  exact pX9_saysAll_26_2 X FU xs (0 : Int32) H locs ls h hH (lv_sub hl [1, 2, 0] rfl)

def qX9_says_16 (pa : Int32) (pb : Int32) (pc_ : Int32)  (xs : SX9) : Option (Int32 × SX9) :=
  (fX9_no xs (-1 : Int32)).bind fun o2 =>
  some (o2.1, o2.2)
def qX9_says_135 (pa : Int32) (pb : Int32) (pc_ : Int32)  (xs : SX9) : Option (Int32 × SX9) :=
  (if pc_ = (-1 : Int32) then
  some ((m_saidMany xs), xs)
  else
  (fX9_isIn (pc_.toInt64) (0 : Int64) (((m_saidMany xs) - (1 : Int32)).toInt64)).bind fun o12 =>
  (if o12 = (0 : Int32) then
  (fX9_no xs (-1 : Int32)).bind fun o13 =>
  some (o13.1, o13.2)
  else
  ga 120 pc_ fun j1 =>
  some (((m_said xs) j1), xs)))
def fX9_says (xs : SX9) (pa : Int32) (pb : Int32) (pc_ : Int32) : Option (Int32 × SX9) :=
  (fX9_isPoint xs pa).bind fun o1 =>
  (if o1 = (0 : Int32) then
  qX9_says_16 pa pb pc_ xs
  else
  (fX9_isPoint xs pb).bind fun o3 =>
  (if o3 = (0 : Int32) then
  qX9_says_16 pa pb pc_ xs
  else
  (fX9_allThere xs).bind fun o4 =>
  ltt ((m_saidMany_s o4 (0 : Int32))) fun xs1 =>
  (fX9_writes xs1 ((48 : Int32) + pa)).bind fun o5 =>
  (fX9_saysAll_23 o5).bind fun o6 =>
  (fX9_writes o6 ((48 : Int32) + pb)).bind fun o7 =>
  (fX9_writes o7 (58 : Int32)).bind fun o8 =>
  (fX9_writes o8 (32 : Int32)).bind fun o9 =>
  (fX9_findCommute o9 pa pb).bind fun o10 =>
  (if o10.1 = (0 : Int32) then
  (fX9_saysAll_24 o10.2).bind fun o11 =>
  qX9_says_135 pa pb pc_ o11
  else
  (fX9_findTime o10.2 pa pb (0 : Int32)).bind fun o14 =>
  (fX9_saysFraction o14.2 (m_up o14.2) (m_down o14.2)).bind fun o15 =>
  (fX9_saysAll_25 o15).bind fun o16 =>
  (fX9_saysFraction o16 (m_commuteUp o16) (m_commuteDown o16)).bind fun o17 =>
  (fX9_saysAll_26 o17).bind fun o18 =>
  qX9_says_135 pa pb pc_ o18)))
set_option maxHeartbeats 4000000 in
set_option maxRecDepth 100000 in
theorem pX9_says_16 {p : Program} {l : Launch} {e : Env} {s : State} {m : MethodId} {args : Array Value} {below : List Frame} {meth : Method} {c : Code} {g : GG} {w0 : va_W} {a : Nat → Nat} {i : Nat} {pa : Int32} {pb : Int32} {pc_ : Int32} {o : (Int32 × SX9)} (X : mX g yX9_says cX9_says 4 (some .int) p s m args meth c w0) :
  ∀ (xs : SX9) (H : Heap) (locs : List Loc) (ls : Array Slot), qX9_says_16 pa pb pc_ xs = some o → mH g s w0 (wX9 g a i xs) H locs → lv_has ls 4 [(0, .ref (a i)), (1, .int pa), (2, .int pb), (3, .int pc_)] → W p l e (rM 6 139) s m args below meth c H locs 0 0 (mZ g below args s w0 (wX9 g a i o.2) (some (.int o.1))) (F0 m 16 ls []) := by
  have hx := X.1
  have hb := X.2.1
  intro xs H locs ls h hH hl
  unfold qX9_says_16 at h
  refine lv_aload_n hx hb dX9_says_16 rfl (lv_at hl 0 rfl) ?_
  refine lv_iconst (v := (-1 : Int32)) hx hb dX9_says_17 (by decide) ?_
  obtain ⟨o2, ho2, h⟩ := bd_x h
  refine r_V X hH (ws1 := (wX9 g a i o2.2)) (As := [.int (-1 : Int32)]) (rest := []) (st1 := [.int o2.1]) (uX9_no (a := a) (i := i) ho2) kX9_no mX9_125 iX9_no vX9_no zX9 okX9_no ⟨Nat.le_of_ble_eq_true rfl, Nat.le_of_ble_eq_true rfl⟩ rfl rfl (q0 := 0) rfl rfl [0, 1, 2, 3, 4, 5, 6, 7, 8, 9, 10, 11, 12, 13, 14, 15, 16, 17, 18, 19, 20, 21, 22, 23, 24, 25, 26, 27, 28, 29, 30, 31, 32, 33] rfl rfl rfl rfl rfl hl.1 rfl (Nat.le_of_ble_eq_true rfl) ⟨Nat.le_refl 0, Nat.le_refl 0⟩ rfl dX9_says_18 (fun H locs hH => ?_)
  cases h
  exact e_i X hH dX9_says_21
set_option maxHeartbeats 4000000 in
set_option maxRecDepth 100000 in
theorem pX9_says_135 {p : Program} {l : Launch} {e : Env} {s : State} {m : MethodId} {args : Array Value} {below : List Frame} {meth : Method} {c : Code} {g : GG} {w0 : va_W} {a : Nat → Nat} {i : Nat} {pa : Int32} {pb : Int32} {pc_ : Int32} {o : (Int32 × SX9)} (X : mX g yX9_says cX9_says 4 (some .int) p s m args meth c w0) :
  ∀ (xs : SX9) (H : Heap) (locs : List Loc) (ls : Array Slot), qX9_says_135 pa pb pc_ xs = some o → mH g s w0 (wX9 g a i xs) H locs → lv_has ls 4 [(0, .ref (a i)), (1, .int pa), (2, .int pb), (3, .int pc_)] → W p l e (rM 6 139) s m args below meth c H locs 0 0 (mZ g below args s w0 (wX9 g a i o.2) (some (.int o.1))) (F0 m 135 ls []) := by
  have hx := X.1
  have hb := X.2.1
  intro xs H locs ls h hH hl
  unfold qX9_says_135 at h
  refine lv_iload_n hx hb dX9_says_135 rfl (lv_at hl 3 rfl) ?_
  refine lv_iconst (v := (-1 : Int32)) hx hb dX9_says_136 (by decide) ?_
  refine lv_icmp_ne (tgt := 145) hx hb dX9_says_137 (by decide) (fun c4 => ?_) (fun c4 => ?_)
  · have h := ie_x h c4
    refine lv_iload_n hx hb dX9_says_145 rfl (lv_at hl 3 rfl) ?_
    refine lv_i2l hx hb dX9_says_146 rfl ?_
    refine lv_lconst (v := (0 : Int64)) hx hb dX9_says_147 (by decide) ?_
    refine lv_aload_n hx hb dX9_says_148 rfl (lv_at hl 0 rfl) ?_
    refine f_get X hH 0 rfl rfl 39 (by decide) inX9 fX9_338 rfl dX9_says_149 ?_
    refine lv_iconst (v := (1 : Int32)) hx hb dX9_says_152 (by decide) ?_
    refine lv_isub hx hb dX9_says_153 ?_
    refine lv_i2l hx hb dX9_says_154 rfl ?_
    obtain ⟨o12, ho12, h⟩ := bd_x h
    refine r_S X hH (ws1 := (wX9 g a i xs)) (As := [.long (pc_.toInt64), .long (0 : Int64), .long (((m_saidMany xs) - (1 : Int32)).toInt64)]) (rest := []) (st1 := [.int o12]) (uX9_isIn  ho12) kX9_isIn mX9_116 sX9_isIn zX9 okX9_isIn ⟨Nat.le_of_ble_eq_true rfl, Nat.le_of_ble_eq_true rfl⟩ rfl rfl [] rfl rfl rfl (putl_self _ _ rfl) rfl hl.1 rfl (Nat.le_of_ble_eq_true rfl) ⟨Nat.le_refl 0, Nat.le_refl 0⟩ rfl dX9_says_155 (fun H locs hH => ?_)
    refine lv_if_eq (tgt := 170) hx hb dX9_says_158 (by decide) (fun c5 => ?_) (fun c5 => ?_)
    · have h := it_x h c5
      refine lv_aload_n hx hb dX9_says_170 rfl (lv_at hl 0 rfl) ?_
      refine lv_iconst (v := (-1 : Int32)) hx hb dX9_says_171 (by decide) ?_
      obtain ⟨o13, ho13, h⟩ := bd_x h
      refine r_V X hH (ws1 := (wX9 g a i o13.2)) (As := [.int (-1 : Int32)]) (rest := []) (st1 := [.int o13.1]) (uX9_no (a := a) (i := i) ho13) kX9_no mX9_125 iX9_no vX9_no zX9 okX9_no ⟨Nat.le_of_ble_eq_true rfl, Nat.le_of_ble_eq_true rfl⟩ rfl rfl (q0 := 0) rfl rfl [0, 1, 2, 3, 4, 5, 6, 7, 8, 9, 10, 11, 12, 13, 14, 15, 16, 17, 18, 19, 20, 21, 22, 23, 24, 25, 26, 27, 28, 29, 30, 31, 32, 33] rfl rfl rfl rfl rfl hl.1 rfl (Nat.le_of_ble_eq_true rfl) ⟨Nat.le_refl 0, Nat.le_refl 0⟩ rfl dX9_says_172 (fun H locs hH => ?_)
      cases h
      exact e_i X hH dX9_says_175
    · have h := ie_x h c5
      refine lv_aload_n hx hb dX9_says_161 rfl (lv_at hl 0 rfl) ?_
      refine f_get X hH 0 rfl rfl 33 (by decide) inX9 fX9_77 rfl dX9_says_162 ?_
      refine lv_iload_n hx hb dX9_says_165 rfl (lv_at hl 3 rfl) ?_
      obtain ⟨j1, ej1, hinj1, h⟩ := ga_x h
      refine a_il X hH 21 rfl hinj1 ej1 dX9_says_166 ?_
      refine lv_goto (tgt := 175) hx hb dX9_says_167 (by decide) ?_
      cases h
      exact e_i X hH dX9_says_175
  · have h := it_x h c4
    refine lv_aload_n hx hb dX9_says_140 rfl (lv_at hl 0 rfl) ?_
    refine f_get X hH 0 rfl rfl 39 (by decide) inX9 fX9_338 rfl dX9_says_141 ?_
    cases h
    exact e_i X hH dX9_says_144
set_option maxHeartbeats 4000000 in
set_option maxRecDepth 100000 in
theorem uX9_says {l : Launch} {g : GG} {a : Nat → Nat} {i : Nat} {xs : SX9} {pa : Int32} {pb : Int32} {pc_ : Int32} {o : (Int32 × SX9)} (h : fX9_says xs pa pb pc_ = some o) : mC l g yX9_says cX9_says 4 (some .int) (rM 6 139) [.ref (a i), .int pa, .int pb, .int pc_] (wX9 g a i xs) (wX9 g a i o.2) (some (.int o.1)) := by
  refine mC.ofW (by decide) (fun p e s m below meth c X hH ls _ hl => ?_) (Nat.le_of_ble_eq_true rfl)
  have hx := X.1
  have hb := X.2.1
  have hl : lv_has ls 4 [(0, .ref (a i)), (1, .int pa), (2, .int pb), (3, .int pc_)] := hl
  unfold fX9_says at h
  suffices HH : ∀ (H : Heap) (locs : List Loc), mH g s (wX9 g a i xs) (wX9 g a i xs) H locs → W p l e (rM 6 139) s m _ below meth c H locs 0 0 (mZ g below _ s (wX9 g a i xs) (wX9 g a i o.2) (some (.int o.1))) (F0 m 0 ls []) from HH _ _ hH
  clear hH
  intro H locs hH
  refine lv_aload_n hx hb dX9_says_0 rfl (lv_at hl 0 rfl) ?_
  refine lv_iload_n hx hb dX9_says_1 rfl (lv_at hl 1 rfl) ?_
  obtain ⟨o1, ho1, h⟩ := bd_x h
  refine r_V X hH (ws1 := (wX9 g a i xs)) (As := [.int pa]) (rest := []) (st1 := [.int o1]) (uX9_isPoint (a := a) (i := i) ho1) kX9_isPoint mX9_141 iX9_isPoint vX9_isPoint zX9 okX9_isPoint ⟨Nat.le_of_ble_eq_true rfl, Nat.le_of_ble_eq_true rfl⟩ rfl rfl (q0 := 0) rfl rfl [0, 1, 2, 3, 4, 5, 6, 7, 8, 9, 10, 11, 12, 13, 14, 15, 16, 17, 18, 19, 20, 21, 22, 23, 24, 25, 26, 27, 28, 29, 30, 31, 32, 33] rfl rfl rfl (putl_self _ _ rfl) rfl hl.1 rfl (Nat.le_of_ble_eq_true rfl) ⟨Nat.le_refl 0, Nat.le_refl 0⟩ rfl dX9_says_2 (fun H locs hH => ?_)
  refine lv_if_eq (tgt := 16) hx hb dX9_says_5 (by decide) (fun c1 => ?_) (fun c1 => ?_)
  · have h := it_x h c1
    exact pX9_says_16 X  xs H locs ls h hH (lv_sub hl [0, 1, 2, 3] rfl)
  · have h := ie_x h c1
    refine lv_aload_n hx hb dX9_says_8 rfl (lv_at hl 0 rfl) ?_
    refine lv_iload_n hx hb dX9_says_9 rfl (lv_at hl 2 rfl) ?_
    obtain ⟨o3, ho3, h⟩ := bd_x h
    refine r_V X hH (ws1 := (wX9 g a i xs)) (As := [.int pb]) (rest := []) (st1 := [.int o3]) (uX9_isPoint (a := a) (i := i) ho3) kX9_isPoint mX9_141 iX9_isPoint vX9_isPoint zX9 okX9_isPoint ⟨Nat.le_of_ble_eq_true rfl, Nat.le_of_ble_eq_true rfl⟩ rfl rfl (q0 := 0) rfl rfl [0, 1, 2, 3, 4, 5, 6, 7, 8, 9, 10, 11, 12, 13, 14, 15, 16, 17, 18, 19, 20, 21, 22, 23, 24, 25, 26, 27, 28, 29, 30, 31, 32, 33] rfl rfl rfl (putl_self _ _ rfl) rfl hl.1 rfl (Nat.le_of_ble_eq_true rfl) ⟨Nat.le_refl 0, Nat.le_refl 0⟩ rfl dX9_says_10 (fun H locs hH => ?_)
    refine lv_if_ne (tgt := 22) hx hb dX9_says_13 (by decide) (fun c2 => ?_) (fun c2 => ?_)
    · have h := ie_x h c2
      refine lv_aload_n hx hb dX9_says_22 rfl (lv_at hl 0 rfl) ?_
      obtain ⟨o4, ho4, h⟩ := bd_x h
      refine r_V X hH (ws1 := (wX9 g a i o4)) (As := []) (rest := []) (st1 := []) (uX9_allThere (a := a) (i := i) ho4) kX9_allThere mX9_230 iX9_allThere vX9_allThere zX9 okX9_allThere ⟨Nat.le_of_ble_eq_true rfl, Nat.le_of_ble_eq_true rfl⟩ rfl rfl (q0 := 0) rfl rfl [0, 1, 2, 3, 4, 5, 6, 7, 8, 9, 10, 11, 12, 13, 14, 15, 16, 17, 18, 19, 20, 21, 22, 23, 24, 25, 26, 27, 28, 29, 30, 31, 32, 33] rfl rfl rfl rfl rfl hl.1 rfl (Nat.le_of_ble_eq_true rfl) ⟨Nat.le_refl 0, Nat.le_refl 0⟩ rfl dX9_says_23 (fun H locs hH => ?_)
      refine lv_aload_n hx hb dX9_says_26 rfl (lv_at hl 0 rfl) ?_
      refine lv_iconst (v := (0 : Int32)) hx hb dX9_says_27 (by decide) ?_
      obtain ⟨xs1, exs1, h⟩ := ltt_x h
      refine f_put X hH (ws1 := (wX9 g a i xs1)) 0 rfl rfl 39 (by decide) inX9 tyX9 tyX9_ok nmX9 fX9_338 rfl rfl rfl (Nat.le_of_ble_eq_true rfl) (by rw [exs1]; rfl) dX9_says_28 (fun H locs hH => ?_)
      refine lv_aload_n hx hb dX9_says_31 rfl (lv_at hl 0 rfl) ?_
      refine lv_bipush (v := (48 : Int32)) hx hb dX9_says_32 (by decide) ?_
      refine lv_iload_n hx hb dX9_says_34 rfl (lv_at hl 1 rfl) ?_
      refine lv_iadd hx hb dX9_says_35 ?_
      obtain ⟨o5, ho5, h⟩ := bd_x h
      refine r_V X hH (ws1 := (wX9 g a i o5)) (As := [.int ((48 : Int32) + pa)]) (rest := []) (st1 := []) (uX9_writes (a := a) (i := i) ho5) kX9_writes mX9_341 iX9_writes vX9_writes zX9 okX9_writes ⟨Nat.le_of_ble_eq_true rfl, Nat.le_of_ble_eq_true rfl⟩ rfl rfl (q0 := 0) rfl rfl [0, 1, 2, 3, 4, 5, 6, 7, 8, 9, 10, 11, 12, 13, 14, 15, 16, 17, 18, 19, 20, 21, 22, 23, 24, 25, 26, 27, 28, 29, 30, 31, 32, 33] rfl rfl rfl rfl rfl hl.1 rfl (Nat.le_of_ble_eq_true rfl) ⟨Nat.le_refl 0, Nat.le_refl 0⟩ rfl dX9_says_36 (fun H locs hH => ?_)
      refine lv_aload_n hx hb dX9_says_39 rfl (lv_at hl 0 rfl) ?_
      refine lv_aload_n hx hb dX9_says_40 rfl (lv_at hl 0 rfl) ?_
      refine f_get X hH 0 rfl rfl 35 (by decide) inX9 fX9_83 rfl dX9_says_41 ?_
      obtain ⟨o6, ho6, h⟩ := bd_x h
      refine r_V X hH (ws1 := (wX9 g a i o6)) (As := [.ref (a (i + 23))]) (rest := []) (st1 := []) (uX9_saysAll_23 (a := a) (i := i) ho6) kX9_saysAll mX9_350 iX9_saysAll vX9_saysAll zX9 okX9_saysAll ⟨Nat.le_of_ble_eq_true rfl, Nat.le_of_ble_eq_true rfl⟩ rfl rfl (q0 := 0) rfl rfl [0, 1, 2, 3, 4, 5, 6, 7, 8, 9, 10, 11, 12, 13, 14, 15, 16, 17, 18, 19, 20, 21, 22, 23, 24, 25, 26, 27, 28, 29, 30, 31, 32, 33] rfl rfl rfl rfl rfl hl.1 rfl (Nat.le_of_ble_eq_true rfl) ⟨Nat.le_refl 0, Nat.le_refl 0⟩ rfl dX9_says_44 (fun H locs hH => ?_)
      refine lv_aload_n hx hb dX9_says_47 rfl (lv_at hl 0 rfl) ?_
      refine lv_bipush (v := (48 : Int32)) hx hb dX9_says_48 (by decide) ?_
      refine lv_iload_n hx hb dX9_says_50 rfl (lv_at hl 2 rfl) ?_
      refine lv_iadd hx hb dX9_says_51 ?_
      obtain ⟨o7, ho7, h⟩ := bd_x h
      refine r_V X hH (ws1 := (wX9 g a i o7)) (As := [.int ((48 : Int32) + pb)]) (rest := []) (st1 := []) (uX9_writes (a := a) (i := i) ho7) kX9_writes mX9_341 iX9_writes vX9_writes zX9 okX9_writes ⟨Nat.le_of_ble_eq_true rfl, Nat.le_of_ble_eq_true rfl⟩ rfl rfl (q0 := 0) rfl rfl [0, 1, 2, 3, 4, 5, 6, 7, 8, 9, 10, 11, 12, 13, 14, 15, 16, 17, 18, 19, 20, 21, 22, 23, 24, 25, 26, 27, 28, 29, 30, 31, 32, 33] rfl rfl rfl rfl rfl hl.1 rfl (Nat.le_of_ble_eq_true rfl) ⟨Nat.le_refl 0, Nat.le_refl 0⟩ rfl dX9_says_52 (fun H locs hH => ?_)
      refine lv_aload_n hx hb dX9_says_55 rfl (lv_at hl 0 rfl) ?_
      refine lv_bipush (v := (58 : Int32)) hx hb dX9_says_56 (by decide) ?_
      obtain ⟨o8, ho8, h⟩ := bd_x h
      refine r_V X hH (ws1 := (wX9 g a i o8)) (As := [.int (58 : Int32)]) (rest := []) (st1 := []) (uX9_writes (a := a) (i := i) ho8) kX9_writes mX9_341 iX9_writes vX9_writes zX9 okX9_writes ⟨Nat.le_of_ble_eq_true rfl, Nat.le_of_ble_eq_true rfl⟩ rfl rfl (q0 := 0) rfl rfl [0, 1, 2, 3, 4, 5, 6, 7, 8, 9, 10, 11, 12, 13, 14, 15, 16, 17, 18, 19, 20, 21, 22, 23, 24, 25, 26, 27, 28, 29, 30, 31, 32, 33] rfl rfl rfl rfl rfl hl.1 rfl (Nat.le_of_ble_eq_true rfl) ⟨Nat.le_refl 0, Nat.le_refl 0⟩ rfl dX9_says_58 (fun H locs hH => ?_)
      refine lv_aload_n hx hb dX9_says_61 rfl (lv_at hl 0 rfl) ?_
      refine lv_bipush (v := (32 : Int32)) hx hb dX9_says_62 (by decide) ?_
      obtain ⟨o9, ho9, h⟩ := bd_x h
      refine r_V X hH (ws1 := (wX9 g a i o9)) (As := [.int (32 : Int32)]) (rest := []) (st1 := []) (uX9_writes (a := a) (i := i) ho9) kX9_writes mX9_341 iX9_writes vX9_writes zX9 okX9_writes ⟨Nat.le_of_ble_eq_true rfl, Nat.le_of_ble_eq_true rfl⟩ rfl rfl (q0 := 0) rfl rfl [0, 1, 2, 3, 4, 5, 6, 7, 8, 9, 10, 11, 12, 13, 14, 15, 16, 17, 18, 19, 20, 21, 22, 23, 24, 25, 26, 27, 28, 29, 30, 31, 32, 33] rfl rfl rfl rfl rfl hl.1 rfl (Nat.le_of_ble_eq_true rfl) ⟨Nat.le_refl 0, Nat.le_refl 0⟩ rfl dX9_says_64 (fun H locs hH => ?_)
      refine lv_aload_n hx hb dX9_says_67 rfl (lv_at hl 0 rfl) ?_
      refine lv_iload_n hx hb dX9_says_68 rfl (lv_at hl 1 rfl) ?_
      refine lv_iload_n hx hb dX9_says_69 rfl (lv_at hl 2 rfl) ?_
      obtain ⟨o10, ho10, h⟩ := bd_x h
      refine r_V X hH (ws1 := (wX9 g a i o10.2)) (As := [.int pa, .int pb]) (rest := []) (st1 := [.int o10.1]) (uX9_findCommute (a := a) (i := i) ho10) kX9_findCommute mX9_293 iX9_findCommute vX9_findCommute zX9 okX9_findCommute ⟨Nat.le_of_ble_eq_true rfl, Nat.le_of_ble_eq_true rfl⟩ rfl rfl (q0 := 0) rfl rfl [0, 1, 2, 3, 4, 5, 6, 7, 8, 9, 10, 11, 12, 13, 14, 15, 16, 17, 18, 19, 20, 21, 22, 23, 24, 25, 26, 27, 28, 29, 30, 31, 32, 33] rfl rfl rfl rfl rfl hl.1 rfl (Nat.le_of_ble_eq_true rfl) ⟨Nat.le_refl 0, Nat.le_refl 0⟩ rfl dX9_says_70 (fun H locs hH => ?_)
      refine lv_if_eq (tgt := 127) hx hb dX9_says_73 (by decide) (fun c3 => ?_) (fun c3 => ?_)
      · have h := it_x h c3
        refine lv_aload_n hx hb dX9_says_127 rfl (lv_at hl 0 rfl) ?_
        refine lv_aload_n hx hb dX9_says_128 rfl (lv_at hl 0 rfl) ?_
        refine f_get X hH 0 rfl rfl 36 (by decide) inX9 fX9_86 rfl dX9_says_129 ?_
        obtain ⟨o11, ho11, h⟩ := bd_x h
        refine r_V X hH (ws1 := (wX9 g a i o11)) (As := [.ref (a (i + 24))]) (rest := []) (st1 := []) (uX9_saysAll_24 (a := a) (i := i) ho11) kX9_saysAll mX9_350 iX9_saysAll vX9_saysAll zX9 okX9_saysAll ⟨Nat.le_of_ble_eq_true rfl, Nat.le_of_ble_eq_true rfl⟩ rfl rfl (q0 := 0) rfl rfl [0, 1, 2, 3, 4, 5, 6, 7, 8, 9, 10, 11, 12, 13, 14, 15, 16, 17, 18, 19, 20, 21, 22, 23, 24, 25, 26, 27, 28, 29, 30, 31, 32, 33] rfl rfl rfl rfl rfl hl.1 rfl (Nat.le_of_ble_eq_true rfl) ⟨Nat.le_refl 0, Nat.le_refl 0⟩ rfl dX9_says_132 (fun H locs hH => ?_)
        exact pX9_says_135 X  o11 H locs ls h hH (lv_sub hl [0, 1, 2, 3] rfl)
      · have h := ie_x h c3
        refine lv_aload_n hx hb dX9_says_76 rfl (lv_at hl 0 rfl) ?_
        refine lv_iload_n hx hb dX9_says_77 rfl (lv_at hl 1 rfl) ?_
        refine lv_iload_n hx hb dX9_says_78 rfl (lv_at hl 2 rfl) ?_
        refine lv_iconst (v := (0 : Int32)) hx hb dX9_says_79 (by decide) ?_
        obtain ⟨o14, ho14, h⟩ := bd_x h
        refine r_V X hH (ws1 := (wX9 g a i o14.2)) (As := [.int pa, .int pb, .int (0 : Int32)]) (rest := []) (st1 := [.int o14.1]) (uX9_findTime (a := a) (i := i) ho14) kX9_findTime mX9_275 iX9_findTime vX9_findTime zX9 okX9_findTime ⟨Nat.le_of_ble_eq_true rfl, Nat.le_of_ble_eq_true rfl⟩ rfl rfl (q0 := 0) rfl rfl [0, 1, 2, 3, 4, 5, 6, 7, 8, 9, 10, 11, 12, 13, 14, 15, 16, 17, 18, 19, 20, 21, 22, 23, 24, 25, 26, 27, 28, 29, 30, 31, 32, 33] rfl rfl rfl rfl rfl hl.1 rfl (Nat.le_of_ble_eq_true rfl) ⟨Nat.le_refl 0, Nat.le_refl 0⟩ rfl dX9_says_80 (fun H locs hH => ?_)
        refine lv_pop hx hb dX9_says_83 rfl ?_
        refine lv_aload_n hx hb dX9_says_84 rfl (lv_at hl 0 rfl) ?_
        refine lv_aload_n hx hb dX9_says_85 rfl (lv_at hl 0 rfl) ?_
        refine f_get X hH 0 rfl rfl 26 (by decide) inX9 fX9_248 rfl dX9_says_86 ?_
        refine lv_aload_n hx hb dX9_says_89 rfl (lv_at hl 0 rfl) ?_
        refine f_get X hH 0 rfl rfl 27 (by decide) inX9 fX9_252 rfl dX9_says_90 ?_
        obtain ⟨o15, ho15, h⟩ := bd_x h
        refine r_V X hH (ws1 := (wX9 g a i o15)) (As := [.long (m_up o14.2), .long (m_down o14.2)]) (rest := []) (st1 := []) (uX9_saysFraction (a := a) (i := i) ho15) kX9_saysFraction mX9_354 iX9_saysFraction vX9_saysFraction zX9 okX9_saysFraction ⟨Nat.le_of_ble_eq_true rfl, Nat.le_of_ble_eq_true rfl⟩ rfl rfl (q0 := 0) rfl rfl [0, 1, 2, 3, 4, 5, 6, 7, 8, 9, 10, 11, 12, 13, 14, 15, 16, 17, 18, 19, 20, 21, 22, 23, 24, 25, 26, 27, 28, 29, 30, 31, 32, 33] rfl rfl rfl rfl rfl hl.1 rfl (Nat.le_of_ble_eq_true rfl) ⟨Nat.le_refl 0, Nat.le_refl 0⟩ rfl dX9_says_93 (fun H locs hH => ?_)
        refine lv_aload_n hx hb dX9_says_96 rfl (lv_at hl 0 rfl) ?_
        refine lv_aload_n hx hb dX9_says_97 rfl (lv_at hl 0 rfl) ?_
        refine f_get X hH 0 rfl rfl 37 (by decide) inX9 fX9_89 rfl dX9_says_98 ?_
        obtain ⟨o16, ho16, h⟩ := bd_x h
        refine r_V X hH (ws1 := (wX9 g a i o16)) (As := [.ref (a (i + 25))]) (rest := []) (st1 := []) (uX9_saysAll_25 (a := a) (i := i) ho16) kX9_saysAll mX9_350 iX9_saysAll vX9_saysAll zX9 okX9_saysAll ⟨Nat.le_of_ble_eq_true rfl, Nat.le_of_ble_eq_true rfl⟩ rfl rfl (q0 := 0) rfl rfl [0, 1, 2, 3, 4, 5, 6, 7, 8, 9, 10, 11, 12, 13, 14, 15, 16, 17, 18, 19, 20, 21, 22, 23, 24, 25, 26, 27, 28, 29, 30, 31, 32, 33] rfl rfl rfl rfl rfl hl.1 rfl (Nat.le_of_ble_eq_true rfl) ⟨Nat.le_refl 0, Nat.le_refl 0⟩ rfl dX9_says_101 (fun H locs hH => ?_)
        refine lv_aload_n hx hb dX9_says_104 rfl (lv_at hl 0 rfl) ?_
        refine lv_aload_n hx hb dX9_says_105 rfl (lv_at hl 0 rfl) ?_
        refine f_get X hH 0 rfl rfl 28 (by decide) inX9 fX9_287 rfl dX9_says_106 ?_
        refine lv_aload_n hx hb dX9_says_109 rfl (lv_at hl 0 rfl) ?_
        refine f_get X hH 0 rfl rfl 29 (by decide) inX9 fX9_290 rfl dX9_says_110 ?_
        obtain ⟨o17, ho17, h⟩ := bd_x h
        refine r_V X hH (ws1 := (wX9 g a i o17)) (As := [.long (m_commuteUp o16), .long (m_commuteDown o16)]) (rest := []) (st1 := []) (uX9_saysFraction (a := a) (i := i) ho17) kX9_saysFraction mX9_354 iX9_saysFraction vX9_saysFraction zX9 okX9_saysFraction ⟨Nat.le_of_ble_eq_true rfl, Nat.le_of_ble_eq_true rfl⟩ rfl rfl (q0 := 0) rfl rfl [0, 1, 2, 3, 4, 5, 6, 7, 8, 9, 10, 11, 12, 13, 14, 15, 16, 17, 18, 19, 20, 21, 22, 23, 24, 25, 26, 27, 28, 29, 30, 31, 32, 33] rfl rfl rfl rfl rfl hl.1 rfl (Nat.le_of_ble_eq_true rfl) ⟨Nat.le_refl 0, Nat.le_refl 0⟩ rfl dX9_says_113 (fun H locs hH => ?_)
        refine lv_aload_n hx hb dX9_says_116 rfl (lv_at hl 0 rfl) ?_
        refine lv_aload_n hx hb dX9_says_117 rfl (lv_at hl 0 rfl) ?_
        refine f_get X hH 0 rfl rfl 38 (by decide) inX9 fX9_92 rfl dX9_says_118 ?_
        obtain ⟨o18, ho18, h⟩ := bd_x h
        refine r_V X hH (ws1 := (wX9 g a i o18)) (As := [.ref (a (i + 26))]) (rest := []) (st1 := []) (uX9_saysAll_26 (a := a) (i := i) ho18) kX9_saysAll mX9_350 iX9_saysAll vX9_saysAll zX9 okX9_saysAll ⟨Nat.le_of_ble_eq_true rfl, Nat.le_of_ble_eq_true rfl⟩ rfl rfl (q0 := 0) rfl rfl [0, 1, 2, 3, 4, 5, 6, 7, 8, 9, 10, 11, 12, 13, 14, 15, 16, 17, 18, 19, 20, 21, 22, 23, 24, 25, 26, 27, 28, 29, 30, 31, 32, 33] rfl rfl rfl rfl rfl hl.1 rfl (Nat.le_of_ble_eq_true rfl) ⟨Nat.le_refl 0, Nat.le_refl 0⟩ rfl dX9_says_121 (fun H locs hH => ?_)
        refine lv_goto (tgt := 135) hx hb dX9_says_124 (by decide) ?_
        exact pX9_says_135 X  o18 H locs ls h hH (lv_sub hl [0, 1, 2, 3] rfl)
    · have h := it_x h c2
      exact pX9_says_16 X  xs H locs ls h hH (lv_sub hl [0, 1, 2, 3] rfl)
