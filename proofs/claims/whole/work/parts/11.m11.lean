def qX9_columnOf_2 (xs : SX9) (pa : Int32)  : Nat → Int32 → Option Int32
  | 0, _ => none
  | fu + 1, l2 =>
  ga 6 l2 fun j1 =>
  (if ((m_inner xs) j1) = pa then
  some l2
  else
  ltt (l2 + (1 : Int32)) fun v1 =>
  qX9_columnOf_2 xs pa  fu v1)
def fX9_columnOf (xs : SX9) (pa : Int32) : Option Int32 :=
  qX9_columnOf_2 xs pa FU (0 : Int32)
set_option maxHeartbeats 4000000 in
set_option maxRecDepth 100000 in
theorem pX9_columnOf_2 {p : Program} {l : Launch} {e : Env} {s : State} {m : MethodId} {args : Array Value} {below : List Frame} {meth : Method} {c : Code} {g : GG} {w0 : va_W} {a : Nat → Nat} {i : Nat} {xs : SX9} {pa : Int32} {o : Int32} (X : mX g yX9_columnOf cX9_columnOf 3 (some .int) p s m args meth c w0) :
  ∀ (fu : Nat) (l2 : Int32) (H : Heap) (locs : List Loc) (ls : Array Slot), qX9_columnOf_2 xs pa fu l2 = some o → mH g s w0 (wX9 g a i xs) H locs → lv_has ls 3 [(0, .ref (a i)), (1, .int pa), (2, .int l2)] → W p l e (rM 0 0) s m args below meth c H locs 0 0 (mZ g below args s w0 (wX9 g a i xs) (some (.int o))) (F0 m 2 ls []) := by
  have hx := X.1
  have hb := X.2.1
  intro fu
  induction fu with
  | zero =>
    intro l2 H locs ls h
    unfold qX9_columnOf_2 at h
    cases h
  | succ fu ih =>
    intro l2 H locs ls h hH hl
    unfold qX9_columnOf_2 at h
    refine lv_aload_n hx hb dX9_columnOf_2 rfl (lv_at hl 0 rfl) ?_
    refine f_get X hH 0 rfl rfl 21 (by decide) inX9 fX9_57 rfl dX9_columnOf_3 ?_
    refine lv_iload_n hx hb dX9_columnOf_6 rfl (lv_at hl 2 rfl) ?_
    obtain ⟨j1, ej1, hinj1, h⟩ := ga_x h
    refine a_il X hH 15 rfl hinj1 ej1 dX9_columnOf_7 ?_
    refine lv_iload_n hx hb dX9_columnOf_8 rfl (lv_at hl 1 rfl) ?_
    refine lv_icmp_eq (tgt := 18) hx hb dX9_columnOf_9 (by decide) (fun c1 => ?_) (fun c1 => ?_)
    · have h := it_x h c1
      refine lv_iload_n hx hb dX9_columnOf_18 rfl (lv_at hl 2 rfl) ?_
      cases h
      exact e_i X hH dX9_columnOf_19
    · have h := ie_x h c1
      obtain ⟨v1, ev1, h⟩ := ltt_x h
      refine s_inc X (k := 2) (lv' := [(2, .int v1), (0, .ref (a i)), (1, .int pa)]) hl rfl (by rw [ev1]; rfl) dX9_columnOf_12 (by decide) rfl (fun ls hl => ?_)
      refine lv_goto (tgt := 2) hx hb dX9_columnOf_15 (by decide) ?_
      exact ih v1 H locs ls h hH (lv_sub hl [1, 2, 0] rfl)
set_option maxHeartbeats 4000000 in
set_option maxRecDepth 100000 in
theorem uX9_columnOf {l : Launch} {g : GG} {a : Nat → Nat} {i : Nat} {xs : SX9} {pa : Int32} {o : Int32} (h : fX9_columnOf xs pa = some o) : mC l g yX9_columnOf cX9_columnOf 3 (some .int) (rM 0 0) [.ref (a i), .int pa] (wX9 g a i xs) (wX9 g a i xs) (some (.int o)) := by
  refine mC.ofW (by decide) (fun p e s m below meth c X hH ls _ hl => ?_) (Nat.le_of_ble_eq_true rfl)
  have hx := X.1
  have hb := X.2.1
  have hl : lv_has ls 3 [(0, .ref (a i)), (1, .int pa)] := hl
  unfold fX9_columnOf at h
  suffices HH : ∀ (H : Heap) (locs : List Loc), mH g s (wX9 g a i xs) (wX9 g a i xs) H locs → W p l e (rM 0 0) s m _ below meth c H locs 0 0 (mZ g below _ s (wX9 g a i xs) (wX9 g a i xs) (some (.int o))) (F0 m 0 ls []) from HH _ _ hH
  clear hH
  intro H locs hH
  refine lv_iconst (v := (0 : Int32)) hx hb dX9_columnOf_0 (by decide) ?_
  refine s_in X (lv' := [(2, .int (0 : Int32)), (0, .ref (a i)), (1, .int pa)]) hl rfl dX9_columnOf_1 rfl (by decide) rfl (fun ls hl => ?_)
  exact pX9_columnOf_2 X FU (0 : Int32) H locs ls h hH (lv_sub hl [1, 2, 0] rfl)

def qX9_det_119 (pa : Int32) (k122 : SX9 → Int32 → Int32 → Int64 → Int32 → Option (Int64 × SX9)) (xs : SX9) (l2 : Int32) (l3 : Int32) (l6 : Int32) (t0 : Int64) (t1 : Int64) : Option (Int64 × SX9) :=
  ltt ((t0 + t1)) fun v4 =>
  k122 xs l2 l3 v4 l6
def qX9_det_80 (pa : Int32) (k122 : SX9 → Int32 → Int32 → Int64 → Int32 → Option (Int64 × SX9)) (xs : SX9) (l2 : Int32) (l3 : Int32) (l4 : Int64) (l6 : Int32) (t0 : Int64) : Option (Int64 × SX9) :=
  ga 64 (l2 &&& (((1 : Int32) <<< (l6 &&& 31)) ^^^ (-1 : Int32))) fun j5 =>
  ltt ((t0 * ((m_dets xs) j5))) fun v3 =>
  (fX9_bits (l2 >>> (l6 &&& 31))).bind fun o3 =>
  (if (o3 &&& (1 : Int32)) = (1 : Int32) then
  qX9_det_119 pa k122 xs l2 l3 l6 l4 v3
  else
  qX9_det_119 pa k122 xs l2 l3 l6 l4 (-v3))
def qX9_det_122 (pa : Int32) (k32 : SX9 → Int32 → Int32 → Int64 → Int32 → Option (Int64 × SX9)) (xs : SX9) (l2 : Int32) (l3 : Int32) (l4 : Int64) (l6 : Int32) : Option (Int64 × SX9) :=
  ltt (l6 + (1 : Int32)) fun v5 =>
  k32 xs l2 l3 l4 v5
def qX9_det_32 (pa : Int32) (k9 : SX9 → Int32 → Option (Int64 × SX9)) : Nat → SX9 → Int32 → Int32 → Int64 → Int32 → Option (Int64 × SX9)
  | 0, _, _, _, _, _ => none
  | fu + 1, xs, l2, l3, l4, l6 =>
  (if (m_innerMany xs) ≤ l6 then
  ga 64 l2 fun j3 =>
  ltt ((m_dets_s xs (vp_updL (m_dets xs) j3 l4))) fun xs2 =>
  ltt (l2 + (1 : Int32)) fun v2 =>
  k9 xs2 v2
  else
  (fX9_has l2 l6).bind fun o2 =>
  (if o2 = (0 : Int32) then
  qX9_det_122 pa (qX9_det_32 pa k9 fu) xs l2 l3 l4 l6
  else
  (if l6 = pa then
  ga 6 l3 fun j6 =>
  qX9_det_80 pa (qX9_det_122 pa (qX9_det_32 pa k9 fu)) xs l2 l3 l4 l6 ((m_right xs) j6)
  else
  ga 36 (((6 : Int32) * l3) + l6) fun j4 =>
  qX9_det_80 pa (qX9_det_122 pa (qX9_det_32 pa k9 fu)) xs l2 l3 l4 l6 ((m_matrix xs) j4))))
def qX9_det_9 (pa : Int32)  : Nat → SX9 → Int32 → Option (Int64 × SX9)
  | 0, _, _ => none
  | fu + 1, xs, l2 =>
  (if ((1 : Int32) <<< ((m_innerMany xs) &&& 31)) ≤ l2 then
  ga 64 (((1 : Int32) <<< ((m_innerMany xs) &&& 31)) - (1 : Int32)) fun j2 =>
  some (((m_dets xs) j2), xs)
  else
  (fX9_bits l2).bind fun o1 =>
  ltt ((o1 - (1 : Int32))) fun v1 =>
  qX9_det_32 pa (qX9_det_9 pa  fu) FU xs l2 v1 (0 : Int64) (0 : Int32))
def fX9_det (xs : SX9) (pa : Int32) : Option (Int64 × SX9) :=
  ga 64 (0 : Int32) fun j1 =>
  ltt ((m_dets_s xs (vp_updL (m_dets xs) j1 (1 : Int64)))) fun xs1 =>
  qX9_det_9 pa FU xs1 (1 : Int32)
set_option maxHeartbeats 4000000 in
set_option maxRecDepth 100000 in
theorem pX9_det_119 {p : Program} {l : Launch} {e : Env} {s : State} {m : MethodId} {args : Array Value} {below : List Frame} {meth : Method} {c : Code} {g : GG} {w0 : va_W} {a : Nat → Nat} {i : Nat} {pa : Int32} {o : (Int64 × SX9)} (X : mX g yX9_det cX9_det 9 (some .long) p s m args meth c w0)
  {k122 : SX9 → Int32 → Int32 → Int64 → Int32 → Option (Int64 × SX9)} (K122 : ∀ (xs : SX9) (l2 : Int32) (l3 : Int32) (l4 : Int64) (l6 : Int32) (H : Heap) (locs : List Loc) (ls : Array Slot), k122 xs l2 l3 l4 l6 = some o → mH g s w0 (wX9 g a i xs) H locs → lv_has ls 9 [(0, .ref (a i)), (1, .int pa), (2, .int l2), (3, .int l3), (4, .long l4), (6, .int l6)] → W p l e (rM 1 22) s m args below meth c H locs 0 0 (mZ g below args s w0 (wX9 g a i o.2) (some (.long o.1))) (F0 m 122 ls [])) :
  ∀ (xs : SX9) (l2 : Int32) (l3 : Int32) (l6 : Int32) (t0 : Int64) (t1 : Int64) (H : Heap) (locs : List Loc) (ls : Array Slot), qX9_det_119 pa k122 xs l2 l3 l6 t0 t1 = some o → mH g s w0 (wX9 g a i xs) H locs → lv_has ls 9 [(0, .ref (a i)), (1, .int pa), (2, .int l2), (3, .int l3), (6, .int l6)] → W p l e (rM 1 22) s m args below meth c H locs 0 0 (mZ g below args s w0 (wX9 g a i o.2) (some (.long o.1))) (F0 m 119 ls [.long t1, .long t0]) := by
  have hx := X.1
  have hb := X.2.1
  intro xs l2 l3 l6 t0 t1 H locs ls h hH hl
  unfold qX9_det_119 at h
  refine lv_ladd hx hb dX9_det_119 ?_
  obtain ⟨v4, ev4, h⟩ := ltt_x h
  refine s_l X (lv' := [(4, .long v4), (0, .ref (a i)), (1, .int pa), (2, .int l2), (3, .int l3), (6, .int l6)]) hl ev4 dX9_det_120 (by decide) rfl (fun ls hl => ?_)
  exact K122 xs l2 l3 v4 l6 H locs ls h hH (lv_sub hl [1, 2, 3, 4, 0, 5] rfl)
set_option maxHeartbeats 4000000 in
set_option maxRecDepth 100000 in
theorem pX9_det_80 {p : Program} {l : Launch} {e : Env} {s : State} {m : MethodId} {args : Array Value} {below : List Frame} {meth : Method} {c : Code} {g : GG} {w0 : va_W} {a : Nat → Nat} {i : Nat} {pa : Int32} {o : (Int64 × SX9)} (X : mX g yX9_det cX9_det 9 (some .long) p s m args meth c w0)
  {k122 : SX9 → Int32 → Int32 → Int64 → Int32 → Option (Int64 × SX9)} (K122 : ∀ (xs : SX9) (l2 : Int32) (l3 : Int32) (l4 : Int64) (l6 : Int32) (H : Heap) (locs : List Loc) (ls : Array Slot), k122 xs l2 l3 l4 l6 = some o → mH g s w0 (wX9 g a i xs) H locs → lv_has ls 9 [(0, .ref (a i)), (1, .int pa), (2, .int l2), (3, .int l3), (4, .long l4), (6, .int l6)] → W p l e (rM 1 22) s m args below meth c H locs 0 0 (mZ g below args s w0 (wX9 g a i o.2) (some (.long o.1))) (F0 m 122 ls [])) :
  ∀ (xs : SX9) (l2 : Int32) (l3 : Int32) (l4 : Int64) (l6 : Int32) (t0 : Int64) (H : Heap) (locs : List Loc) (ls : Array Slot), qX9_det_80 pa k122 xs l2 l3 l4 l6 t0 = some o → mH g s w0 (wX9 g a i xs) H locs → lv_has ls 9 [(0, .ref (a i)), (1, .int pa), (2, .int l2), (3, .int l3), (4, .long l4), (6, .int l6)] → W p l e (rM 1 22) s m args below meth c H locs 0 0 (mZ g below args s w0 (wX9 g a i o.2) (some (.long o.1))) (F0 m 80 ls [.long t0]) := by
  have hx := X.1
  have hb := X.2.1
  intro xs l2 l3 l4 l6 t0 H locs ls h hH hl
  unfold qX9_det_80 at h
  refine lv_aload_n hx hb dX9_det_80 rfl (lv_at hl 0 rfl) ?_
  refine f_get X hH 0 rfl rfl 25 (by decide) inX9 fX9_67 rfl dX9_det_81 ?_
  refine lv_iload_n hx hb dX9_det_84 rfl (lv_at hl 2 rfl) ?_
  refine lv_iconst (v := (1 : Int32)) hx hb dX9_det_85 (by decide) ?_
  refine lv_iload hx hb dX9_det_86 (lv_at hl 5 rfl) ?_
  refine lv_ishl hx hb dX9_det_88 ?_
  refine lv_iconst (v := (-1 : Int32)) hx hb dX9_det_89 (by decide) ?_
  refine lv_ixor hx hb dX9_det_90 ?_
  refine lv_iand hx hb dX9_det_91 ?_
  obtain ⟨j5, ej5, hinj5, h⟩ := ga_x h
  refine a_ll X hH 18 rfl hinj5 ej5 dX9_det_92 ?_
  refine lv_lmul hx hb dX9_det_93 ?_
  obtain ⟨v3, ev3, h⟩ := ltt_x h
  refine s_l X (lv' := [(7, .long v3), (0, .ref (a i)), (1, .int pa), (2, .int l2), (3, .int l3), (4, .long l4), (6, .int l6)]) hl ev3 dX9_det_94 (by decide) rfl (fun ls hl => ?_)
  refine lv_lload hx hb dX9_det_96 (lv_at hl 5 rfl) ?_
  refine lv_iload_n hx hb dX9_det_98 rfl (lv_at hl 3 rfl) ?_
  refine lv_iload hx hb dX9_det_99 (lv_at hl 6 rfl) ?_
  refine lv_ishr hx hb dX9_det_101 ?_
  obtain ⟨o3, ho3, h⟩ := bd_x h
  refine r_S X hH (ws1 := (wX9 g a i xs)) (As := [.int (l2 >>> (l6 &&& 31))]) (rest := [.long l4]) (st1 := [.int o3, .long l4]) (uX9_bits  ho3) kX9_bits mX9_245 sX9_bits zX9 okX9_bits ⟨Nat.le_of_ble_eq_true rfl, Nat.le_of_ble_eq_true rfl⟩ rfl rfl [] rfl rfl rfl (putl_self _ _ rfl) rfl hl.1 rfl (Nat.le_of_ble_eq_true rfl) ⟨Nat.le_refl 0, Nat.le_refl 0⟩ rfl dX9_det_102 (fun H locs hH => ?_)
  refine lv_iconst (v := (1 : Int32)) hx hb dX9_det_105 (by decide) ?_
  refine lv_iand hx hb dX9_det_106 ?_
  refine lv_iconst (v := (1 : Int32)) hx hb dX9_det_107 (by decide) ?_
  refine lv_icmp_ne (tgt := 116) hx hb dX9_det_108 (by decide) (fun c5 => ?_) (fun c5 => ?_)
  · have h := ie_x h c5
    refine lv_lload hx hb dX9_det_116 (lv_at hl 0 rfl) ?_
    refine lv_lneg hx hb dX9_det_118 ?_
    exact pX9_det_119 X K122 xs l2 l3 l6 l4 (-v3) H locs ls h hH (lv_sub hl [1, 2, 3, 4, 6] rfl)
  · have h := it_x h c5
    refine lv_lload hx hb dX9_det_111 (lv_at hl 0 rfl) ?_
    refine lv_goto (tgt := 119) hx hb dX9_det_113 (by decide) ?_
    exact pX9_det_119 X K122 xs l2 l3 l6 l4 v3 H locs ls h hH (lv_sub hl [1, 2, 3, 4, 6] rfl)
set_option maxHeartbeats 4000000 in
set_option maxRecDepth 100000 in
theorem pX9_det_122 {p : Program} {l : Launch} {e : Env} {s : State} {m : MethodId} {args : Array Value} {below : List Frame} {meth : Method} {c : Code} {g : GG} {w0 : va_W} {a : Nat → Nat} {i : Nat} {pa : Int32} {o : (Int64 × SX9)} (X : mX g yX9_det cX9_det 9 (some .long) p s m args meth c w0)
  {k32 : SX9 → Int32 → Int32 → Int64 → Int32 → Option (Int64 × SX9)} (K32 : ∀ (xs : SX9) (l2 : Int32) (l3 : Int32) (l4 : Int64) (l6 : Int32) (H : Heap) (locs : List Loc) (ls : Array Slot), k32 xs l2 l3 l4 l6 = some o → mH g s w0 (wX9 g a i xs) H locs → lv_has ls 9 [(0, .ref (a i)), (1, .int pa), (2, .int l2), (3, .int l3), (4, .long l4), (6, .int l6)] → W p l e (rM 1 22) s m args below meth c H locs 0 0 (mZ g below args s w0 (wX9 g a i o.2) (some (.long o.1))) (F0 m 32 ls [])) :
  ∀ (xs : SX9) (l2 : Int32) (l3 : Int32) (l4 : Int64) (l6 : Int32) (H : Heap) (locs : List Loc) (ls : Array Slot), qX9_det_122 pa k32 xs l2 l3 l4 l6 = some o → mH g s w0 (wX9 g a i xs) H locs → lv_has ls 9 [(0, .ref (a i)), (1, .int pa), (2, .int l2), (3, .int l3), (4, .long l4), (6, .int l6)] → W p l e (rM 1 22) s m args below meth c H locs 0 0 (mZ g below args s w0 (wX9 g a i o.2) (some (.long o.1))) (F0 m 122 ls []) := by
  have hx := X.1
  have hb := X.2.1
  intro xs l2 l3 l4 l6 H locs ls h hH hl
  unfold qX9_det_122 at h
  obtain ⟨v5, ev5, h⟩ := ltt_x h
  refine s_inc X (k := 5) (lv' := [(6, .int v5), (0, .ref (a i)), (1, .int pa), (2, .int l2), (3, .int l3), (4, .long l4)]) hl rfl (by rw [ev5]; rfl) dX9_det_122 (by decide) rfl (fun ls hl => ?_)
  refine lv_goto (tgt := 32) hx hb dX9_det_125 (by decide) ?_
  exact K32 xs l2 l3 l4 v5 H locs ls h hH (lv_sub hl [1, 2, 3, 4, 5, 0] rfl)
set_option maxHeartbeats 4000000 in
set_option maxRecDepth 100000 in
theorem pX9_det_32 {p : Program} {l : Launch} {e : Env} {s : State} {m : MethodId} {args : Array Value} {below : List Frame} {meth : Method} {c : Code} {g : GG} {w0 : va_W} {a : Nat → Nat} {i : Nat} {pa : Int32} {o : (Int64 × SX9)} (X : mX g yX9_det cX9_det 9 (some .long) p s m args meth c w0)
  {k9 : SX9 → Int32 → Option (Int64 × SX9)} (K9 : ∀ (xs : SX9) (l2 : Int32) (H : Heap) (locs : List Loc) (ls : Array Slot), k9 xs l2 = some o → mH g s w0 (wX9 g a i xs) H locs → lv_has ls 9 [(0, .ref (a i)), (1, .int pa), (2, .int l2)] → W p l e (rM 1 22) s m args below meth c H locs 0 0 (mZ g below args s w0 (wX9 g a i o.2) (some (.long o.1))) (F0 m 9 ls [])) :
  ∀ (fu : Nat) (xs : SX9) (l2 : Int32) (l3 : Int32) (l4 : Int64) (l6 : Int32) (H : Heap) (locs : List Loc) (ls : Array Slot), qX9_det_32 pa k9 fu xs l2 l3 l4 l6 = some o → mH g s w0 (wX9 g a i xs) H locs → lv_has ls 9 [(0, .ref (a i)), (1, .int pa), (2, .int l2), (3, .int l3), (4, .long l4), (6, .int l6)] → W p l e (rM 1 22) s m args below meth c H locs 0 0 (mZ g below args s w0 (wX9 g a i o.2) (some (.long o.1))) (F0 m 32 ls []) := by
  have hx := X.1
  have hb := X.2.1
  intro fu
  induction fu with
  | zero =>
    intro xs l2 l3 l4 l6 H locs ls h
    unfold qX9_det_32 at h
    cases h
  | succ fu ih =>
    intro xs l2 l3 l4 l6 H locs ls h hH hl
    unfold qX9_det_32 at h
    refine lv_iload hx hb dX9_det_32 (lv_at hl 5 rfl) ?_
    refine lv_aload_n hx hb dX9_det_34 rfl (lv_at hl 0 rfl) ?_
    refine f_get X hH 0 rfl rfl 22 (by decide) inX9 fX9_236 rfl dX9_det_35 ?_
    refine lv_icmp_ge (tgt := 128) hx hb dX9_det_38 (by decide) (fun c2 => ?_) (fun c2 => ?_)
    · have h := it_x h c2
      refine lv_aload_n hx hb dX9_det_128 rfl (lv_at hl 0 rfl) ?_
      refine f_get X hH 0 rfl rfl 25 (by decide) inX9 fX9_67 rfl dX9_det_129 ?_
      refine lv_iload_n hx hb dX9_det_132 rfl (lv_at hl 2 rfl) ?_
      refine lv_lload hx hb dX9_det_133 (lv_at hl 4 rfl) ?_
      obtain ⟨j3, ej3, hinj3, h⟩ := ga_x h
      obtain ⟨xs2, exs2, h⟩ := ltt_x h
      refine a_ls X hH (ws1 := (wX9 g a i xs2)) 18 rfl hinj3 ej3 (by rw [exs2]; rfl) dX9_det_135 (fun H locs hH => ?_)
      obtain ⟨v2, ev2, h⟩ := ltt_x h
      refine s_inc X (k := 2) (lv' := [(2, .int v2), (0, .ref (a i)), (1, .int pa), (3, .int l3), (4, .long l4), (6, .int l6)]) hl rfl (by rw [ev2]; rfl) dX9_det_136 (by decide) rfl (fun ls hl => ?_)
      refine lv_goto (tgt := 9) hx hb dX9_det_139 (by decide) ?_
      exact K9 xs2 v2 H locs ls h hH (lv_sub hl [1, 2, 0] rfl)
    · have h := ie_x h c2
      refine lv_iload_n hx hb dX9_det_41 rfl (lv_at hl 2 rfl) ?_
      refine lv_iload hx hb dX9_det_42 (lv_at hl 5 rfl) ?_
      obtain ⟨o2, ho2, h⟩ := bd_x h
      refine r_S X hH (ws1 := (wX9 g a i xs)) (As := [.int l2, .int l6]) (rest := []) (st1 := [.int o2]) (uX9_has  ho2) kX9_has mX9_226 sX9_has zX9 okX9_has ⟨Nat.le_of_ble_eq_true rfl, Nat.le_of_ble_eq_true rfl⟩ rfl rfl [] rfl rfl rfl (putl_self _ _ rfl) rfl hl.1 rfl (Nat.le_of_ble_eq_true rfl) ⟨Nat.le_refl 0, Nat.le_refl 0⟩ rfl dX9_det_44 (fun H locs hH => ?_)
      refine lv_if_ne (tgt := 53) hx hb dX9_det_47 (by decide) (fun c3 => ?_) (fun c3 => ?_)
      · have h := ie_x h c3
        refine lv_iload hx hb dX9_det_53 (lv_at hl 5 rfl) ?_
        refine lv_iload_n hx hb dX9_det_55 rfl (lv_at hl 1 rfl) ?_
        refine lv_icmp_ne (tgt := 68) hx hb dX9_det_56 (by decide) (fun c4 => ?_) (fun c4 => ?_)
        · have h := ie_x h c4
          refine lv_aload_n hx hb dX9_det_68 rfl (lv_at hl 0 rfl) ?_
          refine f_get X hH 0 rfl rfl 23 (by decide) inX9 fX9_60 rfl dX9_det_69 ?_
          refine lv_bipush (v := (6 : Int32)) hx hb dX9_det_72 (by decide) ?_
          refine lv_iload_n hx hb dX9_det_74 rfl (lv_at hl 3 rfl) ?_
          refine lv_imul hx hb dX9_det_75 ?_
          refine lv_iload hx hb dX9_det_76 (lv_at hl 5 rfl) ?_
          refine lv_iadd hx hb dX9_det_78 ?_
          obtain ⟨j4, ej4, hinj4, h⟩ := ga_x h
          refine a_ll X hH 16 rfl hinj4 ej4 dX9_det_79 ?_
          exact pX9_det_80 X (pX9_det_122 X ih) xs l2 l3 l4 l6 ((m_matrix xs) j4) H locs ls h hH (lv_sub hl [0, 1, 2, 3, 4, 5] rfl)
        · have h := it_x h c4
          refine lv_aload_n hx hb dX9_det_59 rfl (lv_at hl 0 rfl) ?_
          refine f_get X hH 0 rfl rfl 24 (by decide) inX9 fX9_64 rfl dX9_det_60 ?_
          refine lv_iload_n hx hb dX9_det_63 rfl (lv_at hl 3 rfl) ?_
          obtain ⟨j6, ej6, hinj6, h⟩ := ga_x h
          refine a_ll X hH 17 rfl hinj6 ej6 dX9_det_64 ?_
          refine lv_goto (tgt := 80) hx hb dX9_det_65 (by decide) ?_
          exact pX9_det_80 X (pX9_det_122 X ih) xs l2 l3 l4 l6 ((m_right xs) j6) H locs ls h hH (lv_sub hl [0, 1, 2, 3, 4, 5] rfl)
      · have h := it_x h c3
        refine lv_goto (tgt := 122) hx hb dX9_det_50 (by decide) ?_
        exact pX9_det_122 X ih xs l2 l3 l4 l6 H locs ls h hH (lv_sub hl [0, 1, 2, 3, 4, 5] rfl)
set_option maxHeartbeats 4000000 in
set_option maxRecDepth 100000 in
theorem pX9_det_9 {p : Program} {l : Launch} {e : Env} {s : State} {m : MethodId} {args : Array Value} {below : List Frame} {meth : Method} {c : Code} {g : GG} {w0 : va_W} {a : Nat → Nat} {i : Nat} {pa : Int32} {o : (Int64 × SX9)} (X : mX g yX9_det cX9_det 9 (some .long) p s m args meth c w0) :
  ∀ (fu : Nat) (xs : SX9) (l2 : Int32) (H : Heap) (locs : List Loc) (ls : Array Slot), qX9_det_9 pa fu xs l2 = some o → mH g s w0 (wX9 g a i xs) H locs → lv_has ls 9 [(0, .ref (a i)), (1, .int pa), (2, .int l2)] → W p l e (rM 1 22) s m args below meth c H locs 0 0 (mZ g below args s w0 (wX9 g a i o.2) (some (.long o.1))) (F0 m 9 ls []) := by
  have hx := X.1
  have hb := X.2.1
  intro fu
  induction fu with
  | zero =>
    intro xs l2 H locs ls h
    unfold qX9_det_9 at h
    cases h
  | succ fu ih =>
    intro xs l2 H locs ls h hH hl
    unfold qX9_det_9 at h
    refine lv_iload_n hx hb dX9_det_9 rfl (lv_at hl 2 rfl) ?_
    refine lv_iconst (v := (1 : Int32)) hx hb dX9_det_10 (by decide) ?_
    refine lv_aload_n hx hb dX9_det_11 rfl (lv_at hl 0 rfl) ?_
    refine f_get X hH 0 rfl rfl 22 (by decide) inX9 fX9_236 rfl dX9_det_12 ?_
    refine lv_ishl hx hb dX9_det_15 ?_
    refine lv_icmp_ge (tgt := 142) hx hb dX9_det_16 (by decide) (fun c1 => ?_) (fun c1 => ?_)
    · have h := it_x h c1
      refine lv_aload_n hx hb dX9_det_142 rfl (lv_at hl 0 rfl) ?_
      refine f_get X hH 0 rfl rfl 25 (by decide) inX9 fX9_67 rfl dX9_det_143 ?_
      refine lv_iconst (v := (1 : Int32)) hx hb dX9_det_146 (by decide) ?_
      refine lv_aload_n hx hb dX9_det_147 rfl (lv_at hl 0 rfl) ?_
      refine f_get X hH 0 rfl rfl 22 (by decide) inX9 fX9_236 rfl dX9_det_148 ?_
      refine lv_ishl hx hb dX9_det_151 ?_
      refine lv_iconst (v := (1 : Int32)) hx hb dX9_det_152 (by decide) ?_
      refine lv_isub hx hb dX9_det_153 ?_
      obtain ⟨j2, ej2, hinj2, h⟩ := ga_x h
      refine a_ll X hH 18 rfl hinj2 ej2 dX9_det_154 ?_
      cases h
      exact e_l X hH dX9_det_155
    · have h := ie_x h c1
      refine lv_iload_n hx hb dX9_det_19 rfl (lv_at hl 2 rfl) ?_
      obtain ⟨o1, ho1, h⟩ := bd_x h
      refine r_S X hH (ws1 := (wX9 g a i xs)) (As := [.int l2]) (rest := []) (st1 := [.int o1]) (uX9_bits  ho1) kX9_bits mX9_245 sX9_bits zX9 okX9_bits ⟨Nat.le_of_ble_eq_true rfl, Nat.le_of_ble_eq_true rfl⟩ rfl rfl [] rfl rfl rfl (putl_self _ _ rfl) rfl hl.1 rfl (Nat.le_of_ble_eq_true rfl) ⟨Nat.le_refl 0, Nat.le_refl 0⟩ rfl dX9_det_20 (fun H locs hH => ?_)
      refine lv_iconst (v := (1 : Int32)) hx hb dX9_det_23 (by decide) ?_
      refine lv_isub hx hb dX9_det_24 ?_
      obtain ⟨v1, ev1, h⟩ := ltt_x h
      refine s_in X (lv' := [(3, .int v1), (0, .ref (a i)), (1, .int pa), (2, .int l2)]) hl ev1 dX9_det_25 rfl (by decide) rfl (fun ls hl => ?_)
      refine lv_lconst (v := (0 : Int64)) hx hb dX9_det_26 (by decide) ?_
      refine s_l X (lv' := [(4, .long (0 : Int64)), (3, .int v1), (0, .ref (a i)), (1, .int pa), (2, .int l2)]) hl rfl dX9_det_27 (by decide) rfl (fun ls hl => ?_)
      refine lv_iconst (v := (0 : Int32)) hx hb dX9_det_29 (by decide) ?_
      refine s_i X (lv' := [(6, .int (0 : Int32)), (4, .long (0 : Int64)), (3, .int v1), (0, .ref (a i)), (1, .int pa), (2, .int l2)]) hl rfl dX9_det_30 (by decide) rfl (fun ls hl => ?_)
      exact pX9_det_32 X ih FU xs l2 v1 (0 : Int64) (0 : Int32) H locs ls h hH (lv_sub hl [3, 4, 5, 2, 1, 0] rfl)
set_option maxHeartbeats 4000000 in
set_option maxRecDepth 100000 in
theorem uX9_det {l : Launch} {g : GG} {a : Nat → Nat} {i : Nat} {xs : SX9} {pa : Int32} {o : (Int64 × SX9)} (h : fX9_det xs pa = some o) : mC l g yX9_det cX9_det 9 (some .long) (rM 1 22) [.ref (a i), .int pa] (wX9 g a i xs) (wX9 g a i o.2) (some (.long o.1)) := by
  refine mC.ofW (by decide) (fun p e s m below meth c X hH ls _ hl => ?_) (Nat.le_of_ble_eq_true rfl)
  have hx := X.1
  have hb := X.2.1
  have hl : lv_has ls 9 [(0, .ref (a i)), (1, .int pa)] := hl
  unfold fX9_det at h
  suffices HH : ∀ (H : Heap) (locs : List Loc), mH g s (wX9 g a i xs) (wX9 g a i xs) H locs → W p l e (rM 1 22) s m _ below meth c H locs 0 0 (mZ g below _ s (wX9 g a i xs) (wX9 g a i o.2) (some (.long o.1))) (F0 m 0 ls []) from HH _ _ hH
  clear hH
  intro H locs hH
  refine lv_aload_n hx hb dX9_det_0 rfl (lv_at hl 0 rfl) ?_
  refine f_get X hH 0 rfl rfl 25 (by decide) inX9 fX9_67 rfl dX9_det_1 ?_
  refine lv_iconst (v := (0 : Int32)) hx hb dX9_det_4 (by decide) ?_
  refine lv_lconst (v := (1 : Int64)) hx hb dX9_det_5 (by decide) ?_
  obtain ⟨j1, ej1, hinj1, h⟩ := ga_x h
  obtain ⟨xs1, exs1, h⟩ := ltt_x h
  refine a_ls X hH (ws1 := (wX9 g a i xs1)) 18 rfl hinj1 ej1 (by rw [exs1]; rfl) dX9_det_6 (fun H locs hH => ?_)
  refine lv_iconst (v := (1 : Int32)) hx hb dX9_det_7 (by decide) ?_
  refine s_in X (lv' := [(2, .int (1 : Int32)), (0, .ref (a i)), (1, .int pa)]) hl rfl dX9_det_8 rfl (by decide) rfl (fun ls hl => ?_)
  exact pX9_det_9 X FU xs1 (1 : Int32) H locs ls h hH (lv_sub hl [1, 2, 0] rfl)

def qX9_findTime_121 (pa : Int32) (pb : Int32) (pc_ : Int32) (k122 : SX9 → Int32 → Int32 → Int32 → Option (Int32 × SX9)) (xs : SX9) (l5 : Int32) (l6 : Int32) : Option (Int32 × SX9) :=
  k122 xs l5 l6 (0 : Int32)
def qX9_findTime_169 (pa : Int32) (pb : Int32) (pc_ : Int32) (k62 : SX9 → Int32 → Int32 → Option (Int32 × SX9)) (xs : SX9) (l5 : Int32) (l6 : Int32) (t1 : Int32) (t2 : Int64) (t3 : Int64) : Option (Int32 × SX9) :=
  ga 6 t1 fun j2 =>
  ltt ((m_right_s xs (vp_updL (m_right xs) j2 (t2 + t3)))) fun xs5 =>
  ltt (l6 + (1 : Int32)) fun v2 =>
  k62 xs5 l5 v2
def qX9_findTime_122 (pa : Int32) (pb : Int32) (pc_ : Int32) (k62 : SX9 → Int32 → Int32 → Option (Int32 × SX9)) (xs : SX9) (l5 : Int32) (l6 : Int32) (t0 : Int32) : Option (Int32 × SX9) :=
  ga 6 l5 fun j1 =>
  (if t0 = (0 : Int32) then
  qX9_findTime_169 pa pb pc_ k62 xs l5 l6 l5 ((m_right xs) j1) (0 : Int64)
  else
  (if pc_ = (0 : Int32) then
  (fX9_weight xs l6).bind fun o8 =>
  (fX9_minutes xs l6).bind fun o9 =>
  qX9_findTime_169 pa pb pc_ k62 xs l5 l6 l5 ((m_right xs) j1) ((o8 * o9).toInt64)
  else
  (fX9_weight xs l6).bind fun o10 =>
  qX9_findTime_169 pa pb pc_ k62 xs l5 l6 l5 ((m_right xs) j1) (o10.toInt64)))
def qX9_findTime_117 (pa : Int32) (pb : Int32) (pc_ : Int32) (k122 : SX9 → Int32 → Int32 → Int32 → Option (Int32 × SX9)) (xs : SX9) (l5 : Int32) (l6 : Int32) : Option (Int32 × SX9) :=
  k122 xs l5 l6 (1 : Int32)
def qX9_findTime_62 (pa : Int32) (pb : Int32) (pc_ : Int32) (k50 : SX9 → Int32 → Option (Int32 × SX9)) : Nat → SX9 → Int32 → Int32 → Option (Int32 × SX9)
  | 0, _, _, _ => none
  | fu + 1, xs, l5, l6 =>
  (if (m_all xs) ≤ l6 then
  ltt (l5 + (1 : Int32)) fun v1 =>
  k50 xs v1
  else
  (fX9_has (m_there xs) l6).bind fun o7 =>
  (if o7 = (0 : Int32) then
  qX9_findTime_121 pa pb pc_ (qX9_findTime_122 pa pb pc_ (qX9_findTime_62 pa pb pc_ k50 fu)) xs l5 l6
  else
  ga 11 l6 fun j3 =>
  ga 6 l5 fun j4 =>
  (if ((m_first xs) j3) = ((m_inner xs) j4) then
  qX9_findTime_117 pa pb pc_ (qX9_findTime_122 pa pb pc_ (qX9_findTime_62 pa pb pc_ k50 fu)) xs l5 l6
  else
  ga 11 l6 fun j5 =>
  ga 6 l5 fun j6 =>
  (if ((m_second xs) j5) = ((m_inner xs) j6) then
  qX9_findTime_117 pa pb pc_ (qX9_findTime_122 pa pb pc_ (qX9_findTime_62 pa pb pc_ k50 fu)) xs l5 l6
  else
  qX9_findTime_121 pa pb pc_ (qX9_findTime_122 pa pb pc_ (qX9_findTime_62 pa pb pc_ k50 fu)) xs l5 l6))))
def qX9_findTime_50 (pa : Int32) (pb : Int32) (pc_ : Int32)  : Nat → SX9 → Int32 → Option (Int32 × SX9)
  | 0, _, _ => none
  | fu + 1, xs, l5 =>
  (if (m_innerMany xs) ≤ l5 then
  (fX9_det xs (-1 : Int32)).bind fun o4 =>
  ltt ((m_down_s o4.2 o4.1)) fun xs3 =>
  (fX9_columnOf xs3 pa).bind fun o5 =>
  (fX9_det xs3 o5).bind fun o6 =>
  ltt ((m_up_s o6.2 o6.1)) fun xs4 =>
  some ((1 : Int32), xs4)
  else
  qX9_findTime_62 pa pb pc_ (qX9_findTime_50 pa pb pc_  fu) FU xs l5 (0 : Int32))
def fX9_findTime (xs : SX9) (pa : Int32) (pb : Int32) (pc_ : Int32) : Option (Int32 × SX9) :=
  ltt ((m_up_s xs (0 : Int64))) fun xs1 =>
  ltt ((m_down_s xs1 (1 : Int64))) fun xs2 =>
  (if pa = pb then
  some ((1 : Int32), xs2)
  else
  (fX9_reach xs2 pb).bind fun o1 =>
  (fX9_has o1 pa).bind fun o2 =>
  (if o2 = (0 : Int32) then
  some ((0 : Int32), xs2)
  else
  (fX9_within xs2 (o1 &&& (((1 : Int32) <<< (pb &&& 31)) ^^^ (-1 : Int32)))).bind fun o3 =>
  qX9_findTime_50 pa pb pc_ FU o3 (0 : Int32)))
set_option maxHeartbeats 4000000 in
set_option maxRecDepth 100000 in
theorem pX9_findTime_121 {p : Program} {l : Launch} {e : Env} {s : State} {m : MethodId} {args : Array Value} {below : List Frame} {meth : Method} {c : Code} {g : GG} {w0 : va_W} {a : Nat → Nat} {i : Nat} {pa : Int32} {pb : Int32} {pc_ : Int32} {o : (Int32 × SX9)} (X : mX g yX9_findTime cX9_findTime 8 (some .boolean) p s m args meth c w0)
  {k122 : SX9 → Int32 → Int32 → Int32 → Option (Int32 × SX9)} (K122 : ∀ (xs : SX9) (l5 : Int32) (l6 : Int32) (t0 : Int32) (H : Heap) (locs : List Loc) (ls : Array Slot), k122 xs l5 l6 t0 = some o → mH g s w0 (wX9 g a i xs) H locs → lv_has ls 8 [(0, .ref (a i)), (1, .int pa), (2, .int pb), (3, .int pc_), (5, .int l5), (6, .int l6)] → W p l e (rM 4 90) s m args below meth c H locs 0 0 (mZ g below args s w0 (wX9 g a i o.2) (some (.int o.1))) (F0 m 122 ls [.int t0])) :
  ∀ (xs : SX9) (l5 : Int32) (l6 : Int32) (H : Heap) (locs : List Loc) (ls : Array Slot), qX9_findTime_121 pa pb pc_ k122 xs l5 l6 = some o → mH g s w0 (wX9 g a i xs) H locs → lv_has ls 8 [(0, .ref (a i)), (1, .int pa), (2, .int pb), (3, .int pc_), (5, .int l5), (6, .int l6)] → W p l e (rM 4 90) s m args below meth c H locs 0 0 (mZ g below args s w0 (wX9 g a i o.2) (some (.int o.1))) (F0 m 121 ls []) := by
  have hx := X.1
  have hb := X.2.1
  intro xs l5 l6 H locs ls h hH hl
  unfold qX9_findTime_121 at h
  refine lv_iconst (v := (0 : Int32)) hx hb dX9_findTime_121 (by decide) ?_
  exact K122 xs l5 l6 (0 : Int32) H locs ls h hH (lv_sub hl [0, 1, 2, 3, 4, 5] rfl)
set_option maxHeartbeats 4000000 in
set_option maxRecDepth 100000 in
theorem pX9_findTime_169 {p : Program} {l : Launch} {e : Env} {s : State} {m : MethodId} {args : Array Value} {below : List Frame} {meth : Method} {c : Code} {g : GG} {w0 : va_W} {a : Nat → Nat} {i : Nat} {pa : Int32} {pb : Int32} {pc_ : Int32} {o : (Int32 × SX9)} (X : mX g yX9_findTime cX9_findTime 8 (some .boolean) p s m args meth c w0)
  {k62 : SX9 → Int32 → Int32 → Option (Int32 × SX9)} (K62 : ∀ (xs : SX9) (l5 : Int32) (l6 : Int32) (H : Heap) (locs : List Loc) (ls : Array Slot), k62 xs l5 l6 = some o → mH g s w0 (wX9 g a i xs) H locs → lv_has ls 8 [(0, .ref (a i)), (1, .int pa), (2, .int pb), (3, .int pc_), (5, .int l5), (6, .int l6)] → W p l e (rM 4 90) s m args below meth c H locs 0 0 (mZ g below args s w0 (wX9 g a i o.2) (some (.int o.1))) (F0 m 62 ls [])) :
  ∀ (xs : SX9) (l5 : Int32) (l6 : Int32) (t1 : Int32) (t2 : Int64) (t3 : Int64) (H : Heap) (locs : List Loc) (ls : Array Slot), qX9_findTime_169 pa pb pc_ k62 xs l5 l6 t1 t2 t3 = some o → mH g s w0 (wX9 g a i xs) H locs → lv_has ls 8 [(0, .ref (a i)), (1, .int pa), (2, .int pb), (3, .int pc_), (5, .int l5), (6, .int l6)] → W p l e (rM 4 90) s m args below meth c H locs 0 0 (mZ g below args s w0 (wX9 g a i o.2) (some (.int o.1))) (F0 m 169 ls [.long t3, .long t2, .int t1, .ref (a (i + 17))]) := by
  have hx := X.1
  have hb := X.2.1
  intro xs l5 l6 t1 t2 t3 H locs ls h hH hl
  unfold qX9_findTime_169 at h
  refine lv_ladd hx hb dX9_findTime_169 ?_
  obtain ⟨j2, ej2, hinj2, h⟩ := ga_x h
  obtain ⟨xs5, exs5, h⟩ := ltt_x h
  refine a_ls X hH (ws1 := (wX9 g a i xs5)) 17 rfl hinj2 ej2 (by rw [exs5]; rfl) dX9_findTime_170 (fun H locs hH => ?_)
  obtain ⟨v2, ev2, h⟩ := ltt_x h
  refine s_inc X (k := 5) (lv' := [(6, .int v2), (0, .ref (a i)), (1, .int pa), (2, .int pb), (3, .int pc_), (5, .int l5)]) hl rfl (by rw [ev2]; rfl) dX9_findTime_171 (by decide) rfl (fun ls hl => ?_)
  refine lv_goto (tgt := 62) hx hb dX9_findTime_174 (by decide) ?_
  exact K62 xs5 l5 v2 H locs ls h hH (lv_sub hl [1, 2, 3, 4, 5, 0] rfl)
set_option maxHeartbeats 4000000 in
set_option maxRecDepth 100000 in
theorem pX9_findTime_122 {p : Program} {l : Launch} {e : Env} {s : State} {m : MethodId} {args : Array Value} {below : List Frame} {meth : Method} {c : Code} {g : GG} {w0 : va_W} {a : Nat → Nat} {i : Nat} {pa : Int32} {pb : Int32} {pc_ : Int32} {o : (Int32 × SX9)} (X : mX g yX9_findTime cX9_findTime 8 (some .boolean) p s m args meth c w0)
  {k62 : SX9 → Int32 → Int32 → Option (Int32 × SX9)} (K62 : ∀ (xs : SX9) (l5 : Int32) (l6 : Int32) (H : Heap) (locs : List Loc) (ls : Array Slot), k62 xs l5 l6 = some o → mH g s w0 (wX9 g a i xs) H locs → lv_has ls 8 [(0, .ref (a i)), (1, .int pa), (2, .int pb), (3, .int pc_), (5, .int l5), (6, .int l6)] → W p l e (rM 4 90) s m args below meth c H locs 0 0 (mZ g below args s w0 (wX9 g a i o.2) (some (.int o.1))) (F0 m 62 ls [])) :
  ∀ (xs : SX9) (l5 : Int32) (l6 : Int32) (t0 : Int32) (H : Heap) (locs : List Loc) (ls : Array Slot), qX9_findTime_122 pa pb pc_ k62 xs l5 l6 t0 = some o → mH g s w0 (wX9 g a i xs) H locs → lv_has ls 8 [(0, .ref (a i)), (1, .int pa), (2, .int pb), (3, .int pc_), (5, .int l5), (6, .int l6)] → W p l e (rM 4 90) s m args below meth c H locs 0 0 (mZ g below args s w0 (wX9 g a i o.2) (some (.int o.1))) (F0 m 122 ls [.int t0]) := by
  have hx := X.1
  have hb := X.2.1
  intro xs l5 l6 t0 H locs ls h hH hl
  unfold qX9_findTime_122 at h
  refine s_i X (lv' := [(7, .int t0), (0, .ref (a i)), (1, .int pa), (2, .int pb), (3, .int pc_), (5, .int l5), (6, .int l6)]) hl rfl dX9_findTime_122 (by decide) rfl (fun ls hl => ?_)
  refine lv_aload_n hx hb dX9_findTime_124 rfl (lv_at hl 1 rfl) ?_
  refine f_get X hH 0 rfl rfl 24 (by decide) inX9 fX9_64 rfl dX9_findTime_125 ?_
  refine lv_iload hx hb dX9_findTime_128 (lv_at hl 5 rfl) ?_
  refine lv_dup2_11 hx hb dX9_findTime_130 rfl rfl ?_
  obtain ⟨j1, ej1, hinj1, h⟩ := ga_x h
  refine a_ll X hH 17 rfl hinj1 ej1 dX9_findTime_131 ?_
  refine lv_iload hx hb dX9_findTime_132 (lv_at hl 0 rfl) ?_
  refine lv_if_ne (tgt := 141) hx hb dX9_findTime_134 (by decide) (fun c6 => ?_) (fun c6 => ?_)
  · have h := ie_x h c6
    refine lv_iload_n hx hb dX9_findTime_141 rfl (lv_at hl 4 rfl) ?_
    refine lv_if_eq (tgt := 155) hx hb dX9_findTime_142 (by decide) (fun c7 => ?_) (fun c7 => ?_)
    · have h := it_x h c7
      refine lv_aload_n hx hb dX9_findTime_155 rfl (lv_at hl 1 rfl) ?_
      refine lv_iload hx hb dX9_findTime_156 (lv_at hl 6 rfl) ?_
      obtain ⟨o8, ho8, h⟩ := bd_x h
      refine r_V X hH (ws1 := (wX9 g a i xs)) (As := [.int l6]) (rest := [.long ((m_right xs) j1), .int l5, .ref (a (i + 17))]) (st1 := [.int o8, .long ((m_right xs) j1), .int l5, .ref (a (i + 17))]) (uX9_weight (a := a) (i := i) ho8) kX9_weight mX9_171 iX9_weight vX9_weight zX9 okX9_weight ⟨Nat.le_of_ble_eq_true rfl, Nat.le_of_ble_eq_true rfl⟩ rfl rfl (q0 := 0) rfl rfl [0, 1, 2, 3, 4, 5, 6, 7, 8, 9, 10, 11, 12, 13, 14, 15, 16, 17, 18, 19, 20, 21, 22, 23, 24, 25, 26, 27, 28, 29, 30, 31, 32, 33] rfl rfl rfl (putl_self _ _ rfl) rfl hl.1 rfl (Nat.le_of_ble_eq_true rfl) ⟨Nat.le_refl 0, Nat.le_refl 0⟩ rfl dX9_findTime_158 (fun H locs hH => ?_)
      refine lv_aload_n hx hb dX9_findTime_161 rfl (lv_at hl 1 rfl) ?_
      refine lv_iload hx hb dX9_findTime_162 (lv_at hl 6 rfl) ?_
      obtain ⟨o9, ho9, h⟩ := bd_x h
      refine r_V X hH (ws1 := (wX9 g a i xs)) (As := [.int l6]) (rest := [.int o8, .long ((m_right xs) j1), .int l5, .ref (a (i + 17))]) (st1 := [.int o9, .int o8, .long ((m_right xs) j1), .int l5, .ref (a (i + 17))]) (uX9_minutes (a := a) (i := i) ho9) kX9_minutes mX9_174 iX9_minutes vX9_minutes zX9 okX9_minutes ⟨Nat.le_of_ble_eq_true rfl, Nat.le_of_ble_eq_true rfl⟩ rfl rfl (q0 := 0) rfl rfl [0, 1, 2, 3, 4, 5, 6, 7, 8, 9, 10, 11, 12, 13, 14, 15, 16, 17, 18, 19, 20, 21, 22, 23, 24, 25, 26, 27, 28, 29, 30, 31, 32, 33] rfl rfl rfl (putl_self _ _ rfl) rfl hl.1 rfl (Nat.le_of_ble_eq_true rfl) ⟨Nat.le_refl 0, Nat.le_refl 0⟩ rfl dX9_findTime_164 (fun H locs hH => ?_)
      refine lv_imul hx hb dX9_findTime_167 ?_
      refine lv_i2l hx hb dX9_findTime_168 rfl ?_
      exact pX9_findTime_169 X K62 xs l5 l6 l5 ((m_right xs) j1) ((o8 * o9).toInt64) H locs ls h hH (lv_sub hl [1, 2, 3, 4, 5, 6] rfl)
    · have h := ie_x h c7
      refine lv_aload_n hx hb dX9_findTime_145 rfl (lv_at hl 1 rfl) ?_
      refine lv_iload hx hb dX9_findTime_146 (lv_at hl 6 rfl) ?_
      obtain ⟨o10, ho10, h⟩ := bd_x h
      refine r_V X hH (ws1 := (wX9 g a i xs)) (As := [.int l6]) (rest := [.long ((m_right xs) j1), .int l5, .ref (a (i + 17))]) (st1 := [.int o10, .long ((m_right xs) j1), .int l5, .ref (a (i + 17))]) (uX9_weight (a := a) (i := i) ho10) kX9_weight mX9_171 iX9_weight vX9_weight zX9 okX9_weight ⟨Nat.le_of_ble_eq_true rfl, Nat.le_of_ble_eq_true rfl⟩ rfl rfl (q0 := 0) rfl rfl [0, 1, 2, 3, 4, 5, 6, 7, 8, 9, 10, 11, 12, 13, 14, 15, 16, 17, 18, 19, 20, 21, 22, 23, 24, 25, 26, 27, 28, 29, 30, 31, 32, 33] rfl rfl rfl (putl_self _ _ rfl) rfl hl.1 rfl (Nat.le_of_ble_eq_true rfl) ⟨Nat.le_refl 0, Nat.le_refl 0⟩ rfl dX9_findTime_148 (fun H locs hH => ?_)
      refine lv_i2l hx hb dX9_findTime_151 rfl ?_
      refine lv_goto (tgt := 169) hx hb dX9_findTime_152 (by decide) ?_
      exact pX9_findTime_169 X K62 xs l5 l6 l5 ((m_right xs) j1) (o10.toInt64) H locs ls h hH (lv_sub hl [1, 2, 3, 4, 5, 6] rfl)
  · have h := it_x h c6
    refine lv_lconst (v := (0 : Int64)) hx hb dX9_findTime_137 (by decide) ?_
    refine lv_goto (tgt := 169) hx hb dX9_findTime_138 (by decide) ?_
    exact pX9_findTime_169 X K62 xs l5 l6 l5 ((m_right xs) j1) (0 : Int64) H locs ls h hH (lv_sub hl [1, 2, 3, 4, 5, 6] rfl)
set_option maxHeartbeats 4000000 in
set_option maxRecDepth 100000 in
theorem pX9_findTime_117 {p : Program} {l : Launch} {e : Env} {s : State} {m : MethodId} {args : Array Value} {below : List Frame} {meth : Method} {c : Code} {g : GG} {w0 : va_W} {a : Nat → Nat} {i : Nat} {pa : Int32} {pb : Int32} {pc_ : Int32} {o : (Int32 × SX9)} (X : mX g yX9_findTime cX9_findTime 8 (some .boolean) p s m args meth c w0)
  {k122 : SX9 → Int32 → Int32 → Int32 → Option (Int32 × SX9)} (K122 : ∀ (xs : SX9) (l5 : Int32) (l6 : Int32) (t0 : Int32) (H : Heap) (locs : List Loc) (ls : Array Slot), k122 xs l5 l6 t0 = some o → mH g s w0 (wX9 g a i xs) H locs → lv_has ls 8 [(0, .ref (a i)), (1, .int pa), (2, .int pb), (3, .int pc_), (5, .int l5), (6, .int l6)] → W p l e (rM 4 90) s m args below meth c H locs 0 0 (mZ g below args s w0 (wX9 g a i o.2) (some (.int o.1))) (F0 m 122 ls [.int t0])) :
  ∀ (xs : SX9) (l5 : Int32) (l6 : Int32) (H : Heap) (locs : List Loc) (ls : Array Slot), qX9_findTime_117 pa pb pc_ k122 xs l5 l6 = some o → mH g s w0 (wX9 g a i xs) H locs → lv_has ls 8 [(0, .ref (a i)), (1, .int pa), (2, .int pb), (3, .int pc_), (5, .int l5), (6, .int l6)] → W p l e (rM 4 90) s m args below meth c H locs 0 0 (mZ g below args s w0 (wX9 g a i o.2) (some (.int o.1))) (F0 m 117 ls []) := by
  have hx := X.1
  have hb := X.2.1
  intro xs l5 l6 H locs ls h hH hl
  unfold qX9_findTime_117 at h
  refine lv_iconst (v := (1 : Int32)) hx hb dX9_findTime_117 (by decide) ?_
  refine lv_goto (tgt := 122) hx hb dX9_findTime_118 (by decide) ?_
  exact K122 xs l5 l6 (1 : Int32) H locs ls h hH (lv_sub hl [0, 1, 2, 3, 4, 5] rfl)
set_option maxHeartbeats 4000000 in
set_option maxRecDepth 100000 in
theorem pX9_findTime_62 {p : Program} {l : Launch} {e : Env} {s : State} {m : MethodId} {args : Array Value} {below : List Frame} {meth : Method} {c : Code} {g : GG} {w0 : va_W} {a : Nat → Nat} {i : Nat} {pa : Int32} {pb : Int32} {pc_ : Int32} {o : (Int32 × SX9)} (X : mX g yX9_findTime cX9_findTime 8 (some .boolean) p s m args meth c w0)
  {k50 : SX9 → Int32 → Option (Int32 × SX9)} (K50 : ∀ (xs : SX9) (l5 : Int32) (H : Heap) (locs : List Loc) (ls : Array Slot), k50 xs l5 = some o → mH g s w0 (wX9 g a i xs) H locs → lv_has ls 8 [(0, .ref (a i)), (1, .int pa), (2, .int pb), (3, .int pc_), (5, .int l5)] → W p l e (rM 4 90) s m args below meth c H locs 0 0 (mZ g below args s w0 (wX9 g a i o.2) (some (.int o.1))) (F0 m 50 ls [])) :
  ∀ (fu : Nat) (xs : SX9) (l5 : Int32) (l6 : Int32) (H : Heap) (locs : List Loc) (ls : Array Slot), qX9_findTime_62 pa pb pc_ k50 fu xs l5 l6 = some o → mH g s w0 (wX9 g a i xs) H locs → lv_has ls 8 [(0, .ref (a i)), (1, .int pa), (2, .int pb), (3, .int pc_), (5, .int l5), (6, .int l6)] → W p l e (rM 4 90) s m args below meth c H locs 0 0 (mZ g below args s w0 (wX9 g a i o.2) (some (.int o.1))) (F0 m 62 ls []) := by
  have hx := X.1
  have hb := X.2.1
  intro fu
  induction fu with
  | zero =>
    intro xs l5 l6 H locs ls h
    unfold qX9_findTime_62 at h
    cases h
  | succ fu ih =>
    intro xs l5 l6 H locs ls h hH hl
    unfold qX9_findTime_62 at h
    refine lv_iload hx hb dX9_findTime_62 (lv_at hl 5 rfl) ?_
    refine lv_aload_n hx hb dX9_findTime_64 rfl (lv_at hl 0 rfl) ?_
    refine f_get X hH 0 rfl rfl 20 (by decide) inX9 fX9_220 rfl dX9_findTime_65 ?_
    refine lv_icmp_ge (tgt := 177) hx hb dX9_findTime_68 (by decide) (fun c4 => ?_) (fun c4 => ?_)
    · have h := it_x h c4
      obtain ⟨v1, ev1, h⟩ := ltt_x h
      refine s_inc X (k := 4) (lv' := [(5, .int v1), (0, .ref (a i)), (1, .int pa), (2, .int pb), (3, .int pc_), (6, .int l6)]) hl rfl (by rw [ev1]; rfl) dX9_findTime_177 (by decide) rfl (fun ls hl => ?_)
      refine lv_goto (tgt := 50) hx hb dX9_findTime_180 (by decide) ?_
      exact K50 xs v1 H locs ls h hH (lv_sub hl [1, 2, 3, 4, 0] rfl)
    · have h := ie_x h c4
      refine lv_aload_n hx hb dX9_findTime_71 rfl (lv_at hl 0 rfl) ?_
      refine f_get X hH 0 rfl rfl 19 (by decide) inX9 fX9_223 rfl dX9_findTime_72 ?_
      refine lv_iload hx hb dX9_findTime_75 (lv_at hl 5 rfl) ?_
      obtain ⟨o7, ho7, h⟩ := bd_x h
      refine r_S X hH (ws1 := (wX9 g a i xs)) (As := [.int (m_there xs), .int l6]) (rest := []) (st1 := [.int o7]) (uX9_has  ho7) kX9_has mX9_226 sX9_has zX9 okX9_has ⟨Nat.le_of_ble_eq_true rfl, Nat.le_of_ble_eq_true rfl⟩ rfl rfl [] rfl rfl rfl (putl_self _ _ rfl) rfl hl.1 rfl (Nat.le_of_ble_eq_true rfl) ⟨Nat.le_refl 0, Nat.le_refl 0⟩ rfl dX9_findTime_77 (fun H locs hH => ?_)
      refine lv_if_eq (tgt := 121) hx hb dX9_findTime_80 (by decide) (fun c5 => ?_) (fun c5 => ?_)
      · have h := it_x h c5
        exact pX9_findTime_121 X (pX9_findTime_122 X ih) xs l5 l6 H locs ls h hH (lv_sub hl [0, 1, 2, 3, 4, 5] rfl)
      · have h := ie_x h c5
        refine lv_aload_n hx hb dX9_findTime_83 rfl (lv_at hl 0 rfl) ?_
        refine f_get X hH 0 rfl rfl 2 (by decide) inX9 fX9_13 rfl dX9_findTime_84 ?_
        refine lv_iload hx hb dX9_findTime_87 (lv_at hl 5 rfl) ?_
        obtain ⟨j3, ej3, hinj3, h⟩ := ga_x h
        refine a_il X hH 1 rfl hinj3 ej3 dX9_findTime_89 ?_
        refine lv_aload_n hx hb dX9_findTime_90 rfl (lv_at hl 0 rfl) ?_
        refine f_get X hH 0 rfl rfl 21 (by decide) inX9 fX9_57 rfl dX9_findTime_91 ?_
        refine lv_iload hx hb dX9_findTime_94 (lv_at hl 4 rfl) ?_
        obtain ⟨j4, ej4, hinj4, h⟩ := ga_x h
        refine a_il X hH 15 rfl hinj4 ej4 dX9_findTime_96 ?_
        refine lv_icmp_eq (tgt := 117) hx hb dX9_findTime_97 (by decide) (fun c8 => ?_) (fun c8 => ?_)
        · have h := it_x h c8
          exact pX9_findTime_117 X (pX9_findTime_122 X ih) xs l5 l6 H locs ls h hH (lv_sub hl [0, 1, 2, 3, 4, 5] rfl)
        · have h := ie_x h c8
          refine lv_aload_n hx hb dX9_findTime_100 rfl (lv_at hl 0 rfl) ?_
          refine f_get X hH 0 rfl rfl 3 (by decide) inX9 fX9_17 rfl dX9_findTime_101 ?_
          refine lv_iload hx hb dX9_findTime_104 (lv_at hl 5 rfl) ?_
          obtain ⟨j5, ej5, hinj5, h⟩ := ga_x h
          refine a_il X hH 2 rfl hinj5 ej5 dX9_findTime_106 ?_
          refine lv_aload_n hx hb dX9_findTime_107 rfl (lv_at hl 0 rfl) ?_
          refine f_get X hH 0 rfl rfl 21 (by decide) inX9 fX9_57 rfl dX9_findTime_108 ?_
          refine lv_iload hx hb dX9_findTime_111 (lv_at hl 4 rfl) ?_
          obtain ⟨j6, ej6, hinj6, h⟩ := ga_x h
          refine a_il X hH 15 rfl hinj6 ej6 dX9_findTime_113 ?_
          refine lv_icmp_ne (tgt := 121) hx hb dX9_findTime_114 (by decide) (fun c9 => ?_) (fun c9 => ?_)
          · have h := ie_x h c9
            exact pX9_findTime_121 X (pX9_findTime_122 X ih) xs l5 l6 H locs ls h hH (lv_sub hl [0, 1, 2, 3, 4, 5] rfl)
          · have h := it_x h c9
            exact pX9_findTime_117 X (pX9_findTime_122 X ih) xs l5 l6 H locs ls h hH (lv_sub hl [0, 1, 2, 3, 4, 5] rfl)
set_option maxHeartbeats 4000000 in
set_option maxRecDepth 100000 in
theorem pX9_findTime_50 {p : Program} {l : Launch} {e : Env} {s : State} {m : MethodId} {args : Array Value} {below : List Frame} {meth : Method} {c : Code} {g : GG} {w0 : va_W} {a : Nat → Nat} {i : Nat} {pa : Int32} {pb : Int32} {pc_ : Int32} {o : (Int32 × SX9)} (X : mX g yX9_findTime cX9_findTime 8 (some .boolean) p s m args meth c w0) :
  ∀ (fu : Nat) (xs : SX9) (l5 : Int32) (H : Heap) (locs : List Loc) (ls : Array Slot), qX9_findTime_50 pa pb pc_ fu xs l5 = some o → mH g s w0 (wX9 g a i xs) H locs → lv_has ls 8 [(0, .ref (a i)), (1, .int pa), (2, .int pb), (3, .int pc_), (5, .int l5)] → W p l e (rM 4 90) s m args below meth c H locs 0 0 (mZ g below args s w0 (wX9 g a i o.2) (some (.int o.1))) (F0 m 50 ls []) := by
  have hx := X.1
  have hb := X.2.1
  intro fu
  induction fu with
  | zero =>
    intro xs l5 H locs ls h
    unfold qX9_findTime_50 at h
    cases h
  | succ fu ih =>
    intro xs l5 H locs ls h hH hl
    unfold qX9_findTime_50 at h
    refine lv_iload hx hb dX9_findTime_50 (lv_at hl 4 rfl) ?_
    refine lv_aload_n hx hb dX9_findTime_52 rfl (lv_at hl 0 rfl) ?_
    refine f_get X hH 0 rfl rfl 22 (by decide) inX9 fX9_236 rfl dX9_findTime_53 ?_
    refine lv_icmp_ge (tgt := 183) hx hb dX9_findTime_56 (by decide) (fun c3 => ?_) (fun c3 => ?_)
    · have h := it_x h c3
      refine lv_aload_n hx hb dX9_findTime_183 rfl (lv_at hl 0 rfl) ?_
      refine lv_aload_n hx hb dX9_findTime_184 rfl (lv_at hl 0 rfl) ?_
      refine lv_iconst (v := (-1 : Int32)) hx hb dX9_findTime_185 (by decide) ?_
      obtain ⟨o4, ho4, h⟩ := bd_x h
      refine r_V X hH (ws1 := (wX9 g a i o4.2)) (As := [.int (-1 : Int32)]) (rest := [.ref (a i)]) (st1 := [.long o4.1, .ref (a i)]) (uX9_det (a := a) (i := i) ho4) kX9_det mX9_258 iX9_det vX9_det zX9 okX9_det ⟨Nat.le_of_ble_eq_true rfl, Nat.le_of_ble_eq_true rfl⟩ rfl rfl (q0 := 0) rfl rfl [0, 1, 2, 3, 4, 5, 6, 7, 8, 9, 10, 11, 12, 13, 14, 15, 16, 17, 18, 19, 20, 21, 22, 23, 24, 25, 26, 27, 28, 29, 30, 31, 32, 33] rfl rfl rfl rfl rfl hl.1 rfl (Nat.le_of_ble_eq_true rfl) ⟨Nat.le_refl 0, Nat.le_refl 0⟩ rfl dX9_findTime_186 (fun H locs hH => ?_)
      obtain ⟨xs3, exs3, h⟩ := ltt_x h
      refine f_put X hH (ws1 := (wX9 g a i xs3)) 0 rfl rfl 27 (by decide) inX9 tyX9 tyX9_ok nmX9 fX9_252 rfl rfl rfl (Nat.le_of_ble_eq_true rfl) (by rw [exs3]; rfl) dX9_findTime_189 (fun H locs hH => ?_)
      refine lv_aload_n hx hb dX9_findTime_192 rfl (lv_at hl 0 rfl) ?_
      refine lv_aload_n hx hb dX9_findTime_193 rfl (lv_at hl 0 rfl) ?_
      refine lv_aload_n hx hb dX9_findTime_194 rfl (lv_at hl 0 rfl) ?_
      refine lv_iload_n hx hb dX9_findTime_195 rfl (lv_at hl 1 rfl) ?_
      obtain ⟨o5, ho5, h⟩ := bd_x h
      refine r_V X hH (ws1 := (wX9 g a i xs3)) (As := [.int pa]) (rest := [.ref (a i), .ref (a i)]) (st1 := [.int o5, .ref (a i), .ref (a i)]) (uX9_columnOf (a := a) (i := i) ho5) kX9_columnOf mX9_262 iX9_columnOf vX9_columnOf zX9 okX9_columnOf ⟨Nat.le_of_ble_eq_true rfl, Nat.le_of_ble_eq_true rfl⟩ rfl rfl (q0 := 0) rfl rfl [0, 1, 2, 3, 4, 5, 6, 7, 8, 9, 10, 11, 12, 13, 14, 15, 16, 17, 18, 19, 20, 21, 22, 23, 24, 25, 26, 27, 28, 29, 30, 31, 32, 33] rfl rfl rfl (putl_self _ _ rfl) rfl hl.1 rfl (Nat.le_of_ble_eq_true rfl) ⟨Nat.le_refl 0, Nat.le_refl 0⟩ rfl dX9_findTime_196 (fun H locs hH => ?_)
      obtain ⟨o6, ho6, h⟩ := bd_x h
      refine r_V X hH (ws1 := (wX9 g a i o6.2)) (As := [.int o5]) (rest := [.ref (a i)]) (st1 := [.long o6.1, .ref (a i)]) (uX9_det (a := a) (i := i) ho6) kX9_det mX9_258 iX9_det vX9_det zX9 okX9_det ⟨Nat.le_of_ble_eq_true rfl, Nat.le_of_ble_eq_true rfl⟩ rfl rfl (q0 := 0) rfl rfl [0, 1, 2, 3, 4, 5, 6, 7, 8, 9, 10, 11, 12, 13, 14, 15, 16, 17, 18, 19, 20, 21, 22, 23, 24, 25, 26, 27, 28, 29, 30, 31, 32, 33] rfl rfl rfl rfl rfl hl.1 rfl (Nat.le_of_ble_eq_true rfl) ⟨Nat.le_refl 0, Nat.le_refl 0⟩ rfl dX9_findTime_199 (fun H locs hH => ?_)
      obtain ⟨xs4, exs4, h⟩ := ltt_x h
      refine f_put X hH (ws1 := (wX9 g a i xs4)) 0 rfl rfl 26 (by decide) inX9 tyX9 tyX9_ok nmX9 fX9_248 rfl rfl rfl (Nat.le_of_ble_eq_true rfl) (by rw [exs4]; rfl) dX9_findTime_202 (fun H locs hH => ?_)
      refine lv_iconst (v := (1 : Int32)) hx hb dX9_findTime_205 (by decide) ?_
      cases h
      exact e_z X hH (by decide) dX9_findTime_206
    · have h := ie_x h c3
      refine lv_iconst (v := (0 : Int32)) hx hb dX9_findTime_59 (by decide) ?_
      refine s_i X (lv' := [(6, .int (0 : Int32)), (0, .ref (a i)), (1, .int pa), (2, .int pb), (3, .int pc_), (5, .int l5)]) hl rfl dX9_findTime_60 (by decide) rfl (fun ls hl => ?_)
      exact pX9_findTime_62 X ih FU xs l5 (0 : Int32) H locs ls h hH (lv_sub hl [1, 2, 3, 4, 5, 0] rfl)
set_option maxHeartbeats 4000000 in
set_option maxRecDepth 100000 in
theorem uX9_findTime {l : Launch} {g : GG} {a : Nat → Nat} {i : Nat} {xs : SX9} {pa : Int32} {pb : Int32} {pc_ : Int32} {o : (Int32 × SX9)} (h : fX9_findTime xs pa pb pc_ = some o) : mC l g yX9_findTime cX9_findTime 8 (some .boolean) (rM 4 90) [.ref (a i), .int pa, .int pb, .int pc_] (wX9 g a i xs) (wX9 g a i o.2) (some (.int o.1)) := by
  refine mC.ofW (by decide) (fun p e s m below meth c X hH ls _ hl => ?_) (Nat.le_of_ble_eq_true rfl)
  have hx := X.1
  have hb := X.2.1
  have hl : lv_has ls 8 [(0, .ref (a i)), (1, .int pa), (2, .int pb), (3, .int pc_)] := hl
  unfold fX9_findTime at h
  suffices HH : ∀ (H : Heap) (locs : List Loc), mH g s (wX9 g a i xs) (wX9 g a i xs) H locs → W p l e (rM 4 90) s m _ below meth c H locs 0 0 (mZ g below _ s (wX9 g a i xs) (wX9 g a i o.2) (some (.int o.1))) (F0 m 0 ls []) from HH _ _ hH
  clear hH
  intro H locs hH
  refine lv_aload_n hx hb dX9_findTime_0 rfl (lv_at hl 0 rfl) ?_
  refine lv_lconst (v := (0 : Int64)) hx hb dX9_findTime_1 (by decide) ?_
  obtain ⟨xs1, exs1, h⟩ := ltt_x h
  refine f_put X hH (ws1 := (wX9 g a i xs1)) 0 rfl rfl 26 (by decide) inX9 tyX9 tyX9_ok nmX9 fX9_248 rfl rfl rfl (Nat.le_of_ble_eq_true rfl) (by rw [exs1]; rfl) dX9_findTime_2 (fun H locs hH => ?_)
  refine lv_aload_n hx hb dX9_findTime_5 rfl (lv_at hl 0 rfl) ?_
  refine lv_lconst (v := (1 : Int64)) hx hb dX9_findTime_6 (by decide) ?_
  obtain ⟨xs2, exs2, h⟩ := ltt_x h
  refine f_put X hH (ws1 := (wX9 g a i xs2)) 0 rfl rfl 27 (by decide) inX9 tyX9 tyX9_ok nmX9 fX9_252 rfl rfl rfl (Nat.le_of_ble_eq_true rfl) (by rw [exs2]; rfl) dX9_findTime_7 (fun H locs hH => ?_)
  refine lv_iload_n hx hb dX9_findTime_10 rfl (lv_at hl 1 rfl) ?_
  refine lv_iload_n hx hb dX9_findTime_11 rfl (lv_at hl 2 rfl) ?_
  refine lv_icmp_ne (tgt := 17) hx hb dX9_findTime_12 (by decide) (fun c1 => ?_) (fun c1 => ?_)
  · have h := ie_x h c1
    refine lv_aload_n hx hb dX9_findTime_17 rfl (lv_at hl 0 rfl) ?_
    refine lv_iload_n hx hb dX9_findTime_18 rfl (lv_at hl 2 rfl) ?_
    obtain ⟨o1, ho1, h⟩ := bd_x h
    refine r_V X hH (ws1 := (wX9 g a i xs2)) (As := [.int pb]) (rest := []) (st1 := [.int o1]) (uX9_reach (a := a) (i := i) ho1) kX9_reach mX9_233 iX9_reach vX9_reach zX9 okX9_reach ⟨Nat.le_of_ble_eq_true rfl, Nat.le_of_ble_eq_true rfl⟩ rfl rfl (q0 := 0) rfl rfl [0, 1, 2, 3, 4, 5, 6, 7, 8, 9, 10, 11, 12, 13, 14, 15, 16, 17, 18, 19, 20, 21, 22, 23, 24, 25, 26, 27, 28, 29, 30, 31, 32, 33] rfl rfl rfl (putl_self _ _ rfl) rfl hl.1 rfl (Nat.le_of_ble_eq_true rfl) ⟨Nat.le_refl 0, Nat.le_refl 0⟩ rfl dX9_findTime_19 (fun H locs hH => ?_)
    refine s_i X (lv' := [(4, .int o1), (0, .ref (a i)), (1, .int pa), (2, .int pb), (3, .int pc_)]) hl rfl dX9_findTime_22 (by decide) rfl (fun ls hl => ?_)
    refine lv_iload hx hb dX9_findTime_24 (lv_at hl 0 rfl) ?_
    refine lv_iload_n hx hb dX9_findTime_26 rfl (lv_at hl 2 rfl) ?_
    obtain ⟨o2, ho2, h⟩ := bd_x h
    refine r_S X hH (ws1 := (wX9 g a i xs2)) (As := [.int o1, .int pa]) (rest := []) (st1 := [.int o2]) (uX9_has  ho2) kX9_has mX9_226 sX9_has zX9 okX9_has ⟨Nat.le_of_ble_eq_true rfl, Nat.le_of_ble_eq_true rfl⟩ rfl rfl [] rfl rfl rfl (putl_self _ _ rfl) rfl hl.1 rfl (Nat.le_of_ble_eq_true rfl) ⟨Nat.le_refl 0, Nat.le_refl 0⟩ rfl dX9_findTime_27 (fun H locs hH => ?_)
    refine lv_if_ne (tgt := 35) hx hb dX9_findTime_30 (by decide) (fun c2 => ?_) (fun c2 => ?_)
    · have h := ie_x h c2
      refine lv_aload_n hx hb dX9_findTime_35 rfl (lv_at hl 1 rfl) ?_
      refine lv_iload hx hb dX9_findTime_36 (lv_at hl 0 rfl) ?_
      refine lv_iconst (v := (1 : Int32)) hx hb dX9_findTime_38 (by decide) ?_
      refine lv_iload_n hx hb dX9_findTime_39 rfl (lv_at hl 3 rfl) ?_
      refine lv_ishl hx hb dX9_findTime_40 ?_
      refine lv_iconst (v := (-1 : Int32)) hx hb dX9_findTime_41 (by decide) ?_
      refine lv_ixor hx hb dX9_findTime_42 ?_
      refine lv_iand hx hb dX9_findTime_43 ?_
      obtain ⟨o3, ho3, h⟩ := bd_x h
      refine r_V X hH (ws1 := (wX9 g a i o3)) (As := [.int (o1 &&& (((1 : Int32) <<< (pb &&& 31)) ^^^ (-1 : Int32)))]) (rest := []) (st1 := []) (uX9_within (a := a) (i := i) ho3) kX9_within mX9_255 iX9_within vX9_within zX9 okX9_within ⟨Nat.le_of_ble_eq_true rfl, Nat.le_of_ble_eq_true rfl⟩ rfl rfl (q0 := 0) rfl rfl [0, 1, 2, 3, 4, 5, 6, 7, 8, 9, 10, 11, 12, 13, 14, 15, 16, 17, 18, 19, 20, 21, 22, 23, 24, 25, 26, 27, 28, 29, 30, 31, 32, 33] rfl rfl rfl rfl rfl hl.1 rfl (Nat.le_of_ble_eq_true rfl) ⟨Nat.le_refl 0, Nat.le_refl 0⟩ rfl dX9_findTime_44 (fun H locs hH => ?_)
      refine lv_iconst (v := (0 : Int32)) hx hb dX9_findTime_47 (by decide) ?_
      refine s_i X (lv' := [(5, .int (0 : Int32)), (4, .int o1), (0, .ref (a i)), (1, .int pa), (2, .int pb), (3, .int pc_)]) hl rfl dX9_findTime_48 (by decide) rfl (fun ls hl => ?_)
      exact pX9_findTime_50 X FU o3 (0 : Int32) H locs ls h hH (lv_sub hl [2, 3, 4, 5, 0] rfl)
    · have h := it_x h c2
      refine lv_iconst (v := (0 : Int32)) hx hb dX9_findTime_33 (by decide) ?_
      cases h
      exact e_z X hH (by decide) dX9_findTime_34
  · have h := it_x h c1
    refine lv_iconst (v := (1 : Int32)) hx hb dX9_findTime_15 (by decide) ?_
    cases h
    exact e_z X hH (by decide) dX9_findTime_16

def fX9_share (xs : SX9) (pa : Int32) (pb : Int32) (pc_ : Int32) : Option (Int64 × SX9) :=
  (fX9_reach xs pb).bind fun o1 =>
  (if pc_ = pb then
  some ((0 : Int64), xs)
  else
  (fX9_has o1 pc_).bind fun o2 =>
  (if o2 = (0 : Int32) then
  some ((0 : Int64), xs)
  else
  (if pa = pb then
  some ((0 : Int64), xs)
  else
  (fX9_within xs (o1 &&& (((1 : Int32) <<< (pb &&& 31)) ^^^ (-1 : Int32)))).bind fun o3 =>
  (fX9_columnOf o3 pc_).bind fun o4 =>
  ga 6 o4 fun j1 =>
  ltt ((m_right_s o3 (vp_updL (m_right o3) j1 (1 : Int64)))) fun xs1 =>
  (fX9_columnOf xs1 pa).bind fun o5 =>
  (fX9_det xs1 o5).bind fun o6 =>
  some (o6.1, o6.2))))
set_option maxHeartbeats 4000000 in
set_option maxRecDepth 100000 in
theorem uX9_share {l : Launch} {g : GG} {a : Nat → Nat} {i : Nat} {xs : SX9} {pa : Int32} {pb : Int32} {pc_ : Int32} {o : (Int64 × SX9)} (h : fX9_share xs pa pb pc_ = some o) : mC l g yX9_share cX9_share 5 (some .long) (rM 4 90) [.ref (a i), .int pa, .int pb, .int pc_] (wX9 g a i xs) (wX9 g a i o.2) (some (.long o.1)) := by
  refine mC.ofW (by decide) (fun p e s m below meth c X hH ls _ hl => ?_) (Nat.le_of_ble_eq_true rfl)
  have hx := X.1
  have hb := X.2.1
  have hl : lv_has ls 5 [(0, .ref (a i)), (1, .int pa), (2, .int pb), (3, .int pc_)] := hl
  unfold fX9_share at h
  suffices HH : ∀ (H : Heap) (locs : List Loc), mH g s (wX9 g a i xs) (wX9 g a i xs) H locs → W p l e (rM 4 90) s m _ below meth c H locs 0 0 (mZ g below _ s (wX9 g a i xs) (wX9 g a i o.2) (some (.long o.1))) (F0 m 0 ls []) from HH _ _ hH
  clear hH
  intro H locs hH
  refine lv_aload_n hx hb dX9_share_0 rfl (lv_at hl 0 rfl) ?_
  refine lv_iload_n hx hb dX9_share_1 rfl (lv_at hl 2 rfl) ?_
  obtain ⟨o1, ho1, h⟩ := bd_x h
  refine r_V X hH (ws1 := (wX9 g a i xs)) (As := [.int pb]) (rest := []) (st1 := [.int o1]) (uX9_reach (a := a) (i := i) ho1) kX9_reach mX9_233 iX9_reach vX9_reach zX9 okX9_reach ⟨Nat.le_of_ble_eq_true rfl, Nat.le_of_ble_eq_true rfl⟩ rfl rfl (q0 := 0) rfl rfl [0, 1, 2, 3, 4, 5, 6, 7, 8, 9, 10, 11, 12, 13, 14, 15, 16, 17, 18, 19, 20, 21, 22, 23, 24, 25, 26, 27, 28, 29, 30, 31, 32, 33] rfl rfl rfl (putl_self _ _ rfl) rfl hl.1 rfl (Nat.le_of_ble_eq_true rfl) ⟨Nat.le_refl 0, Nat.le_refl 0⟩ rfl dX9_share_2 (fun H locs hH => ?_)
  refine s_i X (lv' := [(4, .int o1), (0, .ref (a i)), (1, .int pa), (2, .int pb), (3, .int pc_)]) hl rfl dX9_share_5 (by decide) rfl (fun ls hl => ?_)
  refine lv_iload_n hx hb dX9_share_7 rfl (lv_at hl 4 rfl) ?_
  refine lv_iload_n hx hb dX9_share_8 rfl (lv_at hl 3 rfl) ?_
  refine lv_icmp_eq (tgt := 26) hx hb dX9_share_9 (by decide) (fun c1 => ?_) (fun c1 => ?_)
  · have h := it_x h c1
    refine lv_lconst (v := (0 : Int64)) hx hb dX9_share_26 (by decide) ?_
    cases h
    exact e_l X hH dX9_share_27
  · have h := ie_x h c1
    refine lv_iload hx hb dX9_share_12 (lv_at hl 0 rfl) ?_
    refine lv_iload_n hx hb dX9_share_14 rfl (lv_at hl 4 rfl) ?_
    obtain ⟨o2, ho2, h⟩ := bd_x h
    refine r_S X hH (ws1 := (wX9 g a i xs)) (As := [.int o1, .int pc_]) (rest := []) (st1 := [.int o2]) (uX9_has  ho2) kX9_has mX9_226 sX9_has zX9 okX9_has ⟨Nat.le_of_ble_eq_true rfl, Nat.le_of_ble_eq_true rfl⟩ rfl rfl [] rfl rfl rfl (putl_self _ _ rfl) rfl hl.1 rfl (Nat.le_of_ble_eq_true rfl) ⟨Nat.le_refl 0, Nat.le_refl 0⟩ rfl dX9_share_15 (fun H locs hH => ?_)
    refine lv_if_eq (tgt := 26) hx hb dX9_share_18 (by decide) (fun c2 => ?_) (fun c2 => ?_)
    · have h := it_x h c2
      refine lv_lconst (v := (0 : Int64)) hx hb dX9_share_26 (by decide) ?_
      cases h
      exact e_l X hH dX9_share_27
    · have h := ie_x h c2
      refine lv_iload_n hx hb dX9_share_21 rfl (lv_at hl 2 rfl) ?_
      refine lv_iload_n hx hb dX9_share_22 rfl (lv_at hl 3 rfl) ?_
      refine lv_icmp_ne (tgt := 28) hx hb dX9_share_23 (by decide) (fun c3 => ?_) (fun c3 => ?_)
      · have h := ie_x h c3
        refine lv_aload_n hx hb dX9_share_28 rfl (lv_at hl 1 rfl) ?_
        refine lv_iload hx hb dX9_share_29 (lv_at hl 0 rfl) ?_
        refine lv_iconst (v := (1 : Int32)) hx hb dX9_share_31 (by decide) ?_
        refine lv_iload_n hx hb dX9_share_32 rfl (lv_at hl 3 rfl) ?_
        refine lv_ishl hx hb dX9_share_33 ?_
        refine lv_iconst (v := (-1 : Int32)) hx hb dX9_share_34 (by decide) ?_
        refine lv_ixor hx hb dX9_share_35 ?_
        refine lv_iand hx hb dX9_share_36 ?_
        obtain ⟨o3, ho3, h⟩ := bd_x h
        refine r_V X hH (ws1 := (wX9 g a i o3)) (As := [.int (o1 &&& (((1 : Int32) <<< (pb &&& 31)) ^^^ (-1 : Int32)))]) (rest := []) (st1 := []) (uX9_within (a := a) (i := i) ho3) kX9_within mX9_255 iX9_within vX9_within zX9 okX9_within ⟨Nat.le_of_ble_eq_true rfl, Nat.le_of_ble_eq_true rfl⟩ rfl rfl (q0 := 0) rfl rfl [0, 1, 2, 3, 4, 5, 6, 7, 8, 9, 10, 11, 12, 13, 14, 15, 16, 17, 18, 19, 20, 21, 22, 23, 24, 25, 26, 27, 28, 29, 30, 31, 32, 33] rfl rfl rfl rfl rfl hl.1 rfl (Nat.le_of_ble_eq_true rfl) ⟨Nat.le_refl 0, Nat.le_refl 0⟩ rfl dX9_share_37 (fun H locs hH => ?_)
        refine lv_aload_n hx hb dX9_share_40 rfl (lv_at hl 1 rfl) ?_
        refine f_get X hH 0 rfl rfl 24 (by decide) inX9 fX9_64 rfl dX9_share_41 ?_
        refine lv_aload_n hx hb dX9_share_44 rfl (lv_at hl 1 rfl) ?_
        refine lv_iload_n hx hb dX9_share_45 rfl (lv_at hl 4 rfl) ?_
        obtain ⟨o4, ho4, h⟩ := bd_x h
        refine r_V X hH (ws1 := (wX9 g a i o3)) (As := [.int pc_]) (rest := [.ref (a (i + 17))]) (st1 := [.int o4, .ref (a (i + 17))]) (uX9_columnOf (a := a) (i := i) ho4) kX9_columnOf mX9_262 iX9_columnOf vX9_columnOf zX9 okX9_columnOf ⟨Nat.le_of_ble_eq_true rfl, Nat.le_of_ble_eq_true rfl⟩ rfl rfl (q0 := 0) rfl rfl [0, 1, 2, 3, 4, 5, 6, 7, 8, 9, 10, 11, 12, 13, 14, 15, 16, 17, 18, 19, 20, 21, 22, 23, 24, 25, 26, 27, 28, 29, 30, 31, 32, 33] rfl rfl rfl (putl_self _ _ rfl) rfl hl.1 rfl (Nat.le_of_ble_eq_true rfl) ⟨Nat.le_refl 0, Nat.le_refl 0⟩ rfl dX9_share_46 (fun H locs hH => ?_)
        refine lv_lconst (v := (1 : Int64)) hx hb dX9_share_49 (by decide) ?_
        obtain ⟨j1, ej1, hinj1, h⟩ := ga_x h
        obtain ⟨xs1, exs1, h⟩ := ltt_x h
        refine a_ls X hH (ws1 := (wX9 g a i xs1)) 17 rfl hinj1 ej1 (by rw [exs1]; rfl) dX9_share_50 (fun H locs hH => ?_)
        refine lv_aload_n hx hb dX9_share_51 rfl (lv_at hl 1 rfl) ?_
        refine lv_aload_n hx hb dX9_share_52 rfl (lv_at hl 1 rfl) ?_
        refine lv_iload_n hx hb dX9_share_53 rfl (lv_at hl 2 rfl) ?_
        obtain ⟨o5, ho5, h⟩ := bd_x h
        refine r_V X hH (ws1 := (wX9 g a i xs1)) (As := [.int pa]) (rest := [.ref (a i)]) (st1 := [.int o5, .ref (a i)]) (uX9_columnOf (a := a) (i := i) ho5) kX9_columnOf mX9_262 iX9_columnOf vX9_columnOf zX9 okX9_columnOf ⟨Nat.le_of_ble_eq_true rfl, Nat.le_of_ble_eq_true rfl⟩ rfl rfl (q0 := 0) rfl rfl [0, 1, 2, 3, 4, 5, 6, 7, 8, 9, 10, 11, 12, 13, 14, 15, 16, 17, 18, 19, 20, 21, 22, 23, 24, 25, 26, 27, 28, 29, 30, 31, 32, 33] rfl rfl rfl (putl_self _ _ rfl) rfl hl.1 rfl (Nat.le_of_ble_eq_true rfl) ⟨Nat.le_refl 0, Nat.le_refl 0⟩ rfl dX9_share_54 (fun H locs hH => ?_)
        obtain ⟨o6, ho6, h⟩ := bd_x h
        refine r_V X hH (ws1 := (wX9 g a i o6.2)) (As := [.int o5]) (rest := []) (st1 := [.long o6.1]) (uX9_det (a := a) (i := i) ho6) kX9_det mX9_258 iX9_det vX9_det zX9 okX9_det ⟨Nat.le_of_ble_eq_true rfl, Nat.le_of_ble_eq_true rfl⟩ rfl rfl (q0 := 0) rfl rfl [0, 1, 2, 3, 4, 5, 6, 7, 8, 9, 10, 11, 12, 13, 14, 15, 16, 17, 18, 19, 20, 21, 22, 23, 24, 25, 26, 27, 28, 29, 30, 31, 32, 33] rfl rfl rfl rfl rfl hl.1 rfl (Nat.le_of_ble_eq_true rfl) ⟨Nat.le_refl 0, Nat.le_refl 0⟩ rfl dX9_share_57 (fun H locs hH => ?_)
        cases h
        exact e_l X hH dX9_share_60
      · have h := it_x h c3
        refine lv_lconst (v := (0 : Int64)) hx hb dX9_share_26 (by decide) ?_
        cases h
        exact e_l X hH dX9_share_27

def fX9_findDown (xs : SX9) (pa : Int32) : Option SX9 :=
  (fX9_reach xs pa).bind fun o1 =>
  (fX9_within xs (o1 &&& (((1 : Int32) <<< (pa &&& 31)) ^^^ (-1 : Int32)))).bind fun o2 =>
  (fX9_det o2 (-1 : Int32)).bind fun o3 =>
  ltt ((m_down_s o3.2 o3.1)) fun xs1 =>
  some xs1
set_option maxHeartbeats 4000000 in
set_option maxRecDepth 100000 in
theorem uX9_findDown {l : Launch} {g : GG} {a : Nat → Nat} {i : Nat} {xs : SX9} {pa : Int32} {o : SX9} (h : fX9_findDown xs pa = some o) : mC l g yX9_findDown cX9_findDown 2 none (rM 4 90) [.ref (a i), .int pa] (wX9 g a i xs) (wX9 g a i o) none := by
  refine mC.ofW (by decide) (fun p e s m below meth c X hH ls _ hl => ?_) (Nat.le_of_ble_eq_true rfl)
  have hx := X.1
  have hb := X.2.1
  have hl : lv_has ls 2 [(0, .ref (a i)), (1, .int pa)] := hl
  unfold fX9_findDown at h
  suffices HH : ∀ (H : Heap) (locs : List Loc), mH g s (wX9 g a i xs) (wX9 g a i xs) H locs → W p l e (rM 4 90) s m _ below meth c H locs 0 0 (mZ g below _ s (wX9 g a i xs) (wX9 g a i o) none) (F0 m 0 ls []) from HH _ _ hH
  clear hH
  intro H locs hH
  refine lv_aload_n hx hb dX9_findDown_0 rfl (lv_at hl 0 rfl) ?_
  refine lv_aload_n hx hb dX9_findDown_1 rfl (lv_at hl 0 rfl) ?_
  refine lv_iload_n hx hb dX9_findDown_2 rfl (lv_at hl 1 rfl) ?_
  obtain ⟨o1, ho1, h⟩ := bd_x h
  refine r_V X hH (ws1 := (wX9 g a i xs)) (As := [.int pa]) (rest := [.ref (a i)]) (st1 := [.int o1, .ref (a i)]) (uX9_reach (a := a) (i := i) ho1) kX9_reach mX9_233 iX9_reach vX9_reach zX9 okX9_reach ⟨Nat.le_of_ble_eq_true rfl, Nat.le_of_ble_eq_true rfl⟩ rfl rfl (q0 := 0) rfl rfl [0, 1, 2, 3, 4, 5, 6, 7, 8, 9, 10, 11, 12, 13, 14, 15, 16, 17, 18, 19, 20, 21, 22, 23, 24, 25, 26, 27, 28, 29, 30, 31, 32, 33] rfl rfl rfl (putl_self _ _ rfl) rfl hl.1 rfl (Nat.le_of_ble_eq_true rfl) ⟨Nat.le_refl 0, Nat.le_refl 0⟩ rfl dX9_findDown_3 (fun H locs hH => ?_)
  refine lv_iconst (v := (1 : Int32)) hx hb dX9_findDown_6 (by decide) ?_
  refine lv_iload_n hx hb dX9_findDown_7 rfl (lv_at hl 1 rfl) ?_
  refine lv_ishl hx hb dX9_findDown_8 ?_
  refine lv_iconst (v := (-1 : Int32)) hx hb dX9_findDown_9 (by decide) ?_
  refine lv_ixor hx hb dX9_findDown_10 ?_
  refine lv_iand hx hb dX9_findDown_11 ?_
  obtain ⟨o2, ho2, h⟩ := bd_x h
  refine r_V X hH (ws1 := (wX9 g a i o2)) (As := [.int (o1 &&& (((1 : Int32) <<< (pa &&& 31)) ^^^ (-1 : Int32)))]) (rest := []) (st1 := []) (uX9_within (a := a) (i := i) ho2) kX9_within mX9_255 iX9_within vX9_within zX9 okX9_within ⟨Nat.le_of_ble_eq_true rfl, Nat.le_of_ble_eq_true rfl⟩ rfl rfl (q0 := 0) rfl rfl [0, 1, 2, 3, 4, 5, 6, 7, 8, 9, 10, 11, 12, 13, 14, 15, 16, 17, 18, 19, 20, 21, 22, 23, 24, 25, 26, 27, 28, 29, 30, 31, 32, 33] rfl rfl rfl rfl rfl hl.1 rfl (Nat.le_of_ble_eq_true rfl) ⟨Nat.le_refl 0, Nat.le_refl 0⟩ rfl dX9_findDown_12 (fun H locs hH => ?_)
  refine lv_aload_n hx hb dX9_findDown_15 rfl (lv_at hl 0 rfl) ?_
  refine lv_aload_n hx hb dX9_findDown_16 rfl (lv_at hl 0 rfl) ?_
  refine lv_iconst (v := (-1 : Int32)) hx hb dX9_findDown_17 (by decide) ?_
  obtain ⟨o3, ho3, h⟩ := bd_x h
  refine r_V X hH (ws1 := (wX9 g a i o3.2)) (As := [.int (-1 : Int32)]) (rest := [.ref (a i)]) (st1 := [.long o3.1, .ref (a i)]) (uX9_det (a := a) (i := i) ho3) kX9_det mX9_258 iX9_det vX9_det zX9 okX9_det ⟨Nat.le_of_ble_eq_true rfl, Nat.le_of_ble_eq_true rfl⟩ rfl rfl (q0 := 0) rfl rfl [0, 1, 2, 3, 4, 5, 6, 7, 8, 9, 10, 11, 12, 13, 14, 15, 16, 17, 18, 19, 20, 21, 22, 23, 24, 25, 26, 27, 28, 29, 30, 31, 32, 33] rfl rfl rfl rfl rfl hl.1 rfl (Nat.le_of_ble_eq_true rfl) ⟨Nat.le_refl 0, Nat.le_refl 0⟩ rfl dX9_findDown_18 (fun H locs hH => ?_)
  obtain ⟨xs1, exs1, h⟩ := ltt_x h
  refine f_put X hH (ws1 := (wX9 g a i xs1)) 0 rfl rfl 27 (by decide) inX9 tyX9 tyX9_ok nmX9 fX9_252 rfl rfl rfl (Nat.le_of_ble_eq_true rfl) (by rw [exs1]; rfl) dX9_findDown_21 (fun H locs hH => ?_)
  cases h
  exact e_v X hH dX9_findDown_24

def qX9_common_17 (pa : Int64) (pb : Int64)  : Nat → Int64 → Int64 → Option Int64
  | 0, _, _ => none
  | fu + 1, l4, l6 =>
  (if l6 = (0 : Int64) then
  some l4
  else
  gzl (l6) <|
  ltt ((l4 - l4 / l6 * l6)) fun v1 =>
  qX9_common_17 pa pb  fu l6 v1)
def qX9_common_12 (pa : Int64) (pb : Int64)  (t0 : Int64) : Option Int64 :=
  qX9_common_17 pa pb FU t0 pb
def fX9_common (pa : Int64) (pb : Int64) : Option Int64 :=
  (if (0 : Int64) ≤ pa then
  qX9_common_12 pa pb pa
  else
  qX9_common_12 pa pb (-pa))
set_option maxHeartbeats 4000000 in
set_option maxRecDepth 100000 in
theorem pX9_common_17 {p : Program} {l : Launch} {e : Env} {s : State} {m : MethodId} {args : Array Value} {below : List Frame} {meth : Method} {c : Code} {g : GG} {w0 : va_W}  {pa : Int64} {pb : Int64} {o : Int64} (X : mX g yX9_common cX9_common 10 (some .long) p s m args meth c w0) :
  ∀ (fu : Nat) (l4 : Int64) (l6 : Int64) (H : Heap) (locs : List Loc) (ls : Array Slot), qX9_common_17 pa pb fu l4 l6 = some o → mH g s w0 [] H locs → lv_has ls 10 [(0, .long pa), (2, .long pb), (4, .long l4), (6, .long l6)] → W p l e (rM 0 0) s m args below meth c H locs 0 0 (mZ g below args s w0 [] (some (.long o))) (F0 m 17 ls []) := by
  have hx := X.1
  have hb := X.2.1
  intro fu
  induction fu with
  | zero =>
    intro l4 l6 H locs ls h
    unfold qX9_common_17 at h
    cases h
  | succ fu ih =>
    intro l4 l6 H locs ls h hH hl
    unfold qX9_common_17 at h
    refine lv_lload hx hb dX9_common_17 (lv_at hl 3 rfl) ?_
    refine lv_lconst (v := (0 : Int64)) hx hb dX9_common_19 (by decide) ?_
    refine W.lcmp hx hb dX9_common_20 ?_
    refine lv_if_eq (tgt := 42) hx hb dX9_common_21 (by decide) (fun c2 => ?_) (fun c2 => ?_)
    · have h := it_x h ((lg_cmp_eq l6 (0 : Int64)).mp c2)
      refine lv_lload hx hb dX9_common_42 (lv_at hl 2 rfl) ?_
      cases h
      exact e_l X hH dX9_common_44
    · have h := ie_x h (mt (lg_cmp_eq l6 (0 : Int64)).mpr c2)
      refine lv_lload hx hb dX9_common_24 (lv_at hl 2 rfl) ?_
      refine lv_lload hx hb dX9_common_26 (lv_at hl 3 rfl) ?_
      obtain ⟨z1, h⟩ := gzl_x h
      refine lv_lrem hx hb dX9_common_28 z1 ?_
      obtain ⟨v1, ev1, h⟩ := ltt_x h
      refine s_l X (lv' := [(8, .long v1), (0, .long pa), (2, .long pb), (4, .long l4), (6, .long l6)]) hl ev1 dX9_common_29 (by decide) rfl (fun ls hl => ?_)
      refine lv_lload hx hb dX9_common_31 (lv_at hl 4 rfl) ?_
      refine s_l X (lv' := [(4, .long l6), (8, .long v1), (0, .long pa), (2, .long pb), (6, .long l6)]) hl rfl dX9_common_33 (by decide) rfl (fun ls hl => ?_)
      refine lv_lload hx hb dX9_common_35 (lv_at hl 1 rfl) ?_
      refine s_l X (lv' := [(6, .long v1), (4, .long l6), (8, .long v1), (0, .long pa), (2, .long pb)]) hl rfl dX9_common_37 (by decide) rfl (fun ls hl => ?_)
      refine lv_goto (tgt := 17) hx hb dX9_common_39 (by decide) ?_
      exact ih l6 v1 H locs ls h hH (lv_sub hl [3, 4, 1, 0] rfl)
set_option maxHeartbeats 4000000 in
set_option maxRecDepth 100000 in
theorem pX9_common_12 {p : Program} {l : Launch} {e : Env} {s : State} {m : MethodId} {args : Array Value} {below : List Frame} {meth : Method} {c : Code} {g : GG} {w0 : va_W}  {pa : Int64} {pb : Int64} {o : Int64} (X : mX g yX9_common cX9_common 10 (some .long) p s m args meth c w0) :
  ∀ (t0 : Int64) (H : Heap) (locs : List Loc) (ls : Array Slot), qX9_common_12 pa pb t0 = some o → mH g s w0 [] H locs → lv_has ls 10 [(0, .long pa), (2, .long pb)] → W p l e (rM 0 0) s m args below meth c H locs 0 0 (mZ g below args s w0 [] (some (.long o))) (F0 m 12 ls [.long t0]) := by
  have hx := X.1
  have hb := X.2.1
  intro t0 H locs ls h hH hl
  unfold qX9_common_12 at h
  refine s_l X (lv' := [(4, .long t0), (0, .long pa), (2, .long pb)]) hl rfl dX9_common_12 (by decide) rfl (fun ls hl => ?_)
  refine lv_lload_n hx hb dX9_common_14 rfl (lv_at hl 2 rfl) ?_
  refine s_l X (lv' := [(6, .long pb), (4, .long t0), (0, .long pa), (2, .long pb)]) hl rfl dX9_common_15 (by decide) rfl (fun ls hl => ?_)
  exact pX9_common_17 X FU t0 pb H locs ls h hH (lv_sub hl [2, 3, 1, 0] rfl)
set_option maxHeartbeats 4000000 in
set_option maxRecDepth 100000 in
theorem uX9_common {l : Launch} {g : GG}  {pa : Int64} {pb : Int64} {o : Int64} (h : fX9_common pa pb = some o) : mC l g yX9_common cX9_common 10 (some .long) (rM 0 0) [.long pa, .long pb] [] [] (some (.long o)) := by
  refine mC.ofW (by decide) (fun p e s m below meth c X hH ls _ hl => ?_) (Nat.le_of_ble_eq_true rfl)
  have hx := X.1
  have hb := X.2.1
  have hl : lv_has ls 10 [(0, .long pa), (2, .long pb)] := hl
  unfold fX9_common at h
  suffices HH : ∀ (H : Heap) (locs : List Loc), mH g s [] [] H locs → W p l e (rM 0 0) s m _ below meth c H locs 0 0 (mZ g below _ s [] [] (some (.long o))) (F0 m 0 ls []) from HH _ _ hH
  clear hH
  intro H locs hH
  refine lv_lload_n hx hb dX9_common_0 rfl (lv_at hl 0 rfl) ?_
  refine lv_lconst (v := (0 : Int64)) hx hb dX9_common_1 (by decide) ?_
  refine W.lcmp hx hb dX9_common_2 ?_
  refine lv_if_ge (tgt := 11) hx hb dX9_common_3 (by decide) (fun c1 => ?_) (fun c1 => ?_)
  · have h := it_x h ((lg_cmp_ge pa (0 : Int64)).mp c1)
    refine lv_lload_n hx hb dX9_common_11 rfl (lv_at hl 0 rfl) ?_
    exact pX9_common_12 X  pa H locs ls h hH (lv_sub hl [0, 1] rfl)
  · have h := ie_x h (mt (lg_cmp_ge pa (0 : Int64)).mpr c1)
    refine lv_lload_n hx hb dX9_common_6 rfl (lv_at hl 0 rfl) ?_
    refine lv_lneg hx hb dX9_common_7 ?_
    refine lv_goto (tgt := 12) hx hb dX9_common_8 (by decide) ?_
    exact pX9_common_12 X  (-pa) H locs ls h hH (lv_sub hl [0, 1] rfl)

def qX9_partOf_10 (pa : Int64) (pb : Int64) (pc_ : Int32)  (t0 : Int64) : Option Int64 :=
  (fX9_common pa pb).bind fun o1 =>
  gzl (o1) <|
  some (t0 / o1)
def fX9_partOf (pa : Int64) (pb : Int64) (pc_ : Int32) : Option Int64 :=
  (if pc_ = (0 : Int32) then
  qX9_partOf_10 pa pb pc_ pa
  else
  qX9_partOf_10 pa pb pc_ pb)
set_option maxHeartbeats 4000000 in
set_option maxRecDepth 100000 in
theorem pX9_partOf_10 {p : Program} {l : Launch} {e : Env} {s : State} {m : MethodId} {args : Array Value} {below : List Frame} {meth : Method} {c : Code} {g : GG} {w0 : va_W}  {pa : Int64} {pb : Int64} {pc_ : Int32} {o : Int64} (X : mX g yX9_partOf cX9_partOf 5 (some .long) p s m args meth c w0) :
  ∀ (t0 : Int64) (H : Heap) (locs : List Loc) (ls : Array Slot), qX9_partOf_10 pa pb pc_ t0 = some o → mH g s w0 [] H locs → lv_has ls 5 [(0, .long pa), (2, .long pb), (4, .int pc_)] → W p l e (rM 1 29) s m args below meth c H locs 0 0 (mZ g below args s w0 [] (some (.long o))) (F0 m 10 ls [.long t0]) := by
  have hx := X.1
  have hb := X.2.1
  intro t0 H locs ls h hH hl
  unfold qX9_partOf_10 at h
  refine lv_lload_n hx hb dX9_partOf_10 rfl (lv_at hl 0 rfl) ?_
  refine lv_lload_n hx hb dX9_partOf_11 rfl (lv_at hl 1 rfl) ?_
  obtain ⟨o1, ho1, h⟩ := bd_x h
  refine r_S X hH (ws1 := []) (As := [.long pa, .long pb]) (rest := [.long t0]) (st1 := [.long o1, .long t0]) (uX9_common  ho1) kX9_common mX9_265 sX9_common zX9 okX9_common ⟨Nat.le_of_ble_eq_true rfl, Nat.le_of_ble_eq_true rfl⟩ rfl rfl [] rfl rfl rfl (putl_self _ _ rfl) rfl hl.1 rfl (Nat.le_of_ble_eq_true rfl) ⟨Nat.le_refl 0, Nat.le_refl 0⟩ rfl dX9_partOf_12 (fun H locs hH => ?_)
  obtain ⟨z1, h⟩ := gzl_x h
  refine lv_ldiv hx hb dX9_partOf_15 z1 ?_
  cases h
  exact e_l X hH dX9_partOf_16
set_option maxHeartbeats 4000000 in
set_option maxRecDepth 100000 in
theorem uX9_partOf {l : Launch} {g : GG}  {pa : Int64} {pb : Int64} {pc_ : Int32} {o : Int64} (h : fX9_partOf pa pb pc_ = some o) : mC l g yX9_partOf cX9_partOf 5 (some .long) (rM 1 29) [.long pa, .long pb, .int pc_] [] [] (some (.long o)) := by
  refine mC.ofW (by decide) (fun p e s m below meth c X hH ls _ hl => ?_) (Nat.le_of_ble_eq_true rfl)
  have hx := X.1
  have hb := X.2.1
  have hl : lv_has ls 5 [(0, .long pa), (2, .long pb), (4, .int pc_)] := hl
  unfold fX9_partOf at h
  suffices HH : ∀ (H : Heap) (locs : List Loc), mH g s [] [] H locs → W p l e (rM 1 29) s m _ below meth c H locs 0 0 (mZ g below _ s [] [] (some (.long o))) (F0 m 0 ls []) from HH _ _ hH
  clear hH
  intro H locs hH
  refine lv_iload hx hb dX9_partOf_0 (lv_at hl 2 rfl) ?_
  refine lv_if_ne (tgt := 9) hx hb dX9_partOf_2 (by decide) (fun c1 => ?_) (fun c1 => ?_)
  · have h := ie_x h c1
    refine lv_lload_n hx hb dX9_partOf_9 rfl (lv_at hl 1 rfl) ?_
    exact pX9_partOf_10 X  pb H locs ls h hH (lv_sub hl [0, 1, 2] rfl)
  · have h := it_x h c1
    refine lv_lload_n hx hb dX9_partOf_5 rfl (lv_at hl 0 rfl) ?_
    refine lv_goto (tgt := 10) hx hb dX9_partOf_6 (by decide) ?_
    exact pX9_partOf_10 X  pa H locs ls h hH (lv_sub hl [0, 1, 2] rfl)

def qX9_notTwo_16 (xs : SX9) (pa : Int32) (pb : Int32) (pc_ : Int32)   : Option Int32 :=
  some (-1 : Int32)
def fX9_notTwo (xs : SX9) (pa : Int32) (pb : Int32) (pc_ : Int32) : Option Int32 :=
  (fX9_isPoint xs pa).bind fun o1 =>
  (if o1 = (0 : Int32) then
  qX9_notTwo_16 xs pa pb pc_ 
  else
  (fX9_isPoint xs pb).bind fun o2 =>
  (if o2 = (0 : Int32) then
  qX9_notTwo_16 xs pa pb pc_ 
  else
  (fX9_isIn (pc_.toInt64) (0 : Int64) (1 : Int64)).bind fun o3 =>
  (if o3 = (0 : Int32) then
  some (-2 : Int32)
  else
  some (0 : Int32))))
set_option maxHeartbeats 4000000 in
set_option maxRecDepth 100000 in
theorem pX9_notTwo_16 {p : Program} {l : Launch} {e : Env} {s : State} {m : MethodId} {args : Array Value} {below : List Frame} {meth : Method} {c : Code} {g : GG} {w0 : va_W} {a : Nat → Nat} {i : Nat} {xs : SX9} {pa : Int32} {pb : Int32} {pc_ : Int32} {o : Int32} (X : mX g yX9_notTwo cX9_notTwo 4 (some .int) p s m args meth c w0) :
  ∀  (H : Heap) (locs : List Loc) (ls : Array Slot), qX9_notTwo_16 xs pa pb pc_ = some o → mH g s w0 (wX9 g a i xs) H locs → lv_has ls 4 [(0, .ref (a i)), (1, .int pa), (2, .int pb), (3, .int pc_)] → W p l e (rM 2 46) s m args below meth c H locs 0 0 (mZ g below args s w0 (wX9 g a i xs) (some (.int o))) (F0 m 16 ls []) := by
  have hx := X.1
  have hb := X.2.1
  intro  H locs ls h hH hl
  unfold qX9_notTwo_16 at h
  refine lv_iconst (v := (-1 : Int32)) hx hb dX9_notTwo_16 (by decide) ?_
  refine lv_goto (tgt := 36) hx hb dX9_notTwo_17 (by decide) ?_
  cases h
  exact e_i X hH dX9_notTwo_36
set_option maxHeartbeats 4000000 in
set_option maxRecDepth 100000 in
theorem uX9_notTwo {l : Launch} {g : GG} {a : Nat → Nat} {i : Nat} {xs : SX9} {pa : Int32} {pb : Int32} {pc_ : Int32} {o : Int32} (h : fX9_notTwo xs pa pb pc_ = some o) : mC l g yX9_notTwo cX9_notTwo 4 (some .int) (rM 2 46) [.ref (a i), .int pa, .int pb, .int pc_] (wX9 g a i xs) (wX9 g a i xs) (some (.int o)) := by
  refine mC.ofW (by decide) (fun p e s m below meth c X hH ls _ hl => ?_) (Nat.le_of_ble_eq_true rfl)
  have hx := X.1
  have hb := X.2.1
  have hl : lv_has ls 4 [(0, .ref (a i)), (1, .int pa), (2, .int pb), (3, .int pc_)] := hl
  unfold fX9_notTwo at h
  suffices HH : ∀ (H : Heap) (locs : List Loc), mH g s (wX9 g a i xs) (wX9 g a i xs) H locs → W p l e (rM 2 46) s m _ below meth c H locs 0 0 (mZ g below _ s (wX9 g a i xs) (wX9 g a i xs) (some (.int o))) (F0 m 0 ls []) from HH _ _ hH
  clear hH
  intro H locs hH
  refine lv_aload_n hx hb dX9_notTwo_0 rfl (lv_at hl 0 rfl) ?_
  refine lv_iload_n hx hb dX9_notTwo_1 rfl (lv_at hl 1 rfl) ?_
  obtain ⟨o1, ho1, h⟩ := bd_x h
  refine r_V X hH (ws1 := (wX9 g a i xs)) (As := [.int pa]) (rest := []) (st1 := [.int o1]) (uX9_isPoint (a := a) (i := i) ho1) kX9_isPoint mX9_141 iX9_isPoint vX9_isPoint zX9 okX9_isPoint ⟨Nat.le_of_ble_eq_true rfl, Nat.le_of_ble_eq_true rfl⟩ rfl rfl (q0 := 0) rfl rfl [0, 1, 2, 3, 4, 5, 6, 7, 8, 9, 10, 11, 12, 13, 14, 15, 16, 17, 18, 19, 20, 21, 22, 23, 24, 25, 26, 27, 28, 29, 30, 31, 32, 33] rfl rfl rfl (putl_self _ _ rfl) rfl hl.1 rfl (Nat.le_of_ble_eq_true rfl) ⟨Nat.le_refl 0, Nat.le_refl 0⟩ rfl dX9_notTwo_2 (fun H locs hH => ?_)
  refine lv_if_eq (tgt := 16) hx hb dX9_notTwo_5 (by decide) (fun c1 => ?_) (fun c1 => ?_)
  · have h := it_x h c1
    exact pX9_notTwo_16 X   H locs ls h hH (lv_sub hl [0, 1, 2, 3] rfl)
  · have h := ie_x h c1
    refine lv_aload_n hx hb dX9_notTwo_8 rfl (lv_at hl 0 rfl) ?_
    refine lv_iload_n hx hb dX9_notTwo_9 rfl (lv_at hl 2 rfl) ?_
    obtain ⟨o2, ho2, h⟩ := bd_x h
    refine r_V X hH (ws1 := (wX9 g a i xs)) (As := [.int pb]) (rest := []) (st1 := [.int o2]) (uX9_isPoint (a := a) (i := i) ho2) kX9_isPoint mX9_141 iX9_isPoint vX9_isPoint zX9 okX9_isPoint ⟨Nat.le_of_ble_eq_true rfl, Nat.le_of_ble_eq_true rfl⟩ rfl rfl (q0 := 0) rfl rfl [0, 1, 2, 3, 4, 5, 6, 7, 8, 9, 10, 11, 12, 13, 14, 15, 16, 17, 18, 19, 20, 21, 22, 23, 24, 25, 26, 27, 28, 29, 30, 31, 32, 33] rfl rfl rfl (putl_self _ _ rfl) rfl hl.1 rfl (Nat.le_of_ble_eq_true rfl) ⟨Nat.le_refl 0, Nat.le_refl 0⟩ rfl dX9_notTwo_10 (fun H locs hH => ?_)
    refine lv_if_ne (tgt := 20) hx hb dX9_notTwo_13 (by decide) (fun c2 => ?_) (fun c2 => ?_)
    · have h := ie_x h c2
      refine lv_iload_n hx hb dX9_notTwo_20 rfl (lv_at hl 3 rfl) ?_
      refine lv_i2l hx hb dX9_notTwo_21 rfl ?_
      refine lv_lconst (v := (0 : Int64)) hx hb dX9_notTwo_22 (by decide) ?_
      refine lv_lconst (v := (1 : Int64)) hx hb dX9_notTwo_23 (by decide) ?_
      obtain ⟨o3, ho3, h⟩ := bd_x h
      refine r_S X hH (ws1 := (wX9 g a i xs)) (As := [.long (pc_.toInt64), .long (0 : Int64), .long (1 : Int64)]) (rest := []) (st1 := [.int o3]) (uX9_isIn  ho3) kX9_isIn mX9_116 sX9_isIn zX9 okX9_isIn ⟨Nat.le_of_ble_eq_true rfl, Nat.le_of_ble_eq_true rfl⟩ rfl rfl [] rfl rfl rfl (putl_self _ _ rfl) rfl hl.1 rfl (Nat.le_of_ble_eq_true rfl) ⟨Nat.le_refl 0, Nat.le_refl 0⟩ rfl dX9_notTwo_24 (fun H locs hH => ?_)
      refine lv_if_ne (tgt := 35) hx hb dX9_notTwo_27 (by decide) (fun c3 => ?_) (fun c3 => ?_)
      · have h := ie_x h c3
        refine lv_iconst (v := (0 : Int32)) hx hb dX9_notTwo_35 (by decide) ?_
        cases h
        exact e_i X hH dX9_notTwo_36
      · have h := it_x h c3
        refine lv_bipush (v := (-2 : Int32)) hx hb dX9_notTwo_30 (by decide) ?_
        refine lv_goto (tgt := 36) hx hb dX9_notTwo_32 (by decide) ?_
        cases h
        exact e_i X hH dX9_notTwo_36
    · have h := it_x h c2
      exact pX9_notTwo_16 X   H locs ls h hH (lv_sub hl [0, 1, 2, 3] rfl)

def fX9_timed (xs : SX9) (pa : Int32) (pb : Int32) (pc_ : Int32) (pd : Int32) : Option (Int64 × SX9) :=
  (fX9_notTwo xs pa pb pc_).bind fun o1 =>
  (if o1 = (0 : Int32) then
  (fX9_allThere xs).bind fun o2 =>
  (fX9_findTime o2 pa pb pd).bind fun o3 =>
  (if o3.1 = (0 : Int32) then
  (fX9_far o3.2 (-3 : Int32)).bind fun o4 =>
  some (o4.1, o4.2)
  else
  (fX9_partOf (m_up o3.2) (m_down o3.2) pc_).bind fun o5 =>
  some (o5, o3.2))
  else
  (fX9_far xs o1).bind fun o6 =>
  some (o6.1, o6.2))
set_option maxHeartbeats 4000000 in
set_option maxRecDepth 100000 in
theorem uX9_timed {l : Launch} {g : GG} {a : Nat → Nat} {i : Nat} {xs : SX9} {pa : Int32} {pb : Int32} {pc_ : Int32} {pd : Int32} {o : (Int64 × SX9)} (h : fX9_timed xs pa pb pc_ pd = some o) : mC l g yX9_timed cX9_timed 6 (some .long) (rM 5 117) [.ref (a i), .int pa, .int pb, .int pc_, .int pd] (wX9 g a i xs) (wX9 g a i o.2) (some (.long o.1)) := by
  refine mC.ofW (by decide) (fun p e s m below meth c X hH ls _ hl => ?_) (Nat.le_of_ble_eq_true rfl)
  have hx := X.1
  have hb := X.2.1
  have hl : lv_has ls 6 [(0, .ref (a i)), (1, .int pa), (2, .int pb), (3, .int pc_), (4, .int pd)] := hl
  unfold fX9_timed at h
  suffices HH : ∀ (H : Heap) (locs : List Loc), mH g s (wX9 g a i xs) (wX9 g a i xs) H locs → W p l e (rM 5 117) s m _ below meth c H locs 0 0 (mZ g below _ s (wX9 g a i xs) (wX9 g a i o.2) (some (.long o.1))) (F0 m 0 ls []) from HH _ _ hH
  clear hH
  intro H locs hH
  refine lv_aload_n hx hb dX9_timed_0 rfl (lv_at hl 0 rfl) ?_
  refine lv_iload_n hx hb dX9_timed_1 rfl (lv_at hl 1 rfl) ?_
  refine lv_iload_n hx hb dX9_timed_2 rfl (lv_at hl 2 rfl) ?_
  refine lv_iload_n hx hb dX9_timed_3 rfl (lv_at hl 3 rfl) ?_
  obtain ⟨o1, ho1, h⟩ := bd_x h
  refine r_V X hH (ws1 := (wX9 g a i xs)) (As := [.int pa, .int pb, .int pc_]) (rest := []) (st1 := [.int o1]) (uX9_notTwo (a := a) (i := i) ho1) kX9_notTwo mX9_269 iX9_notTwo vX9_notTwo zX9 okX9_notTwo ⟨Nat.le_of_ble_eq_true rfl, Nat.le_of_ble_eq_true rfl⟩ rfl rfl (q0 := 0) rfl rfl [0, 1, 2, 3, 4, 5, 6, 7, 8, 9, 10, 11, 12, 13, 14, 15, 16, 17, 18, 19, 20, 21, 22, 23, 24, 25, 26, 27, 28, 29, 30, 31, 32, 33] rfl rfl rfl (putl_self _ _ rfl) rfl hl.1 rfl (Nat.le_of_ble_eq_true rfl) ⟨Nat.le_refl 0, Nat.le_refl 0⟩ rfl dX9_timed_4 (fun H locs hH => ?_)
  refine s_i X (lv' := [(5, .int o1), (0, .ref (a i)), (1, .int pa), (2, .int pb), (3, .int pc_), (4, .int pd)]) hl rfl dX9_timed_7 (by decide) rfl (fun ls hl => ?_)
  refine lv_iload hx hb dX9_timed_9 (lv_at hl 0 rfl) ?_
  refine lv_if_eq (tgt := 21) hx hb dX9_timed_11 (by decide) (fun c1 => ?_) (fun c1 => ?_)
  · have h := it_x h c1
    refine lv_aload_n hx hb dX9_timed_21 rfl (lv_at hl 1 rfl) ?_
    obtain ⟨o2, ho2, h⟩ := bd_x h
    refine r_V X hH (ws1 := (wX9 g a i o2)) (As := []) (rest := []) (st1 := []) (uX9_allThere (a := a) (i := i) ho2) kX9_allThere mX9_230 iX9_allThere vX9_allThere zX9 okX9_allThere ⟨Nat.le_of_ble_eq_true rfl, Nat.le_of_ble_eq_true rfl⟩ rfl rfl (q0 := 0) rfl rfl [0, 1, 2, 3, 4, 5, 6, 7, 8, 9, 10, 11, 12, 13, 14, 15, 16, 17, 18, 19, 20, 21, 22, 23, 24, 25, 26, 27, 28, 29, 30, 31, 32, 33] rfl rfl rfl rfl rfl hl.1 rfl (Nat.le_of_ble_eq_true rfl) ⟨Nat.le_refl 0, Nat.le_refl 0⟩ rfl dX9_timed_22 (fun H locs hH => ?_)
    refine lv_aload_n hx hb dX9_timed_25 rfl (lv_at hl 1 rfl) ?_
    refine lv_iload_n hx hb dX9_timed_26 rfl (lv_at hl 2 rfl) ?_
    refine lv_iload_n hx hb dX9_timed_27 rfl (lv_at hl 3 rfl) ?_
    refine lv_iload hx hb dX9_timed_28 (lv_at hl 5 rfl) ?_
    obtain ⟨o3, ho3, h⟩ := bd_x h
    refine r_V X hH (ws1 := (wX9 g a i o3.2)) (As := [.int pa, .int pb, .int pd]) (rest := []) (st1 := [.int o3.1]) (uX9_findTime (a := a) (i := i) ho3) kX9_findTime mX9_275 iX9_findTime vX9_findTime zX9 okX9_findTime ⟨Nat.le_of_ble_eq_true rfl, Nat.le_of_ble_eq_true rfl⟩ rfl rfl (q0 := 0) rfl rfl [0, 1, 2, 3, 4, 5, 6, 7, 8, 9, 10, 11, 12, 13, 14, 15, 16, 17, 18, 19, 20, 21, 22, 23, 24, 25, 26, 27, 28, 29, 30, 31, 32, 33] rfl rfl rfl rfl rfl hl.1 rfl (Nat.le_of_ble_eq_true rfl) ⟨Nat.le_refl 0, Nat.le_refl 0⟩ rfl dX9_timed_30 (fun H locs hH => ?_)
    refine lv_if_eq (tgt := 51) hx hb dX9_timed_33 (by decide) (fun c2 => ?_) (fun c2 => ?_)
    · have h := it_x h c2
      refine lv_aload_n hx hb dX9_timed_51 rfl (lv_at hl 1 rfl) ?_
      refine lv_bipush (v := (-3 : Int32)) hx hb dX9_timed_52 (by decide) ?_
      obtain ⟨o4, ho4, h⟩ := bd_x h
      refine r_V X hH (ws1 := (wX9 g a i o4.2)) (As := [.int (-3 : Int32)]) (rest := []) (st1 := [.long o4.1]) (uX9_far (a := a) (i := i) ho4) kX9_far mX9_272 iX9_far vX9_far zX9 okX9_far ⟨Nat.le_of_ble_eq_true rfl, Nat.le_of_ble_eq_true rfl⟩ rfl rfl (q0 := 0) rfl rfl [0, 1, 2, 3, 4, 5, 6, 7, 8, 9, 10, 11, 12, 13, 14, 15, 16, 17, 18, 19, 20, 21, 22, 23, 24, 25, 26, 27, 28, 29, 30, 31, 32, 33] rfl rfl rfl rfl rfl hl.1 rfl (Nat.le_of_ble_eq_true rfl) ⟨Nat.le_refl 0, Nat.le_refl 0⟩ rfl dX9_timed_54 (fun H locs hH => ?_)
      cases h
      exact e_l X hH dX9_timed_57
    · have h := ie_x h c2
      refine lv_aload_n hx hb dX9_timed_36 rfl (lv_at hl 1 rfl) ?_
      refine f_get X hH 0 rfl rfl 26 (by decide) inX9 fX9_248 rfl dX9_timed_37 ?_
      refine lv_aload_n hx hb dX9_timed_40 rfl (lv_at hl 1 rfl) ?_
      refine f_get X hH 0 rfl rfl 27 (by decide) inX9 fX9_252 rfl dX9_timed_41 ?_
      refine lv_iload_n hx hb dX9_timed_44 rfl (lv_at hl 4 rfl) ?_
      obtain ⟨o5, ho5, h⟩ := bd_x h
      refine r_S X hH (ws1 := (wX9 g a i o3.2)) (As := [.long (m_up o3.2), .long (m_down o3.2), .int pc_]) (rest := []) (st1 := [.long o5]) (uX9_partOf  ho5) kX9_partOf mX9_279 sX9_partOf zX9 okX9_partOf ⟨Nat.le_of_ble_eq_true rfl, Nat.le_of_ble_eq_true rfl⟩ rfl rfl [] rfl rfl rfl (putl_self _ _ rfl) rfl hl.1 rfl (Nat.le_of_ble_eq_true rfl) ⟨Nat.le_refl 0, Nat.le_refl 0⟩ rfl dX9_timed_45 (fun H locs hH => ?_)
      refine lv_goto (tgt := 57) hx hb dX9_timed_48 (by decide) ?_
      cases h
      exact e_l X hH dX9_timed_57
  · have h := ie_x h c1
    refine lv_aload_n hx hb dX9_timed_14 rfl (lv_at hl 1 rfl) ?_
    refine lv_iload hx hb dX9_timed_15 (lv_at hl 0 rfl) ?_
    obtain ⟨o6, ho6, h⟩ := bd_x h
    refine r_V X hH (ws1 := (wX9 g a i o6.2)) (As := [.int o1]) (rest := []) (st1 := [.long o6.1]) (uX9_far (a := a) (i := i) ho6) kX9_far mX9_272 iX9_far vX9_far zX9 okX9_far ⟨Nat.le_of_ble_eq_true rfl, Nat.le_of_ble_eq_true rfl⟩ rfl rfl (q0 := 0) rfl rfl [0, 1, 2, 3, 4, 5, 6, 7, 8, 9, 10, 11, 12, 13, 14, 15, 16, 17, 18, 19, 20, 21, 22, 23, 24, 25, 26, 27, 28, 29, 30, 31, 32, 33] rfl rfl rfl rfl rfl hl.1 rfl (Nat.le_of_ble_eq_true rfl) ⟨Nat.le_refl 0, Nat.le_refl 0⟩ rfl dX9_timed_17 (fun H locs hH => ?_)
    cases h
    exact e_l X hH dX9_timed_20

def fX9_time (xs : SX9) (pa : Int32) (pb : Int32) (pc_ : Int32) : Option (Int64 × SX9) :=
  (fX9_timed xs pa pb pc_ (0 : Int32)).bind fun o1 =>
  some (o1.1, o1.2)
set_option maxHeartbeats 4000000 in
set_option maxRecDepth 100000 in
theorem uX9_time {l : Launch} {g : GG} {a : Nat → Nat} {i : Nat} {xs : SX9} {pa : Int32} {pb : Int32} {pc_ : Int32} {o : (Int64 × SX9)} (h : fX9_time xs pa pb pc_ = some o) : mC l g yX9_time cX9_time 4 (some .long) (rM 6 142) [.ref (a i), .int pa, .int pb, .int pc_] (wX9 g a i xs) (wX9 g a i o.2) (some (.long o.1)) := by
  refine mC.ofW (by decide) (fun p e s m below meth c X hH ls _ hl => ?_) (Nat.le_of_ble_eq_true rfl)
  have hx := X.1
  have hb := X.2.1
  have hl : lv_has ls 4 [(0, .ref (a i)), (1, .int pa), (2, .int pb), (3, .int pc_)] := hl
  unfold fX9_time at h
  suffices HH : ∀ (H : Heap) (locs : List Loc), mH g s (wX9 g a i xs) (wX9 g a i xs) H locs → W p l e (rM 6 142) s m _ below meth c H locs 0 0 (mZ g below _ s (wX9 g a i xs) (wX9 g a i o.2) (some (.long o.1))) (F0 m 0 ls []) from HH _ _ hH
  clear hH
  intro H locs hH
  refine lv_aload_n hx hb dX9_time_0 rfl (lv_at hl 0 rfl) ?_
  refine lv_iload_n hx hb dX9_time_1 rfl (lv_at hl 1 rfl) ?_
  refine lv_iload_n hx hb dX9_time_2 rfl (lv_at hl 2 rfl) ?_
  refine lv_iload_n hx hb dX9_time_3 rfl (lv_at hl 3 rfl) ?_
  refine lv_iconst (v := (0 : Int32)) hx hb dX9_time_4 (by decide) ?_
  obtain ⟨o1, ho1, h⟩ := bd_x h
  refine r_V X hH (ws1 := (wX9 g a i o1.2)) (As := [.int pa, .int pb, .int pc_, .int (0 : Int32)]) (rest := []) (st1 := [.long o1.1]) (uX9_timed (a := a) (i := i) ho1) kX9_timed mX9_283 iX9_timed vX9_timed zX9 okX9_timed ⟨Nat.le_of_ble_eq_true rfl, Nat.le_of_ble_eq_true rfl⟩ rfl rfl (q0 := 0) rfl rfl [0, 1, 2, 3, 4, 5, 6, 7, 8, 9, 10, 11, 12, 13, 14, 15, 16, 17, 18, 19, 20, 21, 22, 23, 24, 25, 26, 27, 28, 29, 30, 31, 32, 33] rfl rfl rfl rfl rfl hl.1 rfl (Nat.le_of_ble_eq_true rfl) ⟨Nat.le_refl 0, Nat.le_refl 0⟩ rfl dX9_time_5 (fun H locs hH => ?_)
  cases h
  exact e_l X hH dX9_time_8

def fX9_steps (xs : SX9) (pa : Int32) (pb : Int32) (pc_ : Int32) : Option (Int64 × SX9) :=
  (fX9_timed xs pa pb pc_ (1 : Int32)).bind fun o1 =>
  some (o1.1, o1.2)
set_option maxHeartbeats 4000000 in
set_option maxRecDepth 100000 in
theorem uX9_steps {l : Launch} {g : GG} {a : Nat → Nat} {i : Nat} {xs : SX9} {pa : Int32} {pb : Int32} {pc_ : Int32} {o : (Int64 × SX9)} (h : fX9_steps xs pa pb pc_ = some o) : mC l g yX9_steps cX9_steps 4 (some .long) (rM 6 142) [.ref (a i), .int pa, .int pb, .int pc_] (wX9 g a i xs) (wX9 g a i o.2) (some (.long o.1)) := by
  refine mC.ofW (by decide) (fun p e s m below meth c X hH ls _ hl => ?_) (Nat.le_of_ble_eq_true rfl)
  have hx := X.1
  have hb := X.2.1
  have hl : lv_has ls 4 [(0, .ref (a i)), (1, .int pa), (2, .int pb), (3, .int pc_)] := hl
  unfold fX9_steps at h
  suffices HH : ∀ (H : Heap) (locs : List Loc), mH g s (wX9 g a i xs) (wX9 g a i xs) H locs → W p l e (rM 6 142) s m _ below meth c H locs 0 0 (mZ g below _ s (wX9 g a i xs) (wX9 g a i o.2) (some (.long o.1))) (F0 m 0 ls []) from HH _ _ hH
  clear hH
  intro H locs hH
  refine lv_aload_n hx hb dX9_steps_0 rfl (lv_at hl 0 rfl) ?_
  refine lv_iload_n hx hb dX9_steps_1 rfl (lv_at hl 1 rfl) ?_
  refine lv_iload_n hx hb dX9_steps_2 rfl (lv_at hl 2 rfl) ?_
  refine lv_iload_n hx hb dX9_steps_3 rfl (lv_at hl 3 rfl) ?_
  refine lv_iconst (v := (1 : Int32)) hx hb dX9_steps_4 (by decide) ?_
  obtain ⟨o1, ho1, h⟩ := bd_x h
  refine r_V X hH (ws1 := (wX9 g a i o1.2)) (As := [.int pa, .int pb, .int pc_, .int (1 : Int32)]) (rest := []) (st1 := [.long o1.1]) (uX9_timed (a := a) (i := i) ho1) kX9_timed mX9_283 iX9_timed vX9_timed zX9 okX9_timed ⟨Nat.le_of_ble_eq_true rfl, Nat.le_of_ble_eq_true rfl⟩ rfl rfl (q0 := 0) rfl rfl [0, 1, 2, 3, 4, 5, 6, 7, 8, 9, 10, 11, 12, 13, 14, 15, 16, 17, 18, 19, 20, 21, 22, 23, 24, 25, 26, 27, 28, 29, 30, 31, 32, 33] rfl rfl rfl rfl rfl hl.1 rfl (Nat.le_of_ble_eq_true rfl) ⟨Nat.le_refl 0, Nat.le_refl 0⟩ rfl dX9_steps_5 (fun H locs hH => ?_)
  cases h
  exact e_l X hH dX9_steps_8

def fX9_findCommute (xs : SX9) (pa : Int32) (pb : Int32) : Option (Int32 × SX9) :=
  (fX9_findTime xs pa pb (0 : Int32)).bind fun o1 =>
  (if o1.1 = (0 : Int32) then
  some ((0 : Int32), o1.2)
  else
  ltt ((m_commuteUp_s o1.2 (m_up o1.2))) fun xs1 =>
  ltt ((m_commuteDown_s xs1 (m_down xs1))) fun xs2 =>
  (fX9_findTime xs2 pb pa (0 : Int32)).bind fun o2 =>
  ltt ((m_commuteUp_s o2.2 ((m_commuteUp o2.2) + (m_up o2.2)))) fun xs3 =>
  some ((1 : Int32), xs3))
set_option maxHeartbeats 4000000 in
set_option maxRecDepth 100000 in
theorem uX9_findCommute {l : Launch} {g : GG} {a : Nat → Nat} {i : Nat} {xs : SX9} {pa : Int32} {pb : Int32} {o : (Int32 × SX9)} (h : fX9_findCommute xs pa pb = some o) : mC l g yX9_findCommute cX9_findCommute 3 (some .boolean) (rM 5 117) [.ref (a i), .int pa, .int pb] (wX9 g a i xs) (wX9 g a i o.2) (some (.int o.1)) := by
  refine mC.ofW (by decide) (fun p e s m below meth c X hH ls _ hl => ?_) (Nat.le_of_ble_eq_true rfl)
  have hx := X.1
  have hb := X.2.1
  have hl : lv_has ls 3 [(0, .ref (a i)), (1, .int pa), (2, .int pb)] := hl
  unfold fX9_findCommute at h
  suffices HH : ∀ (H : Heap) (locs : List Loc), mH g s (wX9 g a i xs) (wX9 g a i xs) H locs → W p l e (rM 5 117) s m _ below meth c H locs 0 0 (mZ g below _ s (wX9 g a i xs) (wX9 g a i o.2) (some (.int o.1))) (F0 m 0 ls []) from HH _ _ hH
  clear hH
  intro H locs hH
  refine lv_aload_n hx hb dX9_findCommute_0 rfl (lv_at hl 0 rfl) ?_
  refine lv_iload_n hx hb dX9_findCommute_1 rfl (lv_at hl 1 rfl) ?_
  refine lv_iload_n hx hb dX9_findCommute_2 rfl (lv_at hl 2 rfl) ?_
  refine lv_iconst (v := (0 : Int32)) hx hb dX9_findCommute_3 (by decide) ?_
  obtain ⟨o1, ho1, h⟩ := bd_x h
  refine r_V X hH (ws1 := (wX9 g a i o1.2)) (As := [.int pa, .int pb, .int (0 : Int32)]) (rest := []) (st1 := [.int o1.1]) (uX9_findTime (a := a) (i := i) ho1) kX9_findTime mX9_275 iX9_findTime vX9_findTime zX9 okX9_findTime ⟨Nat.le_of_ble_eq_true rfl, Nat.le_of_ble_eq_true rfl⟩ rfl rfl (q0 := 0) rfl rfl [0, 1, 2, 3, 4, 5, 6, 7, 8, 9, 10, 11, 12, 13, 14, 15, 16, 17, 18, 19, 20, 21, 22, 23, 24, 25, 26, 27, 28, 29, 30, 31, 32, 33] rfl rfl rfl rfl rfl hl.1 rfl (Nat.le_of_ble_eq_true rfl) ⟨Nat.le_refl 0, Nat.le_refl 0⟩ rfl dX9_findCommute_4 (fun H locs hH => ?_)
  refine lv_if_ne (tgt := 12) hx hb dX9_findCommute_7 (by decide) (fun c1 => ?_) (fun c1 => ?_)
  · have h := ie_x h c1
    refine lv_aload_n hx hb dX9_findCommute_12 rfl (lv_at hl 0 rfl) ?_
    refine lv_aload_n hx hb dX9_findCommute_13 rfl (lv_at hl 0 rfl) ?_
    refine f_get X hH 0 rfl rfl 26 (by decide) inX9 fX9_248 rfl dX9_findCommute_14 ?_
    obtain ⟨xs1, exs1, h⟩ := ltt_x h
    refine f_put X hH (ws1 := (wX9 g a i xs1)) 0 rfl rfl 28 (by decide) inX9 tyX9 tyX9_ok nmX9 fX9_287 rfl rfl rfl (Nat.le_of_ble_eq_true rfl) (by rw [exs1]; rfl) dX9_findCommute_17 (fun H locs hH => ?_)
    refine lv_aload_n hx hb dX9_findCommute_20 rfl (lv_at hl 0 rfl) ?_
    refine lv_aload_n hx hb dX9_findCommute_21 rfl (lv_at hl 0 rfl) ?_
    refine f_get X hH 0 rfl rfl 27 (by decide) inX9 fX9_252 rfl dX9_findCommute_22 ?_
    obtain ⟨xs2, exs2, h⟩ := ltt_x h
    refine f_put X hH (ws1 := (wX9 g a i xs2)) 0 rfl rfl 29 (by decide) inX9 tyX9 tyX9_ok nmX9 fX9_290 rfl rfl rfl (Nat.le_of_ble_eq_true rfl) (by rw [exs2]; rfl) dX9_findCommute_25 (fun H locs hH => ?_)
    refine lv_aload_n hx hb dX9_findCommute_28 rfl (lv_at hl 0 rfl) ?_
    refine lv_iload_n hx hb dX9_findCommute_29 rfl (lv_at hl 2 rfl) ?_
    refine lv_iload_n hx hb dX9_findCommute_30 rfl (lv_at hl 1 rfl) ?_
    refine lv_iconst (v := (0 : Int32)) hx hb dX9_findCommute_31 (by decide) ?_
    obtain ⟨o2, ho2, h⟩ := bd_x h
    refine r_V X hH (ws1 := (wX9 g a i o2.2)) (As := [.int pb, .int pa, .int (0 : Int32)]) (rest := []) (st1 := [.int o2.1]) (uX9_findTime (a := a) (i := i) ho2) kX9_findTime mX9_275 iX9_findTime vX9_findTime zX9 okX9_findTime ⟨Nat.le_of_ble_eq_true rfl, Nat.le_of_ble_eq_true rfl⟩ rfl rfl (q0 := 0) rfl rfl [0, 1, 2, 3, 4, 5, 6, 7, 8, 9, 10, 11, 12, 13, 14, 15, 16, 17, 18, 19, 20, 21, 22, 23, 24, 25, 26, 27, 28, 29, 30, 31, 32, 33] rfl rfl rfl rfl rfl hl.1 rfl (Nat.le_of_ble_eq_true rfl) ⟨Nat.le_refl 0, Nat.le_refl 0⟩ rfl dX9_findCommute_32 (fun H locs hH => ?_)
    refine lv_pop hx hb dX9_findCommute_35 rfl ?_
    refine lv_aload_n hx hb dX9_findCommute_36 rfl (lv_at hl 0 rfl) ?_
    refine lv_dup hx hb dX9_findCommute_37 rfl ?_
    refine f_get X hH 0 rfl rfl 28 (by decide) inX9 fX9_287 rfl dX9_findCommute_38 ?_
    refine lv_aload_n hx hb dX9_findCommute_41 rfl (lv_at hl 0 rfl) ?_
    refine f_get X hH 0 rfl rfl 26 (by decide) inX9 fX9_248 rfl dX9_findCommute_42 ?_
    refine lv_ladd hx hb dX9_findCommute_45 ?_
    obtain ⟨xs3, exs3, h⟩ := ltt_x h
    refine f_put X hH (ws1 := (wX9 g a i xs3)) 0 rfl rfl 28 (by decide) inX9 tyX9 tyX9_ok nmX9 fX9_287 rfl rfl rfl (Nat.le_of_ble_eq_true rfl) (by rw [exs3]; rfl) dX9_findCommute_46 (fun H locs hH => ?_)
    refine lv_iconst (v := (1 : Int32)) hx hb dX9_findCommute_49 (by decide) ?_
    cases h
    exact e_z X hH (by decide) dX9_findCommute_50
  · have h := it_x h c1
    refine lv_iconst (v := (0 : Int32)) hx hb dX9_findCommute_10 (by decide) ?_
    cases h
    exact e_z X hH (by decide) dX9_findCommute_11

def fX9_commute (xs : SX9) (pa : Int32) (pb : Int32) (pc_ : Int32) : Option (Int64 × SX9) :=
  (fX9_notTwo xs pa pb pc_).bind fun o1 =>
  (if o1 = (0 : Int32) then
  (fX9_allThere xs).bind fun o2 =>
  (fX9_findCommute o2 pa pb).bind fun o3 =>
  (if o3.1 = (0 : Int32) then
  (fX9_far o3.2 (-3 : Int32)).bind fun o4 =>
  some (o4.1, o4.2)
  else
  (fX9_partOf (m_commuteUp o3.2) (m_commuteDown o3.2) pc_).bind fun o5 =>
  some (o5, o3.2))
  else
  (fX9_far xs o1).bind fun o6 =>
  some (o6.1, o6.2))
set_option maxHeartbeats 4000000 in
set_option maxRecDepth 100000 in
theorem uX9_commute {l : Launch} {g : GG} {a : Nat → Nat} {i : Nat} {xs : SX9} {pa : Int32} {pb : Int32} {pc_ : Int32} {o : (Int64 × SX9)} (h : fX9_commute xs pa pb pc_ = some o) : mC l g yX9_commute cX9_commute 5 (some .long) (rM 6 139) [.ref (a i), .int pa, .int pb, .int pc_] (wX9 g a i xs) (wX9 g a i o.2) (some (.long o.1)) := by
  refine mC.ofW (by decide) (fun p e s m below meth c X hH ls _ hl => ?_) (Nat.le_of_ble_eq_true rfl)
  have hx := X.1
  have hb := X.2.1
  have hl : lv_has ls 5 [(0, .ref (a i)), (1, .int pa), (2, .int pb), (3, .int pc_)] := hl
  unfold fX9_commute at h
  suffices HH : ∀ (H : Heap) (locs : List Loc), mH g s (wX9 g a i xs) (wX9 g a i xs) H locs → W p l e (rM 6 139) s m _ below meth c H locs 0 0 (mZ g below _ s (wX9 g a i xs) (wX9 g a i o.2) (some (.long o.1))) (F0 m 0 ls []) from HH _ _ hH
  clear hH
  intro H locs hH
  refine lv_aload_n hx hb dX9_commute_0 rfl (lv_at hl 0 rfl) ?_
  refine lv_iload_n hx hb dX9_commute_1 rfl (lv_at hl 1 rfl) ?_
  refine lv_iload_n hx hb dX9_commute_2 rfl (lv_at hl 2 rfl) ?_
  refine lv_iload_n hx hb dX9_commute_3 rfl (lv_at hl 3 rfl) ?_
  obtain ⟨o1, ho1, h⟩ := bd_x h
  refine r_V X hH (ws1 := (wX9 g a i xs)) (As := [.int pa, .int pb, .int pc_]) (rest := []) (st1 := [.int o1]) (uX9_notTwo (a := a) (i := i) ho1) kX9_notTwo mX9_269 iX9_notTwo vX9_notTwo zX9 okX9_notTwo ⟨Nat.le_of_ble_eq_true rfl, Nat.le_of_ble_eq_true rfl⟩ rfl rfl (q0 := 0) rfl rfl [0, 1, 2, 3, 4, 5, 6, 7, 8, 9, 10, 11, 12, 13, 14, 15, 16, 17, 18, 19, 20, 21, 22, 23, 24, 25, 26, 27, 28, 29, 30, 31, 32, 33] rfl rfl rfl (putl_self _ _ rfl) rfl hl.1 rfl (Nat.le_of_ble_eq_true rfl) ⟨Nat.le_refl 0, Nat.le_refl 0⟩ rfl dX9_commute_4 (fun H locs hH => ?_)
  refine s_i X (lv' := [(4, .int o1), (0, .ref (a i)), (1, .int pa), (2, .int pb), (3, .int pc_)]) hl rfl dX9_commute_7 (by decide) rfl (fun ls hl => ?_)
  refine lv_iload hx hb dX9_commute_9 (lv_at hl 0 rfl) ?_
  refine lv_if_eq (tgt := 21) hx hb dX9_commute_11 (by decide) (fun c1 => ?_) (fun c1 => ?_)
  · have h := it_x h c1
    refine lv_aload_n hx hb dX9_commute_21 rfl (lv_at hl 1 rfl) ?_
    obtain ⟨o2, ho2, h⟩ := bd_x h
    refine r_V X hH (ws1 := (wX9 g a i o2)) (As := []) (rest := []) (st1 := []) (uX9_allThere (a := a) (i := i) ho2) kX9_allThere mX9_230 iX9_allThere vX9_allThere zX9 okX9_allThere ⟨Nat.le_of_ble_eq_true rfl, Nat.le_of_ble_eq_true rfl⟩ rfl rfl (q0 := 0) rfl rfl [0, 1, 2, 3, 4, 5, 6, 7, 8, 9, 10, 11, 12, 13, 14, 15, 16, 17, 18, 19, 20, 21, 22, 23, 24, 25, 26, 27, 28, 29, 30, 31, 32, 33] rfl rfl rfl rfl rfl hl.1 rfl (Nat.le_of_ble_eq_true rfl) ⟨Nat.le_refl 0, Nat.le_refl 0⟩ rfl dX9_commute_22 (fun H locs hH => ?_)
    refine lv_aload_n hx hb dX9_commute_25 rfl (lv_at hl 1 rfl) ?_
    refine lv_iload_n hx hb dX9_commute_26 rfl (lv_at hl 2 rfl) ?_
    refine lv_iload_n hx hb dX9_commute_27 rfl (lv_at hl 3 rfl) ?_
    obtain ⟨o3, ho3, h⟩ := bd_x h
    refine r_V X hH (ws1 := (wX9 g a i o3.2)) (As := [.int pa, .int pb]) (rest := []) (st1 := [.int o3.1]) (uX9_findCommute (a := a) (i := i) ho3) kX9_findCommute mX9_293 iX9_findCommute vX9_findCommute zX9 okX9_findCommute ⟨Nat.le_of_ble_eq_true rfl, Nat.le_of_ble_eq_true rfl⟩ rfl rfl (q0 := 0) rfl rfl [0, 1, 2, 3, 4, 5, 6, 7, 8, 9, 10, 11, 12, 13, 14, 15, 16, 17, 18, 19, 20, 21, 22, 23, 24, 25, 26, 27, 28, 29, 30, 31, 32, 33] rfl rfl rfl rfl rfl hl.1 rfl (Nat.le_of_ble_eq_true rfl) ⟨Nat.le_refl 0, Nat.le_refl 0⟩ rfl dX9_commute_28 (fun H locs hH => ?_)
    refine lv_if_eq (tgt := 49) hx hb dX9_commute_31 (by decide) (fun c2 => ?_) (fun c2 => ?_)
    · have h := it_x h c2
      refine lv_aload_n hx hb dX9_commute_49 rfl (lv_at hl 1 rfl) ?_
      refine lv_bipush (v := (-3 : Int32)) hx hb dX9_commute_50 (by decide) ?_
      obtain ⟨o4, ho4, h⟩ := bd_x h
      refine r_V X hH (ws1 := (wX9 g a i o4.2)) (As := [.int (-3 : Int32)]) (rest := []) (st1 := [.long o4.1]) (uX9_far (a := a) (i := i) ho4) kX9_far mX9_272 iX9_far vX9_far zX9 okX9_far ⟨Nat.le_of_ble_eq_true rfl, Nat.le_of_ble_eq_true rfl⟩ rfl rfl (q0 := 0) rfl rfl [0, 1, 2, 3, 4, 5, 6, 7, 8, 9, 10, 11, 12, 13, 14, 15, 16, 17, 18, 19, 20, 21, 22, 23, 24, 25, 26, 27, 28, 29, 30, 31, 32, 33] rfl rfl rfl rfl rfl hl.1 rfl (Nat.le_of_ble_eq_true rfl) ⟨Nat.le_refl 0, Nat.le_refl 0⟩ rfl dX9_commute_52 (fun H locs hH => ?_)
      cases h
      exact e_l X hH dX9_commute_55
    · have h := ie_x h c2
      refine lv_aload_n hx hb dX9_commute_34 rfl (lv_at hl 1 rfl) ?_
      refine f_get X hH 0 rfl rfl 28 (by decide) inX9 fX9_287 rfl dX9_commute_35 ?_
      refine lv_aload_n hx hb dX9_commute_38 rfl (lv_at hl 1 rfl) ?_
      refine f_get X hH 0 rfl rfl 29 (by decide) inX9 fX9_290 rfl dX9_commute_39 ?_
      refine lv_iload_n hx hb dX9_commute_42 rfl (lv_at hl 4 rfl) ?_
      obtain ⟨o5, ho5, h⟩ := bd_x h
      refine r_S X hH (ws1 := (wX9 g a i o3.2)) (As := [.long (m_commuteUp o3.2), .long (m_commuteDown o3.2), .int pc_]) (rest := []) (st1 := [.long o5]) (uX9_partOf  ho5) kX9_partOf mX9_279 sX9_partOf zX9 okX9_partOf ⟨Nat.le_of_ble_eq_true rfl, Nat.le_of_ble_eq_true rfl⟩ rfl rfl [] rfl rfl rfl (putl_self _ _ rfl) rfl hl.1 rfl (Nat.le_of_ble_eq_true rfl) ⟨Nat.le_refl 0, Nat.le_refl 0⟩ rfl dX9_commute_43 (fun H locs hH => ?_)
      refine lv_goto (tgt := 55) hx hb dX9_commute_46 (by decide) ?_
      cases h
      exact e_l X hH dX9_commute_55
  · have h := ie_x h c1
    refine lv_aload_n hx hb dX9_commute_14 rfl (lv_at hl 1 rfl) ?_
    refine lv_iload hx hb dX9_commute_15 (lv_at hl 0 rfl) ?_
    obtain ⟨o6, ho6, h⟩ := bd_x h
    refine r_V X hH (ws1 := (wX9 g a i o6.2)) (As := [.int o1]) (rest := []) (st1 := [.long o6.1]) (uX9_far (a := a) (i := i) ho6) kX9_far mX9_272 iX9_far vX9_far zX9 okX9_far ⟨Nat.le_of_ble_eq_true rfl, Nat.le_of_ble_eq_true rfl⟩ rfl rfl (q0 := 0) rfl rfl [0, 1, 2, 3, 4, 5, 6, 7, 8, 9, 10, 11, 12, 13, 14, 15, 16, 17, 18, 19, 20, 21, 22, 23, 24, 25, 26, 27, 28, 29, 30, 31, 32, 33] rfl rfl rfl rfl rfl hl.1 rfl (Nat.le_of_ble_eq_true rfl) ⟨Nat.le_refl 0, Nat.le_refl 0⟩ rfl dX9_commute_17 (fun H locs hH => ?_)
    cases h
    exact e_l X hH dX9_commute_20

def qX9_visits_29 (pa : Int32) (pb : Int32) (pc_ : Int32) (pd : Int32)  (xs : SX9) : Option (Int64 × SX9) :=
  (fX9_far xs (-1 : Int32)).bind fun o2 =>
  some (o2.1, o2.2)
def fX9_visits (xs : SX9) (pa : Int32) (pb : Int32) (pc_ : Int32) (pd : Int32) : Option (Int64 × SX9) :=
  (fX9_isPoint xs pa).bind fun o1 =>
  (if o1 = (0 : Int32) then
  qX9_visits_29 pa pb pc_ pd xs
  else
  (fX9_isPoint xs pb).bind fun o3 =>
  (if o3 = (0 : Int32) then
  qX9_visits_29 pa pb pc_ pd xs
  else
  (fX9_isPoint xs pc_).bind fun o4 =>
  (if o4 = (0 : Int32) then
  qX9_visits_29 pa pb pc_ pd xs
  else
  (if pc_ = pb then
  qX9_visits_29 pa pb pc_ pd xs
  else
  (fX9_isIn (pd.toInt64) (0 : Int64) (1 : Int64)).bind fun o5 =>
  (if o5 = (0 : Int32) then
  (fX9_far xs (-2 : Int32)).bind fun o14 =>
  some (o14.1, o14.2)
  else
  (fX9_allThere xs).bind fun o6 =>
  (fX9_reach o6 pa).bind fun o7 =>
  (fX9_has o7 pb).bind fun o8 =>
  (if o8 = (0 : Int32) then
  (fX9_far o6 (-3 : Int32)).bind fun o13 =>
  some (o13.1, o13.2)
  else
  (fX9_findDown o6 pb).bind fun o9 =>
  (fX9_share o9 pa pb pc_).bind fun o10 =>
  (fX9_weightsAt o10.2 pc_).bind fun o11 =>
  (fX9_partOf (o10.1 * (o11.toInt64)) (m_down o10.2) pd).bind fun o12 =>
  some (o12, o10.2)))))))
set_option maxHeartbeats 4000000 in
set_option maxRecDepth 100000 in
theorem pX9_visits_29 {p : Program} {l : Launch} {e : Env} {s : State} {m : MethodId} {args : Array Value} {below : List Frame} {meth : Method} {c : Code} {g : GG} {w0 : va_W} {a : Nat → Nat} {i : Nat} {pa : Int32} {pb : Int32} {pc_ : Int32} {pd : Int32} {o : (Int64 × SX9)} (X : mX g yX9_visits cX9_visits 5 (some .long) p s m args meth c w0) :
  ∀ (xs : SX9) (H : Heap) (locs : List Loc) (ls : Array Slot), qX9_visits_29 pa pb pc_ pd xs = some o → mH g s w0 (wX9 g a i xs) H locs → lv_has ls 5 [(0, .ref (a i)), (1, .int pa), (2, .int pb), (3, .int pc_), (4, .int pd)] → W p l e (rM 5 114) s m args below meth c H locs 0 0 (mZ g below args s w0 (wX9 g a i o.2) (some (.long o.1))) (F0 m 29 ls []) := by
  have hx := X.1
  have hb := X.2.1
  intro xs H locs ls h hH hl
  unfold qX9_visits_29 at h
  refine lv_aload_n hx hb dX9_visits_29 rfl (lv_at hl 0 rfl) ?_
  refine lv_iconst (v := (-1 : Int32)) hx hb dX9_visits_30 (by decide) ?_
  obtain ⟨o2, ho2, h⟩ := bd_x h
  refine r_V X hH (ws1 := (wX9 g a i o2.2)) (As := [.int (-1 : Int32)]) (rest := []) (st1 := [.long o2.1]) (uX9_far (a := a) (i := i) ho2) kX9_far mX9_272 iX9_far vX9_far zX9 okX9_far ⟨Nat.le_of_ble_eq_true rfl, Nat.le_of_ble_eq_true rfl⟩ rfl rfl (q0 := 0) rfl rfl [0, 1, 2, 3, 4, 5, 6, 7, 8, 9, 10, 11, 12, 13, 14, 15, 16, 17, 18, 19, 20, 21, 22, 23, 24, 25, 26, 27, 28, 29, 30, 31, 32, 33] rfl rfl rfl rfl rfl hl.1 rfl (Nat.le_of_ble_eq_true rfl) ⟨Nat.le_refl 0, Nat.le_refl 0⟩ rfl dX9_visits_31 (fun H locs hH => ?_)
  cases h
  exact e_l X hH dX9_visits_34
set_option maxHeartbeats 4000000 in
set_option maxRecDepth 100000 in
theorem uX9_visits {l : Launch} {g : GG} {a : Nat → Nat} {i : Nat} {xs : SX9} {pa : Int32} {pb : Int32} {pc_ : Int32} {pd : Int32} {o : (Int64 × SX9)} (h : fX9_visits xs pa pb pc_ pd = some o) : mC l g yX9_visits cX9_visits 5 (some .long) (rM 5 114) [.ref (a i), .int pa, .int pb, .int pc_, .int pd] (wX9 g a i xs) (wX9 g a i o.2) (some (.long o.1)) := by
  refine mC.ofW (by decide) (fun p e s m below meth c X hH ls _ hl => ?_) (Nat.le_of_ble_eq_true rfl)
  have hx := X.1
  have hb := X.2.1
  have hl : lv_has ls 5 [(0, .ref (a i)), (1, .int pa), (2, .int pb), (3, .int pc_), (4, .int pd)] := hl
  unfold fX9_visits at h
  suffices HH : ∀ (H : Heap) (locs : List Loc), mH g s (wX9 g a i xs) (wX9 g a i xs) H locs → W p l e (rM 5 114) s m _ below meth c H locs 0 0 (mZ g below _ s (wX9 g a i xs) (wX9 g a i o.2) (some (.long o.1))) (F0 m 0 ls []) from HH _ _ hH
  clear hH
  intro H locs hH
  refine lv_aload_n hx hb dX9_visits_0 rfl (lv_at hl 0 rfl) ?_
  refine lv_iload_n hx hb dX9_visits_1 rfl (lv_at hl 1 rfl) ?_
  obtain ⟨o1, ho1, h⟩ := bd_x h
  refine r_V X hH (ws1 := (wX9 g a i xs)) (As := [.int pa]) (rest := []) (st1 := [.int o1]) (uX9_isPoint (a := a) (i := i) ho1) kX9_isPoint mX9_141 iX9_isPoint vX9_isPoint zX9 okX9_isPoint ⟨Nat.le_of_ble_eq_true rfl, Nat.le_of_ble_eq_true rfl⟩ rfl rfl (q0 := 0) rfl rfl [0, 1, 2, 3, 4, 5, 6, 7, 8, 9, 10, 11, 12, 13, 14, 15, 16, 17, 18, 19, 20, 21, 22, 23, 24, 25, 26, 27, 28, 29, 30, 31, 32, 33] rfl rfl rfl (putl_self _ _ rfl) rfl hl.1 rfl (Nat.le_of_ble_eq_true rfl) ⟨Nat.le_refl 0, Nat.le_refl 0⟩ rfl dX9_visits_2 (fun H locs hH => ?_)
  refine lv_if_eq (tgt := 29) hx hb dX9_visits_5 (by decide) (fun c1 => ?_) (fun c1 => ?_)
  · have h := it_x h c1
    exact pX9_visits_29 X  xs H locs ls h hH (lv_sub hl [0, 1, 2, 3, 4] rfl)
  · have h := ie_x h c1
    refine lv_aload_n hx hb dX9_visits_8 rfl (lv_at hl 0 rfl) ?_
    refine lv_iload_n hx hb dX9_visits_9 rfl (lv_at hl 2 rfl) ?_
    obtain ⟨o3, ho3, h⟩ := bd_x h
    refine r_V X hH (ws1 := (wX9 g a i xs)) (As := [.int pb]) (rest := []) (st1 := [.int o3]) (uX9_isPoint (a := a) (i := i) ho3) kX9_isPoint mX9_141 iX9_isPoint vX9_isPoint zX9 okX9_isPoint ⟨Nat.le_of_ble_eq_true rfl, Nat.le_of_ble_eq_true rfl⟩ rfl rfl (q0 := 0) rfl rfl [0, 1, 2, 3, 4, 5, 6, 7, 8, 9, 10, 11, 12, 13, 14, 15, 16, 17, 18, 19, 20, 21, 22, 23, 24, 25, 26, 27, 28, 29, 30, 31, 32, 33] rfl rfl rfl (putl_self _ _ rfl) rfl hl.1 rfl (Nat.le_of_ble_eq_true rfl) ⟨Nat.le_refl 0, Nat.le_refl 0⟩ rfl dX9_visits_10 (fun H locs hH => ?_)
    refine lv_if_eq (tgt := 29) hx hb dX9_visits_13 (by decide) (fun c2 => ?_) (fun c2 => ?_)
    · have h := it_x h c2
      exact pX9_visits_29 X  xs H locs ls h hH (lv_sub hl [0, 1, 2, 3, 4] rfl)
    · have h := ie_x h c2
      refine lv_aload_n hx hb dX9_visits_16 rfl (lv_at hl 0 rfl) ?_
      refine lv_iload_n hx hb dX9_visits_17 rfl (lv_at hl 3 rfl) ?_
      obtain ⟨o4, ho4, h⟩ := bd_x h
      refine r_V X hH (ws1 := (wX9 g a i xs)) (As := [.int pc_]) (rest := []) (st1 := [.int o4]) (uX9_isPoint (a := a) (i := i) ho4) kX9_isPoint mX9_141 iX9_isPoint vX9_isPoint zX9 okX9_isPoint ⟨Nat.le_of_ble_eq_true rfl, Nat.le_of_ble_eq_true rfl⟩ rfl rfl (q0 := 0) rfl rfl [0, 1, 2, 3, 4, 5, 6, 7, 8, 9, 10, 11, 12, 13, 14, 15, 16, 17, 18, 19, 20, 21, 22, 23, 24, 25, 26, 27, 28, 29, 30, 31, 32, 33] rfl rfl rfl (putl_self _ _ rfl) rfl hl.1 rfl (Nat.le_of_ble_eq_true rfl) ⟨Nat.le_refl 0, Nat.le_refl 0⟩ rfl dX9_visits_18 (fun H locs hH => ?_)
      refine lv_if_eq (tgt := 29) hx hb dX9_visits_21 (by decide) (fun c3 => ?_) (fun c3 => ?_)
      · have h := it_x h c3
        exact pX9_visits_29 X  xs H locs ls h hH (lv_sub hl [0, 1, 2, 3, 4] rfl)
      · have h := ie_x h c3
        refine lv_iload_n hx hb dX9_visits_24 rfl (lv_at hl 3 rfl) ?_
        refine lv_iload_n hx hb dX9_visits_25 rfl (lv_at hl 2 rfl) ?_
        refine lv_icmp_ne (tgt := 35) hx hb dX9_visits_26 (by decide) (fun c4 => ?_) (fun c4 => ?_)
        · have h := ie_x h c4
          refine lv_iload hx hb dX9_visits_35 (lv_at hl 4 rfl) ?_
          refine lv_i2l hx hb dX9_visits_37 rfl ?_
          refine lv_lconst (v := (0 : Int64)) hx hb dX9_visits_38 (by decide) ?_
          refine lv_lconst (v := (1 : Int64)) hx hb dX9_visits_39 (by decide) ?_
          obtain ⟨o5, ho5, h⟩ := bd_x h
          refine r_S X hH (ws1 := (wX9 g a i xs)) (As := [.long (pd.toInt64), .long (0 : Int64), .long (1 : Int64)]) (rest := []) (st1 := [.int o5]) (uX9_isIn  ho5) kX9_isIn mX9_116 sX9_isIn zX9 okX9_isIn ⟨Nat.le_of_ble_eq_true rfl, Nat.le_of_ble_eq_true rfl⟩ rfl rfl [] rfl rfl rfl (putl_self _ _ rfl) rfl hl.1 rfl (Nat.le_of_ble_eq_true rfl) ⟨Nat.le_refl 0, Nat.le_refl 0⟩ rfl dX9_visits_40 (fun H locs hH => ?_)
          refine lv_if_ne (tgt := 53) hx hb dX9_visits_43 (by decide) (fun c5 => ?_) (fun c5 => ?_)
          · have h := ie_x h c5
            refine lv_aload_n hx hb dX9_visits_53 rfl (lv_at hl 0 rfl) ?_
            obtain ⟨o6, ho6, h⟩ := bd_x h
            refine r_V X hH (ws1 := (wX9 g a i o6)) (As := []) (rest := []) (st1 := []) (uX9_allThere (a := a) (i := i) ho6) kX9_allThere mX9_230 iX9_allThere vX9_allThere zX9 okX9_allThere ⟨Nat.le_of_ble_eq_true rfl, Nat.le_of_ble_eq_true rfl⟩ rfl rfl (q0 := 0) rfl rfl [0, 1, 2, 3, 4, 5, 6, 7, 8, 9, 10, 11, 12, 13, 14, 15, 16, 17, 18, 19, 20, 21, 22, 23, 24, 25, 26, 27, 28, 29, 30, 31, 32, 33] rfl rfl rfl rfl rfl hl.1 rfl (Nat.le_of_ble_eq_true rfl) ⟨Nat.le_refl 0, Nat.le_refl 0⟩ rfl dX9_visits_54 (fun H locs hH => ?_)
            refine lv_aload_n hx hb dX9_visits_57 rfl (lv_at hl 0 rfl) ?_
            refine lv_iload_n hx hb dX9_visits_58 rfl (lv_at hl 1 rfl) ?_
            obtain ⟨o7, ho7, h⟩ := bd_x h
            refine r_V X hH (ws1 := (wX9 g a i o6)) (As := [.int pa]) (rest := []) (st1 := [.int o7]) (uX9_reach (a := a) (i := i) ho7) kX9_reach mX9_233 iX9_reach vX9_reach zX9 okX9_reach ⟨Nat.le_of_ble_eq_true rfl, Nat.le_of_ble_eq_true rfl⟩ rfl rfl (q0 := 0) rfl rfl [0, 1, 2, 3, 4, 5, 6, 7, 8, 9, 10, 11, 12, 13, 14, 15, 16, 17, 18, 19, 20, 21, 22, 23, 24, 25, 26, 27, 28, 29, 30, 31, 32, 33] rfl rfl rfl (putl_self _ _ rfl) rfl hl.1 rfl (Nat.le_of_ble_eq_true rfl) ⟨Nat.le_refl 0, Nat.le_refl 0⟩ rfl dX9_visits_59 (fun H locs hH => ?_)
            refine lv_iload_n hx hb dX9_visits_62 rfl (lv_at hl 2 rfl) ?_
            obtain ⟨o8, ho8, h⟩ := bd_x h
            refine r_S X hH (ws1 := (wX9 g a i o6)) (As := [.int o7, .int pb]) (rest := []) (st1 := [.int o8]) (uX9_has  ho8) kX9_has mX9_226 sX9_has zX9 okX9_has ⟨Nat.le_of_ble_eq_true rfl, Nat.le_of_ble_eq_true rfl⟩ rfl rfl [] rfl rfl rfl (putl_self _ _ rfl) rfl hl.1 rfl (Nat.le_of_ble_eq_true rfl) ⟨Nat.le_refl 0, Nat.le_refl 0⟩ rfl dX9_visits_63 (fun H locs hH => ?_)
            refine lv_if_ne (tgt := 76) hx hb dX9_visits_66 (by decide) (fun c6 => ?_) (fun c6 => ?_)
            · have h := ie_x h c6
              refine lv_aload_n hx hb dX9_visits_76 rfl (lv_at hl 0 rfl) ?_
              refine lv_iload_n hx hb dX9_visits_77 rfl (lv_at hl 2 rfl) ?_
              obtain ⟨o9, ho9, h⟩ := bd_x h
              refine r_V X hH (ws1 := (wX9 g a i o9)) (As := [.int pb]) (rest := []) (st1 := []) (uX9_findDown (a := a) (i := i) ho9) kX9_findDown mX9_296 iX9_findDown vX9_findDown zX9 okX9_findDown ⟨Nat.le_of_ble_eq_true rfl, Nat.le_of_ble_eq_true rfl⟩ rfl rfl (q0 := 0) rfl rfl [0, 1, 2, 3, 4, 5, 6, 7, 8, 9, 10, 11, 12, 13, 14, 15, 16, 17, 18, 19, 20, 21, 22, 23, 24, 25, 26, 27, 28, 29, 30, 31, 32, 33] rfl rfl rfl rfl rfl hl.1 rfl (Nat.le_of_ble_eq_true rfl) ⟨Nat.le_refl 0, Nat.le_refl 0⟩ rfl dX9_visits_78 (fun H locs hH => ?_)
              refine lv_aload_n hx hb dX9_visits_81 rfl (lv_at hl 0 rfl) ?_
              refine lv_iload_n hx hb dX9_visits_82 rfl (lv_at hl 1 rfl) ?_
              refine lv_iload_n hx hb dX9_visits_83 rfl (lv_at hl 2 rfl) ?_
              refine lv_iload_n hx hb dX9_visits_84 rfl (lv_at hl 3 rfl) ?_
              obtain ⟨o10, ho10, h⟩ := bd_x h
              refine r_V X hH (ws1 := (wX9 g a i o10.2)) (As := [.int pa, .int pb, .int pc_]) (rest := []) (st1 := [.long o10.1]) (uX9_share (a := a) (i := i) ho10) kX9_share mX9_299 iX9_share vX9_share zX9 okX9_share ⟨Nat.le_of_ble_eq_true rfl, Nat.le_of_ble_eq_true rfl⟩ rfl rfl (q0 := 0) rfl rfl [0, 1, 2, 3, 4, 5, 6, 7, 8, 9, 10, 11, 12, 13, 14, 15, 16, 17, 18, 19, 20, 21, 22, 23, 24, 25, 26, 27, 28, 29, 30, 31, 32, 33] rfl rfl rfl rfl rfl hl.1 rfl (Nat.le_of_ble_eq_true rfl) ⟨Nat.le_refl 0, Nat.le_refl 0⟩ rfl dX9_visits_85 (fun H locs hH => ?_)
              refine lv_aload_n hx hb dX9_visits_88 rfl (lv_at hl 0 rfl) ?_
              refine lv_iload_n hx hb dX9_visits_89 rfl (lv_at hl 3 rfl) ?_
              obtain ⟨o11, ho11, h⟩ := bd_x h
              refine r_V X hH (ws1 := (wX9 g a i o10.2)) (As := [.int pc_]) (rest := [.long o10.1]) (st1 := [.int o11, .long o10.1]) (uX9_weightsAt (a := a) (i := i) ho11) kX9_weightsAt mX9_239 iX9_weightsAt vX9_weightsAt zX9 okX9_weightsAt ⟨Nat.le_of_ble_eq_true rfl, Nat.le_of_ble_eq_true rfl⟩ rfl rfl (q0 := 0) rfl rfl [0, 1, 2, 3, 4, 5, 6, 7, 8, 9, 10, 11, 12, 13, 14, 15, 16, 17, 18, 19, 20, 21, 22, 23, 24, 25, 26, 27, 28, 29, 30, 31, 32, 33] rfl rfl rfl (putl_self _ _ rfl) rfl hl.1 rfl (Nat.le_of_ble_eq_true rfl) ⟨Nat.le_refl 0, Nat.le_refl 0⟩ rfl dX9_visits_90 (fun H locs hH => ?_)
              refine lv_i2l hx hb dX9_visits_93 rfl ?_
              refine lv_lmul hx hb dX9_visits_94 ?_
              refine lv_aload_n hx hb dX9_visits_95 rfl (lv_at hl 0 rfl) ?_
              refine f_get X hH 0 rfl rfl 27 (by decide) inX9 fX9_252 rfl dX9_visits_96 ?_
              refine lv_iload hx hb dX9_visits_99 (lv_at hl 4 rfl) ?_
              obtain ⟨o12, ho12, h⟩ := bd_x h
              refine r_S X hH (ws1 := (wX9 g a i o10.2)) (As := [.long (o10.1 * (o11.toInt64)), .long (m_down o10.2), .int pd]) (rest := []) (st1 := [.long o12]) (uX9_partOf  ho12) kX9_partOf mX9_279 sX9_partOf zX9 okX9_partOf ⟨Nat.le_of_ble_eq_true rfl, Nat.le_of_ble_eq_true rfl⟩ rfl rfl [] rfl rfl rfl (putl_self _ _ rfl) rfl hl.1 rfl (Nat.le_of_ble_eq_true rfl) ⟨Nat.le_refl 0, Nat.le_refl 0⟩ rfl dX9_visits_101 (fun H locs hH => ?_)
              cases h
              exact e_l X hH dX9_visits_104
            · have h := it_x h c6
              refine lv_aload_n hx hb dX9_visits_69 rfl (lv_at hl 0 rfl) ?_
              refine lv_bipush (v := (-3 : Int32)) hx hb dX9_visits_70 (by decide) ?_
              obtain ⟨o13, ho13, h⟩ := bd_x h
              refine r_V X hH (ws1 := (wX9 g a i o13.2)) (As := [.int (-3 : Int32)]) (rest := []) (st1 := [.long o13.1]) (uX9_far (a := a) (i := i) ho13) kX9_far mX9_272 iX9_far vX9_far zX9 okX9_far ⟨Nat.le_of_ble_eq_true rfl, Nat.le_of_ble_eq_true rfl⟩ rfl rfl (q0 := 0) rfl rfl [0, 1, 2, 3, 4, 5, 6, 7, 8, 9, 10, 11, 12, 13, 14, 15, 16, 17, 18, 19, 20, 21, 22, 23, 24, 25, 26, 27, 28, 29, 30, 31, 32, 33] rfl rfl rfl rfl rfl hl.1 rfl (Nat.le_of_ble_eq_true rfl) ⟨Nat.le_refl 0, Nat.le_refl 0⟩ rfl dX9_visits_72 (fun H locs hH => ?_)
              cases h
              exact e_l X hH dX9_visits_75
          · have h := it_x h c5
            refine lv_aload_n hx hb dX9_visits_46 rfl (lv_at hl 0 rfl) ?_
            refine lv_bipush (v := (-2 : Int32)) hx hb dX9_visits_47 (by decide) ?_
            obtain ⟨o14, ho14, h⟩ := bd_x h
            refine r_V X hH (ws1 := (wX9 g a i o14.2)) (As := [.int (-2 : Int32)]) (rest := []) (st1 := [.long o14.1]) (uX9_far (a := a) (i := i) ho14) kX9_far mX9_272 iX9_far vX9_far zX9 okX9_far ⟨Nat.le_of_ble_eq_true rfl, Nat.le_of_ble_eq_true rfl⟩ rfl rfl (q0 := 0) rfl rfl [0, 1, 2, 3, 4, 5, 6, 7, 8, 9, 10, 11, 12, 13, 14, 15, 16, 17, 18, 19, 20, 21, 22, 23, 24, 25, 26, 27, 28, 29, 30, 31, 32, 33] rfl rfl rfl rfl rfl hl.1 rfl (Nat.le_of_ble_eq_true rfl) ⟨Nat.le_refl 0, Nat.le_refl 0⟩ rfl dX9_visits_49 (fun H locs hH => ?_)
            cases h
            exact e_l X hH dX9_visits_52
        · have h := it_x h c4
          exact pX9_visits_29 X  xs H locs ls h hH (lv_sub hl [0, 1, 2, 3, 4] rfl)
