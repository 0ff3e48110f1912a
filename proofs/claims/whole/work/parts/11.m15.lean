def qX9_row_26 (pa : Int32)  (xs : SX9) : Option (Int32 × SX9) :=
  (fX9_no xs (-6 : Int32)).bind fun o1 =>
  some (o1.1, o1.2)
def fX9_row (xs : SX9) (pa : Int32) : Option (Int32 × SX9) :=
  (if (0 : Int32) ≤ pa then
  (if (99 : Int32) < pa then
  qX9_row_26 pa xs
  else
  (if (m_rowMany xs) = (10 : Int32) then
  qX9_row_26 pa xs
  else
  ga 10 (m_rowMany xs) fun j1 =>
  ltt ((m_row_s xs (upd (m_row xs) j1 pa))) fun xs1 =>
  ltt ((m_rowMany_s xs1 ((m_rowMany xs1) + (1 : Int32)))) fun xs2 =>
  some ((m_rowMany xs2), xs2)))
  else
  (fX9_no xs (-4 : Int32)).bind fun o2 =>
  some (o2.1, o2.2))
set_option maxHeartbeats 4000000 in
set_option maxRecDepth 100000 in
theorem pX9_row_26 {p : Program} {l : Launch} {e : Env} {s : State} {m : MethodId} {args : Array Value} {below : List Frame} {meth : Method} {c : Code} {g : GG} {w0 : va_W} {a : Nat → Nat} {i : Nat} {pa : Int32} {o : (Int32 × SX9)} (X : mX g yX9_row cX9_row 2 (some .int) p s m args meth c w0) :
  ∀ (xs : SX9) (H : Heap) (locs : List Loc) (ls : Array Slot), qX9_row_26 pa xs = some o → mH g s w0 (wX9 g a i xs) H locs → lv_has ls 2 [(0, .ref (a i)), (1, .int pa)] → W p l e (rM 1 21) s m args below meth c H locs 0 0 (mZ g below args s w0 (wX9 g a i o.2) (some (.int o.1))) (F0 m 26 ls []) := by
  have hx := X.1
  have hb := X.2.1
  intro xs H locs ls h hH hl
  unfold qX9_row_26 at h
  refine lv_aload_n hx hb dX9_row_26 rfl (lv_at hl 0 rfl) ?_
  refine lv_bipush (v := (-6 : Int32)) hx hb dX9_row_27 (by decide) ?_
  obtain ⟨o1, ho1, h⟩ := bd_x h
  refine r_V X hH (ws1 := (wX9 g a i o1.2)) (As := [.int (-6 : Int32)]) (rest := []) (st1 := [.int o1.1]) (uX9_no (a := a) (i := i) ho1) kX9_no mX9_125 iX9_no vX9_no zX9 okX9_no ⟨Nat.le_of_ble_eq_true rfl, Nat.le_of_ble_eq_true rfl⟩ rfl rfl (q0 := 0) rfl rfl [0, 1, 2, 3, 4, 5, 6, 7, 8, 9, 10, 11, 12, 13, 14, 15, 16, 17, 18, 19, 20, 21, 22, 23, 24, 25, 26, 27, 28, 29, 30, 31, 32, 33] rfl rfl rfl rfl rfl hl.1 rfl (Nat.le_of_ble_eq_true rfl) ⟨Nat.le_refl 0, Nat.le_refl 0⟩ rfl dX9_row_29 (fun H locs hH => ?_)
  cases h
  exact e_i X hH dX9_row_32
set_option maxHeartbeats 4000000 in
set_option maxRecDepth 100000 in
theorem uX9_row {l : Launch} {g : GG} {a : Nat → Nat} {i : Nat} {xs : SX9} {pa : Int32} {o : (Int32 × SX9)} (h : fX9_row xs pa = some o) : mC l g yX9_row cX9_row 2 (some .int) (rM 1 21) [.ref (a i), .int pa] (wX9 g a i xs) (wX9 g a i o.2) (some (.int o.1)) := by
  refine mC.ofW (by decide) (fun p e s m below meth c X hH ls _ hl => ?_) (Nat.le_of_ble_eq_true rfl)
  have hx := X.1
  have hb := X.2.1
  have hl : lv_has ls 2 [(0, .ref (a i)), (1, .int pa)] := hl
  unfold fX9_row at h
  suffices HH : ∀ (H : Heap) (locs : List Loc), mH g s (wX9 g a i xs) (wX9 g a i xs) H locs → W p l e (rM 1 21) s m _ below meth c H locs 0 0 (mZ g below _ s (wX9 g a i xs) (wX9 g a i o.2) (some (.int o.1))) (F0 m 0 ls []) from HH _ _ hH
  clear hH
  intro H locs hH
  refine lv_iload_n hx hb dX9_row_0 rfl (lv_at hl 1 rfl) ?_
  refine lv_if_ge (tgt := 11) hx hb dX9_row_1 (by decide) (fun c1 => ?_) (fun c1 => ?_)
  · have h := it_x h c1
    refine lv_iload_n hx hb dX9_row_11 rfl (lv_at hl 1 rfl) ?_
    refine lv_bipush (v := (99 : Int32)) hx hb dX9_row_12 (by decide) ?_
    refine lv_icmp_gt (tgt := 26) hx hb dX9_row_14 (by decide) (fun c2 => ?_) (fun c2 => ?_)
    · have h := it_x h c2
      exact pX9_row_26 X  xs H locs ls h hH (lv_sub hl [0, 1] rfl)
    · have h := ie_x h c2
      refine lv_aload_n hx hb dX9_row_17 rfl (lv_at hl 0 rfl) ?_
      refine f_get X hH 0 rfl rfl 41 (by decide) inX9 fX9_358 rfl dX9_row_18 ?_
      refine lv_bipush (v := (10 : Int32)) hx hb dX9_row_21 (by decide) ?_
      refine lv_icmp_ne (tgt := 33) hx hb dX9_row_23 (by decide) (fun c3 => ?_) (fun c3 => ?_)
      · have h := ie_x h c3
        refine lv_aload_n hx hb dX9_row_33 rfl (lv_at hl 0 rfl) ?_
        refine f_get X hH 0 rfl rfl 40 (by decide) inX9 fX9_95 rfl dX9_row_34 ?_
        refine lv_aload_n hx hb dX9_row_37 rfl (lv_at hl 0 rfl) ?_
        refine f_get X hH 0 rfl rfl 41 (by decide) inX9 fX9_358 rfl dX9_row_38 ?_
        refine lv_iload_n hx hb dX9_row_41 rfl (lv_at hl 1 rfl) ?_
        obtain ⟨j1, ej1, hinj1, h⟩ := ga_x h
        obtain ⟨xs1, exs1, h⟩ := ltt_x h
        refine a_is X hH (ws1 := (wX9 g a i xs1)) 27 rfl hinj1 ej1 (by rw [exs1]; rfl) dX9_row_42 (fun H locs hH => ?_)
        refine lv_aload_n hx hb dX9_row_43 rfl (lv_at hl 0 rfl) ?_
        refine lv_dup hx hb dX9_row_44 rfl ?_
        refine f_get X hH 0 rfl rfl 41 (by decide) inX9 fX9_358 rfl dX9_row_45 ?_
        refine lv_iconst (v := (1 : Int32)) hx hb dX9_row_48 (by decide) ?_
        refine lv_iadd hx hb dX9_row_49 ?_
        obtain ⟨xs2, exs2, h⟩ := ltt_x h
        refine f_put X hH (ws1 := (wX9 g a i xs2)) 0 rfl rfl 41 (by decide) inX9 tyX9 tyX9_ok nmX9 fX9_358 rfl rfl rfl (Nat.le_of_ble_eq_true rfl) (by rw [exs2]; rfl) dX9_row_50 (fun H locs hH => ?_)
        refine lv_aload_n hx hb dX9_row_53 rfl (lv_at hl 0 rfl) ?_
        refine f_get X hH 0 rfl rfl 41 (by decide) inX9 fX9_358 rfl dX9_row_54 ?_
        cases h
        exact e_i X hH dX9_row_57
      · have h := it_x h c3
        exact pX9_row_26 X  xs H locs ls h hH (lv_sub hl [0, 1] rfl)
  · have h := ie_x h c1
    refine lv_aload_n hx hb dX9_row_4 rfl (lv_at hl 0 rfl) ?_
    refine lv_bipush (v := (-4 : Int32)) hx hb dX9_row_5 (by decide) ?_
    obtain ⟨o2, ho2, h⟩ := bd_x h
    refine r_V X hH (ws1 := (wX9 g a i o2.2)) (As := [.int (-4 : Int32)]) (rest := []) (st1 := [.int o2.1]) (uX9_no (a := a) (i := i) ho2) kX9_no mX9_125 iX9_no vX9_no zX9 okX9_no ⟨Nat.le_of_ble_eq_true rfl, Nat.le_of_ble_eq_true rfl⟩ rfl rfl (q0 := 0) rfl rfl [0, 1, 2, 3, 4, 5, 6, 7, 8, 9, 10, 11, 12, 13, 14, 15, 16, 17, 18, 19, 20, 21, 22, 23, 24, 25, 26, 27, 28, 29, 30, 31, 32, 33] rfl rfl rfl rfl rfl hl.1 rfl (Nat.le_of_ble_eq_true rfl) ⟨Nat.le_refl 0, Nat.le_refl 0⟩ rfl dX9_row_7 (fun H locs hH => ?_)
    cases h
    exact e_i X hH dX9_row_10

def fX9_clear (xs : SX9) : Option (Int32 × SX9) :=
  ltt ((m_rowMany xs)) fun v1 =>
  ltt ((m_rowMany_s xs (0 : Int32))) fun xs1 =>
  some (v1, xs1)
set_option maxHeartbeats 4000000 in
set_option maxRecDepth 100000 in
theorem uX9_clear {l : Launch} {g : GG} {a : Nat → Nat} {i : Nat} {xs : SX9} {o : (Int32 × SX9)} (h : fX9_clear xs = some o) : mC l g yX9_clear cX9_clear 2 (some .int) (rM 0 0) [.ref (a i)] (wX9 g a i xs) (wX9 g a i o.2) (some (.int o.1)) := by
  refine mC.ofW (by decide) (fun p e s m below meth c X hH ls _ hl => ?_) (Nat.le_of_ble_eq_true rfl)
  have hx := X.1
  have hb := X.2.1
  have hl : lv_has ls 2 [(0, .ref (a i))] := hl
  unfold fX9_clear at h
  suffices HH : ∀ (H : Heap) (locs : List Loc), mH g s (wX9 g a i xs) (wX9 g a i xs) H locs → W p l e (rM 0 0) s m _ below meth c H locs 0 0 (mZ g below _ s (wX9 g a i xs) (wX9 g a i o.2) (some (.int o.1))) (F0 m 0 ls []) from HH _ _ hH
  clear hH
  intro H locs hH
  refine lv_aload_n hx hb dX9_clear_0 rfl (lv_at hl 0 rfl) ?_
  refine f_get X hH 0 rfl rfl 41 (by decide) inX9 fX9_358 rfl dX9_clear_1 ?_
  obtain ⟨v1, ev1, h⟩ := ltt_x h
  refine s_in X (lv' := [(1, .int v1), (0, .ref (a i))]) hl ev1 dX9_clear_4 rfl (by decide) rfl (fun ls hl => ?_)
  refine lv_aload_n hx hb dX9_clear_5 rfl (lv_at hl 1 rfl) ?_
  refine lv_iconst (v := (0 : Int32)) hx hb dX9_clear_6 (by decide) ?_
  obtain ⟨xs1, exs1, h⟩ := ltt_x h
  refine f_put X hH (ws1 := (wX9 g a i xs1)) 0 rfl rfl 41 (by decide) inX9 tyX9 tyX9_ok nmX9 fX9_358 rfl rfl rfl (Nat.le_of_ble_eq_true rfl) (by rw [exs1]; rfl) dX9_clear_7 (fun H locs hH => ?_)
  refine lv_iload_n hx hb dX9_clear_10 rfl (lv_at hl 0 rfl) ?_
  cases h
  exact e_i X hH dX9_clear_11

def qX9_isSo_2 (xs : SX9) (pa : Int32) (pb : Int32)  : Nat → Int32 → Option Int32
  | 0, _ => none
  | fu + 1, l3 =>
  (if (m_rowMany xs) ≤ l3 then
  some (1 : Int32)
  else
  (fX9_weightBy pa pb (l3 + (1 : Int32))).bind fun o1 =>
  ga 10 l3 fun j1 =>
  (if o1 = ((m_row xs) j1) then
  ltt (l3 + (1 : Int32)) fun v1 =>
  qX9_isSo_2 xs pa pb  fu v1
  else
  some (0 : Int32)))
def fX9_isSo (xs : SX9) (pa : Int32) (pb : Int32) : Option Int32 :=
  qX9_isSo_2 xs pa pb FU (0 : Int32)
set_option maxHeartbeats 4000000 in
set_option maxRecDepth 100000 in
theorem pX9_isSo_2 {p : Program} {l : Launch} {e : Env} {s : State} {m : MethodId} {args : Array Value} {below : List Frame} {meth : Method} {c : Code} {g : GG} {w0 : va_W} {a : Nat → Nat} {i : Nat} {xs : SX9} {pa : Int32} {pb : Int32} {o : Int32} (X : mX g yX9_isSo cX9_isSo 4 (some .boolean) p s m args meth c w0) :
  ∀ (fu : Nat) (l3 : Int32) (H : Heap) (locs : List Loc) (ls : Array Slot), qX9_isSo_2 xs pa pb fu l3 = some o → mH g s w0 (wX9 g a i xs) H locs → lv_has ls 4 [(0, .ref (a i)), (1, .int pa), (2, .int pb), (3, .int l3)] → W p l e (rM 1 22) s m args below meth c H locs 0 0 (mZ g below args s w0 (wX9 g a i xs) (some (.int o))) (F0 m 2 ls []) := by
  have hx := X.1
  have hb := X.2.1
  intro fu
  induction fu with
  | zero =>
    intro l3 H locs ls h
    unfold qX9_isSo_2 at h
    cases h
  | succ fu ih =>
    intro l3 H locs ls h hH hl
    unfold qX9_isSo_2 at h
    refine lv_iload_n hx hb dX9_isSo_2 rfl (lv_at hl 3 rfl) ?_
    refine lv_aload_n hx hb dX9_isSo_3 rfl (lv_at hl 0 rfl) ?_
    refine f_get X hH 0 rfl rfl 41 (by decide) inX9 fX9_358 rfl dX9_isSo_4 ?_
    refine lv_icmp_ge (tgt := 35) hx hb dX9_isSo_7 (by decide) (fun c1 => ?_) (fun c1 => ?_)
    · have h := it_x h c1
      refine lv_iconst (v := (1 : Int32)) hx hb dX9_isSo_35 (by decide) ?_
      cases h
      exact e_z X hH (by decide) dX9_isSo_36
    · have h := ie_x h c1
      refine lv_iload_n hx hb dX9_isSo_10 rfl (lv_at hl 1 rfl) ?_
      refine lv_iload_n hx hb dX9_isSo_11 rfl (lv_at hl 2 rfl) ?_
      refine lv_iload_n hx hb dX9_isSo_12 rfl (lv_at hl 3 rfl) ?_
      refine lv_iconst (v := (1 : Int32)) hx hb dX9_isSo_13 (by decide) ?_
      refine lv_iadd hx hb dX9_isSo_14 ?_
      obtain ⟨o1, ho1, h⟩ := bd_x h
      refine r_S X hH (ws1 := (wX9 g a i xs)) (As := [.int pa, .int pb, .int (l3 + (1 : Int32))]) (rest := []) (st1 := [.int o1]) (uX9_weightBy  ho1) kX9_weightBy mX9_129 sX9_weightBy zX9 okX9_weightBy ⟨Nat.le_of_ble_eq_true rfl, Nat.le_of_ble_eq_true rfl⟩ rfl rfl [] rfl rfl rfl (putl_self _ _ rfl) rfl hl.1 rfl (Nat.le_of_ble_eq_true rfl) ⟨Nat.le_refl 0, Nat.le_refl 0⟩ rfl dX9_isSo_15 (fun H locs hH => ?_)
      refine lv_aload_n hx hb dX9_isSo_18 rfl (lv_at hl 0 rfl) ?_
      refine f_get X hH 0 rfl rfl 40 (by decide) inX9 fX9_95 rfl dX9_isSo_19 ?_
      refine lv_iload_n hx hb dX9_isSo_22 rfl (lv_at hl 3 rfl) ?_
      obtain ⟨j1, ej1, hinj1, h⟩ := ga_x h
      refine a_il X hH 27 rfl hinj1 ej1 dX9_isSo_23 ?_
      refine lv_icmp_eq (tgt := 29) hx hb dX9_isSo_24 (by decide) (fun c2 => ?_) (fun c2 => ?_)
      · have h := it_x h c2
        obtain ⟨v1, ev1, h⟩ := ltt_x h
        refine s_inc X (k := 3) (lv' := [(3, .int v1), (0, .ref (a i)), (1, .int pa), (2, .int pb)]) hl rfl (by rw [ev1]; rfl) dX9_isSo_29 (by decide) rfl (fun ls hl => ?_)
        refine lv_goto (tgt := 2) hx hb dX9_isSo_32 (by decide) ?_
        exact ih v1 H locs ls h hH (lv_sub hl [1, 2, 3, 0] rfl)
      · have h := ie_x h c2
        refine lv_iconst (v := (0 : Int32)) hx hb dX9_isSo_27 (by decide) ?_
        cases h
        exact e_z X hH (by decide) dX9_isSo_28
set_option maxHeartbeats 4000000 in
set_option maxRecDepth 100000 in
theorem uX9_isSo {l : Launch} {g : GG} {a : Nat → Nat} {i : Nat} {xs : SX9} {pa : Int32} {pb : Int32} {o : Int32} (h : fX9_isSo xs pa pb = some o) : mC l g yX9_isSo cX9_isSo 4 (some .boolean) (rM 1 22) [.ref (a i), .int pa, .int pb] (wX9 g a i xs) (wX9 g a i xs) (some (.int o)) := by
  refine mC.ofW (by decide) (fun p e s m below meth c X hH ls _ hl => ?_) (Nat.le_of_ble_eq_true rfl)
  have hx := X.1
  have hb := X.2.1
  have hl : lv_has ls 4 [(0, .ref (a i)), (1, .int pa), (2, .int pb)] := hl
  unfold fX9_isSo at h
  suffices HH : ∀ (H : Heap) (locs : List Loc), mH g s (wX9 g a i xs) (wX9 g a i xs) H locs → W p l e (rM 1 22) s m _ below meth c H locs 0 0 (mZ g below _ s (wX9 g a i xs) (wX9 g a i xs) (some (.int o))) (F0 m 0 ls []) from HH _ _ hH
  clear hH
  intro H locs hH
  refine lv_iconst (v := (0 : Int32)) hx hb dX9_isSo_0 (by decide) ?_
  refine s_in X (lv' := [(3, .int (0 : Int32)), (0, .ref (a i)), (1, .int pa), (2, .int pb)]) hl rfl dX9_isSo_1 rfl (by decide) rfl (fun ls hl => ?_)
  exact pX9_isSo_2 X FU (0 : Int32) H locs ls h hH (lv_sub hl [1, 2, 3, 0] rfl)

def qX9_whatIs_97 (pa : Int32) (pb : Int32) (k98 : SX9 → Int32 → Int32 → Int32 → Option (Int32 × SX9)) (xs : SX9) (l4 : Int32) (t0 : Int32) : Option (Int32 × SX9) :=
  k98 xs l4 t0 (0 : Int32)
def qX9_whatIs_98 (pa : Int32) (pb : Int32) (k36 : SX9 → Int32 → Int32 → Option (Int32 × SX9)) (xs : SX9) (l4 : Int32) (t0 : Int32) (t1 : Int32) : Option (Int32 × SX9) :=
  ltt ((t0 ||| t1)) fun v1 =>
  ltt (l4 + (1 : Int32)) fun v2 =>
  k36 xs v1 v2
def qX9_whatIs_90 (pa : Int32) (pb : Int32) (k98 : SX9 → Int32 → Int32 → Int32 → Option (Int32 × SX9)) (xs : SX9) (l4 : Int32) (t0 : Int32) : Option (Int32 × SX9) :=
  k98 xs l4 t0 ((1 : Int32) <<< (l4 &&& 31))
def qX9_whatIs_49 (pa : Int32) (pb : Int32) (k36 : SX9 → Int32 → Int32 → Option (Int32 × SX9)) (xs : SX9) (l3 : Int32) (l4 : Int32) (t0 : Int32) (t1 : Int32) : Option (Int32 × SX9) :=
  (if t1 ≤ t0 then
  some (l3, xs)
  else
  (if pb = (0 : Int32) then
  ga 11 pa fun j2 =>
  (fX9_isSo xs l4 ((m_figure xs) j2)).bind fun o4 =>
  (if o4 = (0 : Int32) then
  qX9_whatIs_97 pa pb (qX9_whatIs_98 pa pb k36) xs l4 l3
  else
  qX9_whatIs_90 pa pb (qX9_whatIs_98 pa pb k36) xs l4 l3)
  else
  ga 11 pa fun j1 =>
  (fX9_isSo xs ((m_kind xs) j1) l4).bind fun o3 =>
  (if o3 = (0 : Int32) then
  qX9_whatIs_97 pa pb (qX9_whatIs_98 pa pb k36) xs l4 l3
  else
  qX9_whatIs_90 pa pb (qX9_whatIs_98 pa pb k36) xs l4 l3)))
def qX9_whatIs_36 (pa : Int32) (pb : Int32)  : Nat → SX9 → Int32 → Int32 → Option (Int32 × SX9)
  | 0, _, _, _ => none
  | fu + 1, xs, l3, l4 =>
  (if pb = (0 : Int32) then
  qX9_whatIs_49 pa pb (qX9_whatIs_36 pa pb  fu) xs l3 l4 l4 (6 : Int32)
  else
  qX9_whatIs_49 pa pb (qX9_whatIs_36 pa pb  fu) xs l3 l4 l4 (10 : Int32))
def fX9_whatIs (xs : SX9) (pa : Int32) (pb : Int32) : Option (Int32 × SX9) :=
  (fX9_isWay xs pa).bind fun o1 =>
  (if o1 = (0 : Int32) then
  (fX9_no xs (-1 : Int32)).bind fun o6 =>
  some (o6.1, o6.2)
  else
  (fX9_isIn (pb.toInt64) (0 : Int64) (1 : Int64)).bind fun o2 =>
  (if o2 = (0 : Int32) then
  (fX9_no xs (-2 : Int32)).bind fun o5 =>
  some (o5.1, o5.2)
  else
  qX9_whatIs_36 pa pb FU xs (0 : Int32) (0 : Int32)))
set_option maxHeartbeats 4000000 in
set_option maxRecDepth 100000 in
theorem pX9_whatIs_97 {p : Program} {l : Launch} {e : Env} {s : State} {m : MethodId} {args : Array Value} {below : List Frame} {meth : Method} {c : Code} {g : GG} {w0 : va_W} {a : Nat → Nat} {i : Nat} {pa : Int32} {pb : Int32} {o : (Int32 × SX9)} (X : mX g yX9_whatIs cX9_whatIs 5 (some .int) p s m args meth c w0)
  {k98 : SX9 → Int32 → Int32 → Int32 → Option (Int32 × SX9)} (K98 : ∀ (xs : SX9) (l4 : Int32) (t0 : Int32) (t1 : Int32) (H : Heap) (locs : List Loc) (ls : Array Slot), k98 xs l4 t0 t1 = some o → mH g s w0 (wX9 g a i xs) H locs → lv_has ls 5 [(0, .ref (a i)), (1, .int pa), (2, .int pb), (4, .int l4)] → W p l e (rM 2 46) s m args below meth c H locs 0 0 (mZ g below args s w0 (wX9 g a i o.2) (some (.int o.1))) (F0 m 98 ls [.int t1, .int t0])) :
  ∀ (xs : SX9) (l4 : Int32) (t0 : Int32) (H : Heap) (locs : List Loc) (ls : Array Slot), qX9_whatIs_97 pa pb k98 xs l4 t0 = some o → mH g s w0 (wX9 g a i xs) H locs → lv_has ls 5 [(0, .ref (a i)), (1, .int pa), (2, .int pb), (4, .int l4)] → W p l e (rM 2 46) s m args below meth c H locs 0 0 (mZ g below args s w0 (wX9 g a i o.2) (some (.int o.1))) (F0 m 97 ls [.int t0]) := by
  have hx := X.1
  have hb := X.2.1
  intro xs l4 t0 H locs ls h hH hl
  unfold qX9_whatIs_97 at h
  refine lv_iconst (v := (0 : Int32)) hx hb dX9_whatIs_97 (by decide) ?_
  exact K98 xs l4 t0 (0 : Int32) H locs ls h hH (lv_sub hl [0, 1, 2, 3] rfl)
set_option maxHeartbeats 4000000 in
set_option maxRecDepth 100000 in
theorem pX9_whatIs_98 {p : Program} {l : Launch} {e : Env} {s : State} {m : MethodId} {args : Array Value} {below : List Frame} {meth : Method} {c : Code} {g : GG} {w0 : va_W} {a : Nat → Nat} {i : Nat} {pa : Int32} {pb : Int32} {o : (Int32 × SX9)} (X : mX g yX9_whatIs cX9_whatIs 5 (some .int) p s m args meth c w0)
  {k36 : SX9 → Int32 → Int32 → Option (Int32 × SX9)} (K36 : ∀ (xs : SX9) (l3 : Int32) (l4 : Int32) (H : Heap) (locs : List Loc) (ls : Array Slot), k36 xs l3 l4 = some o → mH g s w0 (wX9 g a i xs) H locs → lv_has ls 5 [(0, .ref (a i)), (1, .int pa), (2, .int pb), (3, .int l3), (4, .int l4)] → W p l e (rM 2 46) s m args below meth c H locs 0 0 (mZ g below args s w0 (wX9 g a i o.2) (some (.int o.1))) (F0 m 36 ls [])) :
  ∀ (xs : SX9) (l4 : Int32) (t0 : Int32) (t1 : Int32) (H : Heap) (locs : List Loc) (ls : Array Slot), qX9_whatIs_98 pa pb k36 xs l4 t0 t1 = some o → mH g s w0 (wX9 g a i xs) H locs → lv_has ls 5 [(0, .ref (a i)), (1, .int pa), (2, .int pb), (4, .int l4)] → W p l e (rM 2 46) s m args below meth c H locs 0 0 (mZ g below args s w0 (wX9 g a i o.2) (some (.int o.1))) (F0 m 98 ls [.int t1, .int t0]) := by
  have hx := X.1
  have hb := X.2.1
  intro xs l4 t0 t1 H locs ls h hH hl
  unfold qX9_whatIs_98 at h
  refine lv_ior hx hb dX9_whatIs_98 ?_
  obtain ⟨v1, ev1, h⟩ := ltt_x h
  refine s_in X (lv' := [(3, .int v1), (0, .ref (a i)), (1, .int pa), (2, .int pb), (4, .int l4)]) hl ev1 dX9_whatIs_99 rfl (by decide) rfl (fun ls hl => ?_)
  obtain ⟨v2, ev2, h⟩ := ltt_x h
  refine s_inc X (k := 4) (lv' := [(4, .int v2), (3, .int v1), (0, .ref (a i)), (1, .int pa), (2, .int pb)]) hl rfl (by rw [ev2]; rfl) dX9_whatIs_100 (by decide) rfl (fun ls hl => ?_)
  refine lv_goto (tgt := 36) hx hb dX9_whatIs_103 (by decide) ?_
  exact K36 xs v1 v2 H locs ls h hH (lv_sub hl [2, 3, 4, 1, 0] rfl)
set_option maxHeartbeats 4000000 in
set_option maxRecDepth 100000 in
theorem pX9_whatIs_90 {p : Program} {l : Launch} {e : Env} {s : State} {m : MethodId} {args : Array Value} {below : List Frame} {meth : Method} {c : Code} {g : GG} {w0 : va_W} {a : Nat → Nat} {i : Nat} {pa : Int32} {pb : Int32} {o : (Int32 × SX9)} (X : mX g yX9_whatIs cX9_whatIs 5 (some .int) p s m args meth c w0)
  {k98 : SX9 → Int32 → Int32 → Int32 → Option (Int32 × SX9)} (K98 : ∀ (xs : SX9) (l4 : Int32) (t0 : Int32) (t1 : Int32) (H : Heap) (locs : List Loc) (ls : Array Slot), k98 xs l4 t0 t1 = some o → mH g s w0 (wX9 g a i xs) H locs → lv_has ls 5 [(0, .ref (a i)), (1, .int pa), (2, .int pb), (4, .int l4)] → W p l e (rM 2 46) s m args below meth c H locs 0 0 (mZ g below args s w0 (wX9 g a i o.2) (some (.int o.1))) (F0 m 98 ls [.int t1, .int t0])) :
  ∀ (xs : SX9) (l4 : Int32) (t0 : Int32) (H : Heap) (locs : List Loc) (ls : Array Slot), qX9_whatIs_90 pa pb k98 xs l4 t0 = some o → mH g s w0 (wX9 g a i xs) H locs → lv_has ls 5 [(0, .ref (a i)), (1, .int pa), (2, .int pb), (4, .int l4)] → W p l e (rM 2 46) s m args below meth c H locs 0 0 (mZ g below args s w0 (wX9 g a i o.2) (some (.int o.1))) (F0 m 90 ls [.int t0]) := by
  have hx := X.1
  have hb := X.2.1
  intro xs l4 t0 H locs ls h hH hl
  unfold qX9_whatIs_90 at h
  refine lv_iconst (v := (1 : Int32)) hx hb dX9_whatIs_90 (by decide) ?_
  refine lv_iload hx hb dX9_whatIs_91 (lv_at hl 3 rfl) ?_
  refine lv_ishl hx hb dX9_whatIs_93 ?_
  refine lv_goto (tgt := 98) hx hb dX9_whatIs_94 (by decide) ?_
  exact K98 xs l4 t0 ((1 : Int32) <<< (l4 &&& 31)) H locs ls h hH (lv_sub hl [0, 1, 2, 3] rfl)
set_option maxHeartbeats 4000000 in
set_option maxRecDepth 100000 in
theorem pX9_whatIs_49 {p : Program} {l : Launch} {e : Env} {s : State} {m : MethodId} {args : Array Value} {below : List Frame} {meth : Method} {c : Code} {g : GG} {w0 : va_W} {a : Nat → Nat} {i : Nat} {pa : Int32} {pb : Int32} {o : (Int32 × SX9)} (X : mX g yX9_whatIs cX9_whatIs 5 (some .int) p s m args meth c w0)
  {k36 : SX9 → Int32 → Int32 → Option (Int32 × SX9)} (K36 : ∀ (xs : SX9) (l3 : Int32) (l4 : Int32) (H : Heap) (locs : List Loc) (ls : Array Slot), k36 xs l3 l4 = some o → mH g s w0 (wX9 g a i xs) H locs → lv_has ls 5 [(0, .ref (a i)), (1, .int pa), (2, .int pb), (3, .int l3), (4, .int l4)] → W p l e (rM 2 46) s m args below meth c H locs 0 0 (mZ g below args s w0 (wX9 g a i o.2) (some (.int o.1))) (F0 m 36 ls [])) :
  ∀ (xs : SX9) (l3 : Int32) (l4 : Int32) (t0 : Int32) (t1 : Int32) (H : Heap) (locs : List Loc) (ls : Array Slot), qX9_whatIs_49 pa pb k36 xs l3 l4 t0 t1 = some o → mH g s w0 (wX9 g a i xs) H locs → lv_has ls 5 [(0, .ref (a i)), (1, .int pa), (2, .int pb), (3, .int l3), (4, .int l4)] → W p l e (rM 2 46) s m args below meth c H locs 0 0 (mZ g below args s w0 (wX9 g a i o.2) (some (.int o.1))) (F0 m 49 ls [.int t1, .int t0]) := by
  have hx := X.1
  have hb := X.2.1
  intro xs l3 l4 t0 t1 H locs ls h hH hl
  unfold qX9_whatIs_49 at h
  refine lv_icmp_ge (tgt := 106) hx hb dX9_whatIs_49 (by decide) (fun c4 => ?_) (fun c4 => ?_)
  · have h := it_x h c4
    refine lv_iload_n hx hb dX9_whatIs_106 rfl (lv_at hl 3 rfl) ?_
    cases h
    exact e_i X hH dX9_whatIs_107
  · have h := ie_x h c4
    refine lv_iload_n hx hb dX9_whatIs_52 rfl (lv_at hl 3 rfl) ?_
    refine lv_iload_n hx hb dX9_whatIs_53 rfl (lv_at hl 2 rfl) ?_
    refine lv_if_ne (tgt := 75) hx hb dX9_whatIs_54 (by decide) (fun c5 => ?_) (fun c5 => ?_)
    · have h := ie_x h c5
      refine lv_aload_n hx hb dX9_whatIs_75 rfl (lv_at hl 0 rfl) ?_
      refine lv_aload_n hx hb dX9_whatIs_76 rfl (lv_at hl 0 rfl) ?_
      refine f_get X hH 0 rfl rfl 4 (by decide) inX9 fX9_20 rfl dX9_whatIs_77 ?_
      refine lv_iload_n hx hb dX9_whatIs_80 rfl (lv_at hl 1 rfl) ?_
      obtain ⟨j1, ej1, hinj1, h⟩ := ga_x h
      refine a_il X hH 3 rfl hinj1 ej1 dX9_whatIs_81 ?_
      refine lv_iload hx hb dX9_whatIs_82 (lv_at hl 4 rfl) ?_
      obtain ⟨o3, ho3, h⟩ := bd_x h
      refine r_V X hH (ws1 := (wX9 g a i xs)) (As := [.int ((m_kind xs) j1), .int l4]) (rest := [.int l3]) (st1 := [.int o3, .int l3]) (uX9_isSo (a := a) (i := i) ho3) kX9_isSo mX9_361 iX9_isSo vX9_isSo zX9 okX9_isSo ⟨Nat.le_of_ble_eq_true rfl, Nat.le_of_ble_eq_true rfl⟩ rfl rfl (q0 := 0) rfl rfl [0, 1, 2, 3, 4, 5, 6, 7, 8, 9, 10, 11, 12, 13, 14, 15, 16, 17, 18, 19, 20, 21, 22, 23, 24, 25, 26, 27, 28, 29, 30, 31, 32, 33] rfl rfl rfl (putl_self _ _ rfl) rfl hl.1 rfl (Nat.le_of_ble_eq_true rfl) ⟨Nat.le_refl 0, Nat.le_refl 0⟩ rfl dX9_whatIs_84 (fun H locs hH => ?_)
      refine lv_if_eq (tgt := 97) hx hb dX9_whatIs_87 (by decide) (fun c6 => ?_) (fun c6 => ?_)
      · have h := it_x h c6
        exact pX9_whatIs_97 X (pX9_whatIs_98 X K36) xs l4 l3 H locs ls h hH (lv_sub hl [0, 1, 2, 4] rfl)
      · have h := ie_x h c6
        exact pX9_whatIs_90 X (pX9_whatIs_98 X K36) xs l4 l3 H locs ls h hH (lv_sub hl [0, 1, 2, 4] rfl)
    · have h := it_x h c5
      refine lv_aload_n hx hb dX9_whatIs_57 rfl (lv_at hl 0 rfl) ?_
      refine lv_iload hx hb dX9_whatIs_58 (lv_at hl 4 rfl) ?_
      refine lv_aload_n hx hb dX9_whatIs_60 rfl (lv_at hl 0 rfl) ?_
      refine f_get X hH 0 rfl rfl 5 (by decide) inX9 fX9_23 rfl dX9_whatIs_61 ?_
      refine lv_iload_n hx hb dX9_whatIs_64 rfl (lv_at hl 1 rfl) ?_
      obtain ⟨j2, ej2, hinj2, h⟩ := ga_x h
      refine a_il X hH 4 rfl hinj2 ej2 dX9_whatIs_65 ?_
      obtain ⟨o4, ho4, h⟩ := bd_x h
      refine r_V X hH (ws1 := (wX9 g a i xs)) (As := [.int l4, .int ((m_figure xs) j2)]) (rest := [.int l3]) (st1 := [.int o4, .int l3]) (uX9_isSo (a := a) (i := i) ho4) kX9_isSo mX9_361 iX9_isSo vX9_isSo zX9 okX9_isSo ⟨Nat.le_of_ble_eq_true rfl, Nat.le_of_ble_eq_true rfl⟩ rfl rfl (q0 := 0) rfl rfl [0, 1, 2, 3, 4, 5, 6, 7, 8, 9, 10, 11, 12, 13, 14, 15, 16, 17, 18, 19, 20, 21, 22, 23, 24, 25, 26, 27, 28, 29, 30, 31, 32, 33] rfl rfl rfl (putl_self _ _ rfl) rfl hl.1 rfl (Nat.le_of_ble_eq_true rfl) ⟨Nat.le_refl 0, Nat.le_refl 0⟩ rfl dX9_whatIs_66 (fun H locs hH => ?_)
      refine lv_if_eq (tgt := 97) hx hb dX9_whatIs_69 (by decide) (fun c7 => ?_) (fun c7 => ?_)
      · have h := it_x h c7
        exact pX9_whatIs_97 X (pX9_whatIs_98 X K36) xs l4 l3 H locs ls h hH (lv_sub hl [0, 1, 2, 4] rfl)
      · have h := ie_x h c7
        refine lv_goto (tgt := 90) hx hb dX9_whatIs_72 (by decide) ?_
        exact pX9_whatIs_90 X (pX9_whatIs_98 X K36) xs l4 l3 H locs ls h hH (lv_sub hl [0, 1, 2, 4] rfl)
set_option maxHeartbeats 4000000 in
set_option maxRecDepth 100000 in
theorem pX9_whatIs_36 {p : Program} {l : Launch} {e : Env} {s : State} {m : MethodId} {args : Array Value} {below : List Frame} {meth : Method} {c : Code} {g : GG} {w0 : va_W} {a : Nat → Nat} {i : Nat} {pa : Int32} {pb : Int32} {o : (Int32 × SX9)} (X : mX g yX9_whatIs cX9_whatIs 5 (some .int) p s m args meth c w0) :
  ∀ (fu : Nat) (xs : SX9) (l3 : Int32) (l4 : Int32) (H : Heap) (locs : List Loc) (ls : Array Slot), qX9_whatIs_36 pa pb fu xs l3 l4 = some o → mH g s w0 (wX9 g a i xs) H locs → lv_has ls 5 [(0, .ref (a i)), (1, .int pa), (2, .int pb), (3, .int l3), (4, .int l4)] → W p l e (rM 2 46) s m args below meth c H locs 0 0 (mZ g below args s w0 (wX9 g a i o.2) (some (.int o.1))) (F0 m 36 ls []) := by
  have hx := X.1
  have hb := X.2.1
  intro fu
  induction fu with
  | zero =>
    intro xs l3 l4 H locs ls h
    unfold qX9_whatIs_36 at h
    cases h
  | succ fu ih =>
    intro xs l3 l4 H locs ls h hH hl
    unfold qX9_whatIs_36 at h
    refine lv_iload hx hb dX9_whatIs_36 (lv_at hl 4 rfl) ?_
    refine lv_iload_n hx hb dX9_whatIs_38 rfl (lv_at hl 2 rfl) ?_
    refine lv_if_ne (tgt := 47) hx hb dX9_whatIs_39 (by decide) (fun c3 => ?_) (fun c3 => ?_)
    · have h := ie_x h c3
      refine lv_bipush (v := (10 : Int32)) hx hb dX9_whatIs_47 (by decide) ?_
      exact pX9_whatIs_49 X ih xs l3 l4 l4 (10 : Int32) H locs ls h hH (lv_sub hl [0, 1, 2, 3, 4] rfl)
    · have h := it_x h c3
      refine lv_bipush (v := (6 : Int32)) hx hb dX9_whatIs_42 (by decide) ?_
      refine lv_goto (tgt := 49) hx hb dX9_whatIs_44 (by decide) ?_
      exact pX9_whatIs_49 X ih xs l3 l4 l4 (6 : Int32) H locs ls h hH (lv_sub hl [0, 1, 2, 3, 4] rfl)
set_option maxHeartbeats 4000000 in
set_option maxRecDepth 100000 in
theorem uX9_whatIs {l : Launch} {g : GG} {a : Nat → Nat} {i : Nat} {xs : SX9} {pa : Int32} {pb : Int32} {o : (Int32 × SX9)} (h : fX9_whatIs xs pa pb = some o) : mC l g yX9_whatIs cX9_whatIs 5 (some .int) (rM 2 46) [.ref (a i), .int pa, .int pb] (wX9 g a i xs) (wX9 g a i o.2) (some (.int o.1)) := by
  refine mC.ofW (by decide) (fun p e s m below meth c X hH ls _ hl => ?_) (Nat.le_of_ble_eq_true rfl)
  have hx := X.1
  have hb := X.2.1
  have hl : lv_has ls 5 [(0, .ref (a i)), (1, .int pa), (2, .int pb)] := hl
  unfold fX9_whatIs at h
  suffices HH : ∀ (H : Heap) (locs : List Loc), mH g s (wX9 g a i xs) (wX9 g a i xs) H locs → W p l e (rM 2 46) s m _ below meth c H locs 0 0 (mZ g below _ s (wX9 g a i xs) (wX9 g a i o.2) (some (.int o.1))) (F0 m 0 ls []) from HH _ _ hH
  clear hH
  intro H locs hH
  refine lv_aload_n hx hb dX9_whatIs_0 rfl (lv_at hl 0 rfl) ?_
  refine lv_iload_n hx hb dX9_whatIs_1 rfl (lv_at hl 1 rfl) ?_
  obtain ⟨o1, ho1, h⟩ := bd_x h
  refine r_V X hH (ws1 := (wX9 g a i xs)) (As := [.int pa]) (rest := []) (st1 := [.int o1]) (uX9_isWay (a := a) (i := i) ho1) kX9_isWay mX9_145 iX9_isWay vX9_isWay zX9 okX9_isWay ⟨Nat.le_of_ble_eq_true rfl, Nat.le_of_ble_eq_true rfl⟩ rfl rfl (q0 := 0) rfl rfl [0, 1, 2, 3, 4, 5, 6, 7, 8, 9, 10, 11, 12, 13, 14, 15, 16, 17, 18, 19, 20, 21, 22, 23, 24, 25, 26, 27, 28, 29, 30, 31, 32, 33] rfl rfl rfl (putl_self _ _ rfl) rfl hl.1 rfl (Nat.le_of_ble_eq_true rfl) ⟨Nat.le_refl 0, Nat.le_refl 0⟩ rfl dX9_whatIs_2 (fun H locs hH => ?_)
  refine lv_if_ne (tgt := 14) hx hb dX9_whatIs_5 (by decide) (fun c1 => ?_) (fun c1 => ?_)
  · have h := ie_x h c1
    refine lv_iload_n hx hb dX9_whatIs_14 rfl (lv_at hl 2 rfl) ?_
    refine lv_i2l hx hb dX9_whatIs_15 rfl ?_
    refine lv_lconst (v := (0 : Int64)) hx hb dX9_whatIs_16 (by decide) ?_
    refine lv_lconst (v := (1 : Int64)) hx hb dX9_whatIs_17 (by decide) ?_
    obtain ⟨o2, ho2, h⟩ := bd_x h
    refine r_S X hH (ws1 := (wX9 g a i xs)) (As := [.long (pb.toInt64), .long (0 : Int64), .long (1 : Int64)]) (rest := []) (st1 := [.int o2]) (uX9_isIn  ho2) kX9_isIn mX9_116 sX9_isIn zX9 okX9_isIn ⟨Nat.le_of_ble_eq_true rfl, Nat.le_of_ble_eq_true rfl⟩ rfl rfl [] rfl rfl rfl (putl_self _ _ rfl) rfl hl.1 rfl (Nat.le_of_ble_eq_true rfl) ⟨Nat.le_refl 0, Nat.le_refl 0⟩ rfl dX9_whatIs_18 (fun H locs hH => ?_)
    refine lv_if_ne (tgt := 31) hx hb dX9_whatIs_21 (by decide) (fun c2 => ?_) (fun c2 => ?_)
    · have h := ie_x h c2
      refine lv_iconst (v := (0 : Int32)) hx hb dX9_whatIs_31 (by decide) ?_
      refine s_in X (lv' := [(3, .int (0 : Int32)), (0, .ref (a i)), (1, .int pa), (2, .int pb)]) hl rfl dX9_whatIs_32 rfl (by decide) rfl (fun ls hl => ?_)
      refine lv_iconst (v := (0 : Int32)) hx hb dX9_whatIs_33 (by decide) ?_
      refine s_i X (lv' := [(4, .int (0 : Int32)), (3, .int (0 : Int32)), (0, .ref (a i)), (1, .int pa), (2, .int pb)]) hl rfl dX9_whatIs_34 (by decide) rfl (fun ls hl => ?_)
      exact pX9_whatIs_36 X FU xs (0 : Int32) (0 : Int32) H locs ls h hH (lv_sub hl [2, 3, 4, 1, 0] rfl)
    · have h := it_x h c2
      refine lv_aload_n hx hb dX9_whatIs_24 rfl (lv_at hl 0 rfl) ?_
      refine lv_bipush (v := (-2 : Int32)) hx hb dX9_whatIs_25 (by decide) ?_
      obtain ⟨o5, ho5, h⟩ := bd_x h
      refine r_V X hH (ws1 := (wX9 g a i o5.2)) (As := [.int (-2 : Int32)]) (rest := []) (st1 := [.int o5.1]) (uX9_no (a := a) (i := i) ho5) kX9_no mX9_125 iX9_no vX9_no zX9 okX9_no ⟨Nat.le_of_ble_eq_true rfl, Nat.le_of_ble_eq_true rfl⟩ rfl rfl (q0 := 0) rfl rfl [0, 1, 2, 3, 4, 5, 6, 7, 8, 9, 10, 11, 12, 13, 14, 15, 16, 17, 18, 19, 20, 21, 22, 23, 24, 25, 26, 27, 28, 29, 30, 31, 32, 33] rfl rfl rfl rfl rfl hl.1 rfl (Nat.le_of_ble_eq_true rfl) ⟨Nat.le_refl 0, Nat.le_refl 0⟩ rfl dX9_whatIs_27 (fun H locs hH => ?_)
      cases h
      exact e_i X hH dX9_whatIs_30
  · have h := it_x h c1
    refine lv_aload_n hx hb dX9_whatIs_8 rfl (lv_at hl 0 rfl) ?_
    refine lv_iconst (v := (-1 : Int32)) hx hb dX9_whatIs_9 (by decide) ?_
    obtain ⟨o6, ho6, h⟩ := bd_x h
    refine r_V X hH (ws1 := (wX9 g a i o6.2)) (As := [.int (-1 : Int32)]) (rest := []) (st1 := [.int o6.1]) (uX9_no (a := a) (i := i) ho6) kX9_no mX9_125 iX9_no vX9_no zX9 okX9_no ⟨Nat.le_of_ble_eq_true rfl, Nat.le_of_ble_eq_true rfl⟩ rfl rfl (q0 := 0) rfl rfl [0, 1, 2, 3, 4, 5, 6, 7, 8, 9, 10, 11, 12, 13, 14, 15, 16, 17, 18, 19, 20, 21, 22, 23, 24, 25, 26, 27, 28, 29, 30, 31, 32, 33] rfl rfl rfl rfl rfl hl.1 rfl (Nat.le_of_ble_eq_true rfl) ⟨Nat.le_refl 0, Nat.le_refl 0⟩ rfl dX9_whatIs_10 (fun H locs hH => ?_)
    cases h
    exact e_i X hH dX9_whatIs_13

def fX9_isList (pa : Int32) : Option Int32 :=
  (fX9_isIn (pa.toInt64) (0 : Int64) (2 : Int64)).bind fun o1 =>
  gb o1 (some o1)
set_option maxHeartbeats 4000000 in
set_option maxRecDepth 100000 in
theorem uX9_isList {l : Launch} {g : GG}  {pa : Int32} {o : Int32} (h : fX9_isList pa = some o) : mC l g yX9_isList cX9_isList 1 (some .boolean) (rM 1 25) [.int pa] [] [] (some (.int o)) := by
  refine mC.ofW (by decide) (fun p e s m below meth c X hH ls _ hl => ?_) (Nat.le_of_ble_eq_true rfl)
  have hx := X.1
  have hb := X.2.1
  have hl : lv_has ls 1 [(0, .int pa)] := hl
  unfold fX9_isList at h
  suffices HH : ∀ (H : Heap) (locs : List Loc), mH g s [] [] H locs → W p l e (rM 1 25) s m _ below meth c H locs 0 0 (mZ g below _ s [] [] (some (.int o))) (F0 m 0 ls []) from HH _ _ hH
  clear hH
  intro H locs hH
  refine lv_iload_n hx hb dX9_isList_0 rfl (lv_at hl 0 rfl) ?_
  refine lv_i2l hx hb dX9_isList_1 rfl ?_
  refine lv_lconst (v := (0 : Int64)) hx hb dX9_isList_2 (by decide) ?_
  refine lv_ldc2 hx hb X.2.2.2.2.1 (X.2.2.2.2.2.1 _ nX9_364) dX9_isList_3 ?_
  obtain ⟨o1, ho1, h⟩ := bd_x h
  refine r_S X hH (ws1 := []) (As := [.long (pa.toInt64), .long (0 : Int64), .long (2 : Int64)]) (rest := []) (st1 := [.int o1]) (uX9_isIn  ho1) kX9_isIn mX9_116 sX9_isIn zX9 okX9_isIn ⟨Nat.le_of_ble_eq_true rfl, Nat.le_of_ble_eq_true rfl⟩ rfl rfl [] rfl rfl rfl (putl_self _ _ rfl) rfl hl.1 rfl (Nat.le_of_ble_eq_true rfl) ⟨Nat.le_refl 0, Nat.le_refl 0⟩ rfl dX9_isList_6 (fun H locs hH => ?_)
  obtain ⟨z1, h⟩ := gb_x h
  cases h
  exact e_z X hH z1 dX9_isList_9

def qX9_list_42 (pa : Int32) (pb : Int32)  : Nat → SX9 → Int32 → Option (Int32 × SX9)
  | 0, _, _ => none
  | fu + 1, xs, l3 =>
  (if (20 : Int32) ≤ l3 then
  some ((1 : Int32), xs)
  else
  ga 60 (((20 : Int32) * pa) + l3) fun j2 =>
  ltt ((m_items_s xs (vp_updL (m_items xs) j2 (0 : Int64)))) fun xs2 =>
  ltt (l3 + (1 : Int32)) fun v1 =>
  qX9_list_42 pa pb  fu xs2 v1)
def fX9_list (xs : SX9) (pa : Int32) (pb : Int32) : Option (Int32 × SX9) :=
  (fX9_isList pa).bind fun o1 =>
  (if o1 = (0 : Int32) then
  (fX9_no xs (-1 : Int32)).bind fun o3 =>
  some (o3.1, o3.2)
  else
  (if pb ≤ (20 : Int32) then
  (if (0 : Int32) ≤ pb then
  ga 3 pa fun j1 =>
  ltt ((m_listMany_s xs (upd (m_listMany xs) j1 pb))) fun xs1 =>
  qX9_list_42 pa pb FU xs1 (0 : Int32)
  else
  some ((-14 : Int32), xs))
  else
  (fX9_no xs (-6 : Int32)).bind fun o2 =>
  some (o2.1, o2.2)))
set_option maxHeartbeats 4000000 in
set_option maxRecDepth 100000 in
theorem pX9_list_42 {p : Program} {l : Launch} {e : Env} {s : State} {m : MethodId} {args : Array Value} {below : List Frame} {meth : Method} {c : Code} {g : GG} {w0 : va_W} {a : Nat → Nat} {i : Nat} {pa : Int32} {pb : Int32} {o : (Int32 × SX9)} (X : mX g yX9_list cX9_list 4 (some .int) p s m args meth c w0) :
  ∀ (fu : Nat) (xs : SX9) (l3 : Int32) (H : Heap) (locs : List Loc) (ls : Array Slot), qX9_list_42 pa pb fu xs l3 = some o → mH g s w0 (wX9 g a i xs) H locs → lv_has ls 4 [(0, .ref (a i)), (1, .int pa), (2, .int pb), (3, .int l3)] → W p l e (rM 2 45) s m args below meth c H locs 0 0 (mZ g below args s w0 (wX9 g a i o.2) (some (.int o.1))) (F0 m 42 ls []) := by
  have hx := X.1
  have hb := X.2.1
  intro fu
  induction fu with
  | zero =>
    intro xs l3 H locs ls h
    unfold qX9_list_42 at h
    cases h
  | succ fu ih =>
    intro xs l3 H locs ls h hH hl
    unfold qX9_list_42 at h
    refine lv_iload_n hx hb dX9_list_42 rfl (lv_at hl 3 rfl) ?_
    refine lv_bipush (v := (20 : Int32)) hx hb dX9_list_43 (by decide) ?_
    refine lv_icmp_ge (tgt := 66) hx hb dX9_list_45 (by decide) (fun c4 => ?_) (fun c4 => ?_)
    · have h := it_x h c4
      refine lv_iconst (v := (1 : Int32)) hx hb dX9_list_66 (by decide) ?_
      cases h
      exact e_i X hH dX9_list_67
    · have h := ie_x h c4
      refine lv_aload_n hx hb dX9_list_48 rfl (lv_at hl 0 rfl) ?_
      refine f_get X hH 0 rfl rfl 42 (by decide) inX9 fX9_98 rfl dX9_list_49 ?_
      refine lv_bipush (v := (20 : Int32)) hx hb dX9_list_52 (by decide) ?_
      refine lv_iload_n hx hb dX9_list_54 rfl (lv_at hl 1 rfl) ?_
      refine lv_imul hx hb dX9_list_55 ?_
      refine lv_iload_n hx hb dX9_list_56 rfl (lv_at hl 3 rfl) ?_
      refine lv_iadd hx hb dX9_list_57 ?_
      refine lv_lconst (v := (0 : Int64)) hx hb dX9_list_58 (by decide) ?_
      obtain ⟨j2, ej2, hinj2, h⟩ := ga_x h
      obtain ⟨xs2, exs2, h⟩ := ltt_x h
      refine a_ls X hH (ws1 := (wX9 g a i xs2)) 28 rfl hinj2 ej2 (by rw [exs2]; rfl) dX9_list_59 (fun H locs hH => ?_)
      obtain ⟨v1, ev1, h⟩ := ltt_x h
      refine s_inc X (k := 3) (lv' := [(3, .int v1), (0, .ref (a i)), (1, .int pa), (2, .int pb)]) hl rfl (by rw [ev1]; rfl) dX9_list_60 (by decide) rfl (fun ls hl => ?_)
      refine lv_goto (tgt := 42) hx hb dX9_list_63 (by decide) ?_
      exact ih xs2 v1 H locs ls h hH (lv_sub hl [1, 2, 3, 0] rfl)
set_option maxHeartbeats 4000000 in
set_option maxRecDepth 100000 in
theorem uX9_list {l : Launch} {g : GG} {a : Nat → Nat} {i : Nat} {xs : SX9} {pa : Int32} {pb : Int32} {o : (Int32 × SX9)} (h : fX9_list xs pa pb = some o) : mC l g yX9_list cX9_list 4 (some .int) (rM 2 45) [.ref (a i), .int pa, .int pb] (wX9 g a i xs) (wX9 g a i o.2) (some (.int o.1)) := by
  refine mC.ofW (by decide) (fun p e s m below meth c X hH ls _ hl => ?_) (Nat.le_of_ble_eq_true rfl)
  have hx := X.1
  have hb := X.2.1
  have hl : lv_has ls 4 [(0, .ref (a i)), (1, .int pa), (2, .int pb)] := hl
  unfold fX9_list at h
  suffices HH : ∀ (H : Heap) (locs : List Loc), mH g s (wX9 g a i xs) (wX9 g a i xs) H locs → W p l e (rM 2 45) s m _ below meth c H locs 0 0 (mZ g below _ s (wX9 g a i xs) (wX9 g a i o.2) (some (.int o.1))) (F0 m 0 ls []) from HH _ _ hH
  clear hH
  intro H locs hH
  refine lv_iload_n hx hb dX9_list_0 rfl (lv_at hl 1 rfl) ?_
  obtain ⟨o1, ho1, h⟩ := bd_x h
  refine r_S X hH (ws1 := (wX9 g a i xs)) (As := [.int pa]) (rest := []) (st1 := [.int o1]) (uX9_isList  ho1) kX9_isList mX9_366 sX9_isList zX9 okX9_isList ⟨Nat.le_of_ble_eq_true rfl, Nat.le_of_ble_eq_true rfl⟩ rfl rfl [] rfl rfl rfl (putl_self _ _ rfl) rfl hl.1 rfl (Nat.le_of_ble_eq_true rfl) ⟨Nat.le_refl 0, Nat.le_refl 0⟩ rfl dX9_list_1 (fun H locs hH => ?_)
  refine lv_if_ne (tgt := 13) hx hb dX9_list_4 (by decide) (fun c1 => ?_) (fun c1 => ?_)
  · have h := ie_x h c1
    refine lv_iload_n hx hb dX9_list_13 rfl (lv_at hl 2 rfl) ?_
    refine lv_bipush (v := (20 : Int32)) hx hb dX9_list_14 (by decide) ?_
    refine lv_icmp_le (tgt := 26) hx hb dX9_list_16 (by decide) (fun c2 => ?_) (fun c2 => ?_)
    · have h := it_x h c2
      refine lv_iload_n hx hb dX9_list_26 rfl (lv_at hl 2 rfl) ?_
      refine lv_if_ge (tgt := 33) hx hb dX9_list_27 (by decide) (fun c3 => ?_) (fun c3 => ?_)
      · have h := it_x h c3
        refine lv_aload_n hx hb dX9_list_33 rfl (lv_at hl 0 rfl) ?_
        refine f_get X hH 0 rfl rfl 43 (by decide) inX9 fX9_101 rfl dX9_list_34 ?_
        refine lv_iload_n hx hb dX9_list_37 rfl (lv_at hl 1 rfl) ?_
        refine lv_iload_n hx hb dX9_list_38 rfl (lv_at hl 2 rfl) ?_
        obtain ⟨j1, ej1, hinj1, h⟩ := ga_x h
        obtain ⟨xs1, exs1, h⟩ := ltt_x h
        refine a_is X hH (ws1 := (wX9 g a i xs1)) 29 rfl hinj1 ej1 (by rw [exs1]; rfl) dX9_list_39 (fun H locs hH => ?_)
        refine lv_iconst (v := (0 : Int32)) hx hb dX9_list_40 (by decide) ?_
        refine s_in X (lv' := [(3, .int (0 : Int32)), (0, .ref (a i)), (1, .int pa), (2, .int pb)]) hl rfl dX9_list_41 rfl (by decide) rfl (fun ls hl => ?_)
        exact pX9_list_42 X FU xs1 (0 : Int32) H locs ls h hH (lv_sub hl [1, 2, 3, 0] rfl)
      · have h := ie_x h c3
        refine lv_bipush (v := (-14 : Int32)) hx hb dX9_list_30 (by decide) ?_
        cases h
        exact e_i X hH dX9_list_32
    · have h := ie_x h c2
      refine lv_aload_n hx hb dX9_list_19 rfl (lv_at hl 0 rfl) ?_
      refine lv_bipush (v := (-6 : Int32)) hx hb dX9_list_20 (by decide) ?_
      obtain ⟨o2, ho2, h⟩ := bd_x h
      refine r_V X hH (ws1 := (wX9 g a i o2.2)) (As := [.int (-6 : Int32)]) (rest := []) (st1 := [.int o2.1]) (uX9_no (a := a) (i := i) ho2) kX9_no mX9_125 iX9_no vX9_no zX9 okX9_no ⟨Nat.le_of_ble_eq_true rfl, Nat.le_of_ble_eq_true rfl⟩ rfl rfl (q0 := 0) rfl rfl [0, 1, 2, 3, 4, 5, 6, 7, 8, 9, 10, 11, 12, 13, 14, 15, 16, 17, 18, 19, 20, 21, 22, 23, 24, 25, 26, 27, 28, 29, 30, 31, 32, 33] rfl rfl rfl rfl rfl hl.1 rfl (Nat.le_of_ble_eq_true rfl) ⟨Nat.le_refl 0, Nat.le_refl 0⟩ rfl dX9_list_22 (fun H locs hH => ?_)
      cases h
      exact e_i X hH dX9_list_25
  · have h := it_x h c1
    refine lv_aload_n hx hb dX9_list_7 rfl (lv_at hl 0 rfl) ?_
    refine lv_iconst (v := (-1 : Int32)) hx hb dX9_list_8 (by decide) ?_
    obtain ⟨o3, ho3, h⟩ := bd_x h
    refine r_V X hH (ws1 := (wX9 g a i o3.2)) (As := [.int (-1 : Int32)]) (rest := []) (st1 := [.int o3.1]) (uX9_no (a := a) (i := i) ho3) kX9_no mX9_125 iX9_no vX9_no zX9 okX9_no ⟨Nat.le_of_ble_eq_true rfl, Nat.le_of_ble_eq_true rfl⟩ rfl rfl (q0 := 0) rfl rfl [0, 1, 2, 3, 4, 5, 6, 7, 8, 9, 10, 11, 12, 13, 14, 15, 16, 17, 18, 19, 20, 21, 22, 23, 24, 25, 26, 27, 28, 29, 30, 31, 32, 33] rfl rfl rfl rfl rfl hl.1 rfl (Nat.le_of_ble_eq_true rfl) ⟨Nat.le_refl 0, Nat.le_refl 0⟩ rfl dX9_list_9 (fun H locs hH => ?_)
    cases h
    exact e_i X hH dX9_list_12

def fX9_notPlace (xs : SX9) (pa : Int32) (pb : Int32) : Option Int32 :=
  ga 3 pa fun j1 =>
  (if (0 : Int32) ≤ ((m_listMany xs) j1) then
  ga 3 pa fun j2 =>
  (fX9_isIn (pb.toInt64) (0 : Int64) ((((m_listMany xs) j2) - (1 : Int32)).toInt64)).bind fun o1 =>
  (if o1 = (0 : Int32) then
  some (-13 : Int32)
  else
  some (0 : Int32))
  else
  some (-11 : Int32))
set_option maxHeartbeats 4000000 in
set_option maxRecDepth 100000 in
theorem uX9_notPlace {l : Launch} {g : GG} {a : Nat → Nat} {i : Nat} {xs : SX9} {pa : Int32} {pb : Int32} {o : Int32} (h : fX9_notPlace xs pa pb = some o) : mC l g yX9_notPlace cX9_notPlace 3 (some .int) (rM 1 25) [.ref (a i), .int pa, .int pb] (wX9 g a i xs) (wX9 g a i xs) (some (.int o)) := by
  refine mC.ofW (by decide) (fun p e s m below meth c X hH ls _ hl => ?_) (Nat.le_of_ble_eq_true rfl)
  have hx := X.1
  have hb := X.2.1
  have hl : lv_has ls 3 [(0, .ref (a i)), (1, .int pa), (2, .int pb)] := hl
  unfold fX9_notPlace at h
  suffices HH : ∀ (H : Heap) (locs : List Loc), mH g s (wX9 g a i xs) (wX9 g a i xs) H locs → W p l e (rM 1 25) s m _ below meth c H locs 0 0 (mZ g below _ s (wX9 g a i xs) (wX9 g a i xs) (some (.int o))) (F0 m 0 ls []) from HH _ _ hH
  clear hH
  intro H locs hH
  refine lv_aload_n hx hb dX9_notPlace_0 rfl (lv_at hl 0 rfl) ?_
  refine f_get X hH 0 rfl rfl 43 (by decide) inX9 fX9_101 rfl dX9_notPlace_1 ?_
  refine lv_iload_n hx hb dX9_notPlace_4 rfl (lv_at hl 1 rfl) ?_
  obtain ⟨j1, ej1, hinj1, h⟩ := ga_x h
  refine a_il X hH 29 rfl hinj1 ej1 dX9_notPlace_5 ?_
  refine lv_if_ge (tgt := 14) hx hb dX9_notPlace_6 (by decide) (fun c1 => ?_) (fun c1 => ?_)
  · have h := it_x h c1
    refine lv_iload_n hx hb dX9_notPlace_14 rfl (lv_at hl 2 rfl) ?_
    refine lv_i2l hx hb dX9_notPlace_15 rfl ?_
    refine lv_lconst (v := (0 : Int64)) hx hb dX9_notPlace_16 (by decide) ?_
    refine lv_aload_n hx hb dX9_notPlace_17 rfl (lv_at hl 0 rfl) ?_
    refine f_get X hH 0 rfl rfl 43 (by decide) inX9 fX9_101 rfl dX9_notPlace_18 ?_
    refine lv_iload_n hx hb dX9_notPlace_21 rfl (lv_at hl 1 rfl) ?_
    obtain ⟨j2, ej2, hinj2, h⟩ := ga_x h
    refine a_il X hH 29 rfl hinj2 ej2 dX9_notPlace_22 ?_
    refine lv_iconst (v := (1 : Int32)) hx hb dX9_notPlace_23 (by decide) ?_
    refine lv_isub hx hb dX9_notPlace_24 ?_
    refine lv_i2l hx hb dX9_notPlace_25 rfl ?_
    obtain ⟨o1, ho1, h⟩ := bd_x h
    refine r_S X hH (ws1 := (wX9 g a i xs)) (As := [.long (pb.toInt64), .long (0 : Int64), .long ((((m_listMany xs) j2) - (1 : Int32)).toInt64)]) (rest := []) (st1 := [.int o1]) (uX9_isIn  ho1) kX9_isIn mX9_116 sX9_isIn zX9 okX9_isIn ⟨Nat.le_of_ble_eq_true rfl, Nat.le_of_ble_eq_true rfl⟩ rfl rfl [] rfl rfl rfl (putl_self _ _ rfl) rfl hl.1 rfl (Nat.le_of_ble_eq_true rfl) ⟨Nat.le_refl 0, Nat.le_refl 0⟩ rfl dX9_notPlace_26 (fun H locs hH => ?_)
    refine lv_if_eq (tgt := 36) hx hb dX9_notPlace_29 (by decide) (fun c2 => ?_) (fun c2 => ?_)
    · have h := it_x h c2
      refine lv_bipush (v := (-13 : Int32)) hx hb dX9_notPlace_36 (by decide) ?_
      cases h
      exact e_i X hH dX9_notPlace_38
    · have h := ie_x h c2
      refine lv_iconst (v := (0 : Int32)) hx hb dX9_notPlace_32 (by decide) ?_
      refine lv_goto (tgt := 38) hx hb dX9_notPlace_33 (by decide) ?_
      cases h
      exact e_i X hH dX9_notPlace_38
  · have h := ie_x h c1
    refine lv_bipush (v := (-11 : Int32)) hx hb dX9_notPlace_9 (by decide) ?_
    refine lv_goto (tgt := 38) hx hb dX9_notPlace_11 (by decide) ?_
    cases h
    exact e_i X hH dX9_notPlace_38

def fX9_put (xs : SX9) (pa : Int32) (pb : Int32) (pc_ : Int64) : Option (Int32 × SX9) :=
  (fX9_isList pa).bind fun o1 =>
  (if o1 = (0 : Int32) then
  (fX9_no xs (-1 : Int32)).bind fun o3 =>
  some (o3.1, o3.2)
  else
  (fX9_notPlace xs pa pb).bind fun o2 =>
  (if o2 = (0 : Int32) then
  ga 60 (((20 : Int32) * pa) + pb) fun j1 =>
  ltt ((m_items_s xs (vp_updL (m_items xs) j1 pc_))) fun xs1 =>
  some ((1 : Int32), xs1)
  else
  some (o2, xs)))
set_option maxHeartbeats 4000000 in
set_option maxRecDepth 100000 in
theorem uX9_put {l : Launch} {g : GG} {a : Nat → Nat} {i : Nat} {xs : SX9} {pa : Int32} {pb : Int32} {pc_ : Int64} {o : (Int32 × SX9)} (h : fX9_put xs pa pb pc_ = some o) : mC l g yX9_put cX9_put 6 (some .int) (rM 2 47) [.ref (a i), .int pa, .int pb, .long pc_] (wX9 g a i xs) (wX9 g a i o.2) (some (.int o.1)) := by
  refine mC.ofW (by decide) (fun p e s m below meth c X hH ls _ hl => ?_) (Nat.le_of_ble_eq_true rfl)
  have hx := X.1
  have hb := X.2.1
  have hl : lv_has ls 6 [(0, .ref (a i)), (1, .int pa), (2, .int pb), (3, .long pc_)] := hl
  unfold fX9_put at h
  suffices HH : ∀ (H : Heap) (locs : List Loc), mH g s (wX9 g a i xs) (wX9 g a i xs) H locs → W p l e (rM 2 47) s m _ below meth c H locs 0 0 (mZ g below _ s (wX9 g a i xs) (wX9 g a i o.2) (some (.int o.1))) (F0 m 0 ls []) from HH _ _ hH
  clear hH
  intro H locs hH
  refine lv_iload_n hx hb dX9_put_0 rfl (lv_at hl 1 rfl) ?_
  obtain ⟨o1, ho1, h⟩ := bd_x h
  refine r_S X hH (ws1 := (wX9 g a i xs)) (As := [.int pa]) (rest := []) (st1 := [.int o1]) (uX9_isList  ho1) kX9_isList mX9_366 sX9_isList zX9 okX9_isList ⟨Nat.le_of_ble_eq_true rfl, Nat.le_of_ble_eq_true rfl⟩ rfl rfl [] rfl rfl rfl (putl_self _ _ rfl) rfl hl.1 rfl (Nat.le_of_ble_eq_true rfl) ⟨Nat.le_refl 0, Nat.le_refl 0⟩ rfl dX9_put_1 (fun H locs hH => ?_)
  refine lv_if_ne (tgt := 13) hx hb dX9_put_4 (by decide) (fun c1 => ?_) (fun c1 => ?_)
  · have h := ie_x h c1
    refine lv_aload_n hx hb dX9_put_13 rfl (lv_at hl 0 rfl) ?_
    refine lv_iload_n hx hb dX9_put_14 rfl (lv_at hl 1 rfl) ?_
    refine lv_iload_n hx hb dX9_put_15 rfl (lv_at hl 2 rfl) ?_
    obtain ⟨o2, ho2, h⟩ := bd_x h
    refine r_V X hH (ws1 := (wX9 g a i xs)) (As := [.int pa, .int pb]) (rest := []) (st1 := [.int o2]) (uX9_notPlace (a := a) (i := i) ho2) kX9_notPlace mX9_369 iX9_notPlace vX9_notPlace zX9 okX9_notPlace ⟨Nat.le_of_ble_eq_true rfl, Nat.le_of_ble_eq_true rfl⟩ rfl rfl (q0 := 0) rfl rfl [0, 1, 2, 3, 4, 5, 6, 7, 8, 9, 10, 11, 12, 13, 14, 15, 16, 17, 18, 19, 20, 21, 22, 23, 24, 25, 26, 27, 28, 29, 30, 31, 32, 33] rfl rfl rfl (putl_self _ _ rfl) rfl hl.1 rfl (Nat.le_of_ble_eq_true rfl) ⟨Nat.le_refl 0, Nat.le_refl 0⟩ rfl dX9_put_16 (fun H locs hH => ?_)
    refine s_i X (lv' := [(5, .int o2), (0, .ref (a i)), (1, .int pa), (2, .int pb), (3, .long pc_)]) hl rfl dX9_put_19 (by decide) rfl (fun ls hl => ?_)
    refine lv_iload hx hb dX9_put_21 (lv_at hl 0 rfl) ?_
    refine lv_if_eq (tgt := 29) hx hb dX9_put_23 (by decide) (fun c2 => ?_) (fun c2 => ?_)
    · have h := it_x h c2
      refine lv_aload_n hx hb dX9_put_29 rfl (lv_at hl 1 rfl) ?_
      refine f_get X hH 0 rfl rfl 42 (by decide) inX9 fX9_98 rfl dX9_put_30 ?_
      refine lv_bipush (v := (20 : Int32)) hx hb dX9_put_33 (by decide) ?_
      refine lv_iload_n hx hb dX9_put_35 rfl (lv_at hl 2 rfl) ?_
      refine lv_imul hx hb dX9_put_36 ?_
      refine lv_iload_n hx hb dX9_put_37 rfl (lv_at hl 3 rfl) ?_
      refine lv_iadd hx hb dX9_put_38 ?_
      refine lv_lload_n hx hb dX9_put_39 rfl (lv_at hl 4 rfl) ?_
      obtain ⟨j1, ej1, hinj1, h⟩ := ga_x h
      obtain ⟨xs1, exs1, h⟩ := ltt_x h
      refine a_ls X hH (ws1 := (wX9 g a i xs1)) 28 rfl hinj1 ej1 (by rw [exs1]; rfl) dX9_put_40 (fun H locs hH => ?_)
      refine lv_iconst (v := (1 : Int32)) hx hb dX9_put_41 (by decide) ?_
      cases h
      exact e_i X hH dX9_put_42
    · have h := ie_x h c2
      refine lv_iload hx hb dX9_put_26 (lv_at hl 0 rfl) ?_
      cases h
      exact e_i X hH dX9_put_28
  · have h := it_x h c1
    refine lv_aload_n hx hb dX9_put_7 rfl (lv_at hl 0 rfl) ?_
    refine lv_iconst (v := (-1 : Int32)) hx hb dX9_put_8 (by decide) ?_
    obtain ⟨o3, ho3, h⟩ := bd_x h
    refine r_V X hH (ws1 := (wX9 g a i o3.2)) (As := [.int (-1 : Int32)]) (rest := []) (st1 := [.int o3.1]) (uX9_no (a := a) (i := i) ho3) kX9_no mX9_125 iX9_no vX9_no zX9 okX9_no ⟨Nat.le_of_ble_eq_true rfl, Nat.le_of_ble_eq_true rfl⟩ rfl rfl (q0 := 0) rfl rfl [0, 1, 2, 3, 4, 5, 6, 7, 8, 9, 10, 11, 12, 13, 14, 15, 16, 17, 18, 19, 20, 21, 22, 23, 24, 25, 26, 27, 28, 29, 30, 31, 32, 33] rfl rfl rfl rfl rfl hl.1 rfl (Nat.le_of_ble_eq_true rfl) ⟨Nat.le_refl 0, Nat.le_refl 0⟩ rfl dX9_put_9 (fun H locs hH => ?_)
    cases h
    exact e_i X hH dX9_put_12

def fX9_look (xs : SX9) (pa : Int32) (pb : Int32) : Option (Int64 × SX9) :=
  (fX9_isList pa).bind fun o1 =>
  (if o1 = (0 : Int32) then
  (fX9_far xs (-1 : Int32)).bind fun o3 =>
  some (o3.1, o3.2)
  else
  (fX9_notPlace xs pa pb).bind fun o2 =>
  (if o2 = (0 : Int32) then
  ga 60 (((20 : Int32) * pa) + pb) fun j1 =>
  some (((m_items xs) j1), xs)
  else
  some (((4000000000000000000 : Int64) - (o2.toInt64)), xs)))
set_option maxHeartbeats 4000000 in
set_option maxRecDepth 100000 in
theorem uX9_look {l : Launch} {g : GG} {a : Nat → Nat} {i : Nat} {xs : SX9} {pa : Int32} {pb : Int32} {o : (Int64 × SX9)} (h : fX9_look xs pa pb = some o) : mC l g yX9_look cX9_look 4 (some .long) (rM 2 47) [.ref (a i), .int pa, .int pb] (wX9 g a i xs) (wX9 g a i o.2) (some (.long o.1)) := by
  refine mC.ofW (by decide) (fun p e s m below meth c X hH ls _ hl => ?_) (Nat.le_of_ble_eq_true rfl)
  have hx := X.1
  have hb := X.2.1
  have hl : lv_has ls 4 [(0, .ref (a i)), (1, .int pa), (2, .int pb)] := hl
  unfold fX9_look at h
  suffices HH : ∀ (H : Heap) (locs : List Loc), mH g s (wX9 g a i xs) (wX9 g a i xs) H locs → W p l e (rM 2 47) s m _ below meth c H locs 0 0 (mZ g below _ s (wX9 g a i xs) (wX9 g a i o.2) (some (.long o.1))) (F0 m 0 ls []) from HH _ _ hH
  clear hH
  intro H locs hH
  refine lv_iload_n hx hb dX9_look_0 rfl (lv_at hl 1 rfl) ?_
  obtain ⟨o1, ho1, h⟩ := bd_x h
  refine r_S X hH (ws1 := (wX9 g a i xs)) (As := [.int pa]) (rest := []) (st1 := [.int o1]) (uX9_isList  ho1) kX9_isList mX9_366 sX9_isList zX9 okX9_isList ⟨Nat.le_of_ble_eq_true rfl, Nat.le_of_ble_eq_true rfl⟩ rfl rfl [] rfl rfl rfl (putl_self _ _ rfl) rfl hl.1 rfl (Nat.le_of_ble_eq_true rfl) ⟨Nat.le_refl 0, Nat.le_refl 0⟩ rfl dX9_look_1 (fun H locs hH => ?_)
  refine lv_if_ne (tgt := 13) hx hb dX9_look_4 (by decide) (fun c1 => ?_) (fun c1 => ?_)
  · have h := ie_x h c1
    refine lv_aload_n hx hb dX9_look_13 rfl (lv_at hl 0 rfl) ?_
    refine lv_iload_n hx hb dX9_look_14 rfl (lv_at hl 1 rfl) ?_
    refine lv_iload_n hx hb dX9_look_15 rfl (lv_at hl 2 rfl) ?_
    obtain ⟨o2, ho2, h⟩ := bd_x h
    refine r_V X hH (ws1 := (wX9 g a i xs)) (As := [.int pa, .int pb]) (rest := []) (st1 := [.int o2]) (uX9_notPlace (a := a) (i := i) ho2) kX9_notPlace mX9_369 iX9_notPlace vX9_notPlace zX9 okX9_notPlace ⟨Nat.le_of_ble_eq_true rfl, Nat.le_of_ble_eq_true rfl⟩ rfl rfl (q0 := 0) rfl rfl [0, 1, 2, 3, 4, 5, 6, 7, 8, 9, 10, 11, 12, 13, 14, 15, 16, 17, 18, 19, 20, 21, 22, 23, 24, 25, 26, 27, 28, 29, 30, 31, 32, 33] rfl rfl rfl (putl_self _ _ rfl) rfl hl.1 rfl (Nat.le_of_ble_eq_true rfl) ⟨Nat.le_refl 0, Nat.le_refl 0⟩ rfl dX9_look_16 (fun H locs hH => ?_)
    refine s_in X (lv' := [(3, .int o2), (0, .ref (a i)), (1, .int pa), (2, .int pb)]) hl rfl dX9_look_19 rfl (by decide) rfl (fun ls hl => ?_)
    refine lv_iload_n hx hb dX9_look_20 rfl (lv_at hl 0 rfl) ?_
    refine lv_if_eq (tgt := 33) hx hb dX9_look_21 (by decide) (fun c2 => ?_) (fun c2 => ?_)
    · have h := it_x h c2
      refine lv_aload_n hx hb dX9_look_33 rfl (lv_at hl 1 rfl) ?_
      refine f_get X hH 0 rfl rfl 42 (by decide) inX9 fX9_98 rfl dX9_look_34 ?_
      refine lv_bipush (v := (20 : Int32)) hx hb dX9_look_37 (by decide) ?_
      refine lv_iload_n hx hb dX9_look_39 rfl (lv_at hl 2 rfl) ?_
      refine lv_imul hx hb dX9_look_40 ?_
      refine lv_iload_n hx hb dX9_look_41 rfl (lv_at hl 3 rfl) ?_
      refine lv_iadd hx hb dX9_look_42 ?_
      obtain ⟨j1, ej1, hinj1, h⟩ := ga_x h
      refine a_ll X hH 28 rfl hinj1 ej1 dX9_look_43 ?_
      cases h
      exact e_l X hH dX9_look_44
    · have h := ie_x h c2
      refine lv_ldc2 hx hb X.2.2.2.2.1 (X.2.2.2.2.2.1 _ nX9_123) dX9_look_24 ?_
      refine lv_iload_n hx hb dX9_look_27 rfl (lv_at hl 0 rfl) ?_
      refine lv_i2l hx hb dX9_look_28 rfl ?_
      refine lv_lsub hx hb dX9_look_29 ?_
      refine lv_goto (tgt := 44) hx hb dX9_look_30 (by decide) ?_
      cases h
      exact e_l X hH dX9_look_44
  · have h := it_x h c1
    refine lv_aload_n hx hb dX9_look_7 rfl (lv_at hl 0 rfl) ?_
    refine lv_iconst (v := (-1 : Int32)) hx hb dX9_look_8 (by decide) ?_
    obtain ⟨o3, ho3, h⟩ := bd_x h
    refine r_V X hH (ws1 := (wX9 g a i o3.2)) (As := [.int (-1 : Int32)]) (rest := []) (st1 := [.long o3.1]) (uX9_far (a := a) (i := i) ho3) kX9_far mX9_272 iX9_far vX9_far zX9 okX9_far ⟨Nat.le_of_ble_eq_true rfl, Nat.le_of_ble_eq_true rfl⟩ rfl rfl (q0 := 0) rfl rfl [0, 1, 2, 3, 4, 5, 6, 7, 8, 9, 10, 11, 12, 13, 14, 15, 16, 17, 18, 19, 20, 21, 22, 23, 24, 25, 26, 27, 28, 29, 30, 31, 32, 33] rfl rfl rfl rfl rfl hl.1 rfl (Nat.le_of_ble_eq_true rfl) ⟨Nat.le_refl 0, Nat.le_refl 0⟩ rfl dX9_look_9 (fun H locs hH => ?_)
    cases h
    exact e_l X hH dX9_look_12

def fX9_isLaid (xs : SX9) (pa : Int32) (pb : Int64) (pc_ : Int64) : Option (Int32 × SX9) :=
  ga 3 pa fun j1 =>
  (fX9_isIn pb (0 : Int64) ((((m_listMany xs) j1) - (1 : Int32)).toInt64)).bind fun o1 =>
  (if o1 = (0 : Int32) then
  some ((0 : Int32), xs)
  else
  ga 60 (((20 : Int32) * pa) + (pb.toInt32)) fun j2 =>
  ltt ((m_items_s xs (vp_updL (m_items xs) j2 pc_))) fun xs1 =>
  some ((1 : Int32), xs1))
set_option maxHeartbeats 4000000 in
set_option maxRecDepth 100000 in
theorem uX9_isLaid {l : Launch} {g : GG} {a : Nat → Nat} {i : Nat} {xs : SX9} {pa : Int32} {pb : Int64} {pc_ : Int64} {o : (Int32 × SX9)} (h : fX9_isLaid xs pa pb pc_ = some o) : mC l g yX9_isLaid cX9_isLaid 6 (some .boolean) (rM 1 25) [.ref (a i), .int pa, .long pb, .long pc_] (wX9 g a i xs) (wX9 g a i o.2) (some (.int o.1)) := by
  refine mC.ofW (by decide) (fun p e s m below meth c X hH ls _ hl => ?_) (Nat.le_of_ble_eq_true rfl)
  have hx := X.1
  have hb := X.2.1
  have hl : lv_has ls 6 [(0, .ref (a i)), (1, .int pa), (2, .long pb), (4, .long pc_)] := hl
  unfold fX9_isLaid at h
  suffices HH : ∀ (H : Heap) (locs : List Loc), mH g s (wX9 g a i xs) (wX9 g a i xs) H locs → W p l e (rM 1 25) s m _ below meth c H locs 0 0 (mZ g below _ s (wX9 g a i xs) (wX9 g a i o.2) (some (.int o.1))) (F0 m 0 ls []) from HH _ _ hH
  clear hH
  intro H locs hH
  refine lv_lload_n hx hb dX9_isLaid_0 rfl (lv_at hl 2 rfl) ?_
  refine lv_lconst (v := (0 : Int64)) hx hb dX9_isLaid_1 (by decide) ?_
  refine lv_aload_n hx hb dX9_isLaid_2 rfl (lv_at hl 0 rfl) ?_
  refine f_get X hH 0 rfl rfl 43 (by decide) inX9 fX9_101 rfl dX9_isLaid_3 ?_
  refine lv_iload_n hx hb dX9_isLaid_6 rfl (lv_at hl 1 rfl) ?_
  obtain ⟨j1, ej1, hinj1, h⟩ := ga_x h
  refine a_il X hH 29 rfl hinj1 ej1 dX9_isLaid_7 ?_
  refine lv_iconst (v := (1 : Int32)) hx hb dX9_isLaid_8 (by decide) ?_
  refine lv_isub hx hb dX9_isLaid_9 ?_
  refine lv_i2l hx hb dX9_isLaid_10 rfl ?_
  obtain ⟨o1, ho1, h⟩ := bd_x h
  refine r_S X hH (ws1 := (wX9 g a i xs)) (As := [.long pb, .long (0 : Int64), .long ((((m_listMany xs) j1) - (1 : Int32)).toInt64)]) (rest := []) (st1 := [.int o1]) (uX9_isIn  ho1) kX9_isIn mX9_116 sX9_isIn zX9 okX9_isIn ⟨Nat.le_of_ble_eq_true rfl, Nat.le_of_ble_eq_true rfl⟩ rfl rfl [] rfl rfl rfl (putl_self _ _ rfl) rfl hl.1 rfl (Nat.le_of_ble_eq_true rfl) ⟨Nat.le_refl 0, Nat.le_refl 0⟩ rfl dX9_isLaid_11 (fun H locs hH => ?_)
  refine lv_if_ne (tgt := 19) hx hb dX9_isLaid_14 (by decide) (fun c1 => ?_) (fun c1 => ?_)
  · have h := ie_x h c1
    refine lv_aload_n hx hb dX9_isLaid_19 rfl (lv_at hl 0 rfl) ?_
    refine f_get X hH 0 rfl rfl 42 (by decide) inX9 fX9_98 rfl dX9_isLaid_20 ?_
    refine lv_bipush (v := (20 : Int32)) hx hb dX9_isLaid_23 (by decide) ?_
    refine lv_iload_n hx hb dX9_isLaid_25 rfl (lv_at hl 1 rfl) ?_
    refine lv_imul hx hb dX9_isLaid_26 ?_
    refine lv_lload_n hx hb dX9_isLaid_27 rfl (lv_at hl 2 rfl) ?_
    refine lv_l2i hx hb dX9_isLaid_28 rfl ?_
    refine lv_iadd hx hb dX9_isLaid_29 ?_
    refine lv_lload hx hb dX9_isLaid_30 (lv_at hl 3 rfl) ?_
    obtain ⟨j2, ej2, hinj2, h⟩ := ga_x h
    obtain ⟨xs1, exs1, h⟩ := ltt_x h
    refine a_ls X hH (ws1 := (wX9 g a i xs1)) 28 rfl hinj2 ej2 (by rw [exs1]; rfl) dX9_isLaid_32 (fun H locs hH => ?_)
    refine lv_iconst (v := (1 : Int32)) hx hb dX9_isLaid_33 (by decide) ?_
    cases h
    exact e_z X hH (by decide) dX9_isLaid_34
  · have h := it_x h c1
    refine lv_iconst (v := (0 : Int32)) hx hb dX9_isLaid_17 (by decide) ?_
    cases h
    exact e_z X hH (by decide) dX9_isLaid_18

def fX9_findTold (xs : SX9) (pa : Int32) (pb : Int32) : Option SX9 :=
  (fX9_findTime xs pa pb (0 : Int32)).bind fun o1 =>
  (if o1.1 = (0 : Int32) then
  ltt ((m_up_s o1.2 (1 : Int64))) fun xs3 =>
  ltt ((m_down_s xs3 (0 : Int64))) fun xs4 =>
  some xs4
  else
  (fX9_common (m_up o1.2) (m_down o1.2)).bind fun o2 =>
  gzl (o2) <|
  ltt ((m_up_s o1.2 ((m_up o1.2) / o2))) fun xs1 =>
  gzl (o2) <|
  ltt ((m_down_s xs1 ((m_down xs1) / o2))) fun xs2 =>
  some xs2)
set_option maxHeartbeats 4000000 in
set_option maxRecDepth 100000 in
theorem uX9_findTold {l : Launch} {g : GG} {a : Nat → Nat} {i : Nat} {xs : SX9} {pa : Int32} {pb : Int32} {o : SX9} (h : fX9_findTold xs pa pb = some o) : mC l g yX9_findTold cX9_findTold 5 none (rM 5 117) [.ref (a i), .int pa, .int pb] (wX9 g a i xs) (wX9 g a i o) none := by
  refine mC.ofW (by decide) (fun p e s m below meth c X hH ls _ hl => ?_) (Nat.le_of_ble_eq_true rfl)
  have hx := X.1
  have hb := X.2.1
  have hl : lv_has ls 5 [(0, .ref (a i)), (1, .int pa), (2, .int pb)] := hl
  unfold fX9_findTold at h
  suffices HH : ∀ (H : Heap) (locs : List Loc), mH g s (wX9 g a i xs) (wX9 g a i xs) H locs → W p l e (rM 5 117) s m _ below meth c H locs 0 0 (mZ g below _ s (wX9 g a i xs) (wX9 g a i o) none) (F0 m 0 ls []) from HH _ _ hH
  clear hH
  intro H locs hH
  refine lv_aload_n hx hb dX9_findTold_0 rfl (lv_at hl 0 rfl) ?_
  refine lv_iload_n hx hb dX9_findTold_1 rfl (lv_at hl 1 rfl) ?_
  refine lv_iload_n hx hb dX9_findTold_2 rfl (lv_at hl 2 rfl) ?_
  refine lv_iconst (v := (0 : Int32)) hx hb dX9_findTold_3 (by decide) ?_
  obtain ⟨o1, ho1, h⟩ := bd_x h
  refine r_V X hH (ws1 := (wX9 g a i o1.2)) (As := [.int pa, .int pb, .int (0 : Int32)]) (rest := []) (st1 := [.int o1.1]) (uX9_findTime (a := a) (i := i) ho1) kX9_findTime mX9_275 iX9_findTime vX9_findTime zX9 okX9_findTime ⟨Nat.le_of_ble_eq_true rfl, Nat.le_of_ble_eq_true rfl⟩ rfl rfl (q0 := 0) rfl rfl [0, 1, 2, 3, 4, 5, 6, 7, 8, 9, 10, 11, 12, 13, 14, 15, 16, 17, 18, 19, 20, 21, 22, 23, 24, 25, 26, 27, 28, 29, 30, 31, 32, 33] rfl rfl rfl rfl rfl hl.1 rfl (Nat.le_of_ble_eq_true rfl) ⟨Nat.le_refl 0, Nat.le_refl 0⟩ rfl dX9_findTold_4 (fun H locs hH => ?_)
  refine lv_if_ne (tgt := 21) hx hb dX9_findTold_7 (by decide) (fun c1 => ?_) (fun c1 => ?_)
  · have h := ie_x h c1
    refine lv_aload_n hx hb dX9_findTold_21 rfl (lv_at hl 0 rfl) ?_
    refine f_get X hH 0 rfl rfl 26 (by decide) inX9 fX9_248 rfl dX9_findTold_22 ?_
    refine lv_aload_n hx hb dX9_findTold_25 rfl (lv_at hl 0 rfl) ?_
    refine f_get X hH 0 rfl rfl 27 (by decide) inX9 fX9_252 rfl dX9_findTold_26 ?_
    obtain ⟨o2, ho2, h⟩ := bd_x h
    refine r_S X hH (ws1 := (wX9 g a i o1.2)) (As := [.long (m_up o1.2), .long (m_down o1.2)]) (rest := []) (st1 := [.long o2]) (uX9_common  ho2) kX9_common mX9_265 sX9_common zX9 okX9_common ⟨Nat.le_of_ble_eq_true rfl, Nat.le_of_ble_eq_true rfl⟩ rfl rfl [] rfl rfl rfl (putl_self _ _ rfl) rfl hl.1 rfl (Nat.le_of_ble_eq_true rfl) ⟨Nat.le_refl 0, Nat.le_refl 0⟩ rfl dX9_findTold_29 (fun H locs hH => ?_)
    refine s_ln X (lv' := [(3, .long o2), (0, .ref (a i)), (1, .int pa), (2, .int pb)]) hl rfl dX9_findTold_32 rfl (by decide) rfl (fun ls hl => ?_)
    refine lv_aload_n hx hb dX9_findTold_33 rfl (lv_at hl 1 rfl) ?_
    refine lv_dup hx hb dX9_findTold_34 rfl ?_
    refine f_get X hH 0 rfl rfl 26 (by decide) inX9 fX9_248 rfl dX9_findTold_35 ?_
    refine lv_lload_n hx hb dX9_findTold_38 rfl (lv_at hl 0 rfl) ?_
    obtain ⟨z1, h⟩ := gzl_x h
    refine lv_ldiv hx hb dX9_findTold_39 z1 ?_
    obtain ⟨xs1, exs1, h⟩ := ltt_x h
    refine f_put X hH (ws1 := (wX9 g a i xs1)) 0 rfl rfl 26 (by decide) inX9 tyX9 tyX9_ok nmX9 fX9_248 rfl rfl rfl (Nat.le_of_ble_eq_true rfl) (by rw [exs1]; rfl) dX9_findTold_40 (fun H locs hH => ?_)
    refine lv_aload_n hx hb dX9_findTold_43 rfl (lv_at hl 1 rfl) ?_
    refine lv_dup hx hb dX9_findTold_44 rfl ?_
    refine f_get X hH 0 rfl rfl 27 (by decide) inX9 fX9_252 rfl dX9_findTold_45 ?_
    refine lv_lload_n hx hb dX9_findTold_48 rfl (lv_at hl 0 rfl) ?_
    obtain ⟨z2, h⟩ := gzl_x h
    refine lv_ldiv hx hb dX9_findTold_49 z2 ?_
    obtain ⟨xs2, exs2, h⟩ := ltt_x h
    refine f_put X hH (ws1 := (wX9 g a i xs2)) 0 rfl rfl 27 (by decide) inX9 tyX9 tyX9_ok nmX9 fX9_252 rfl rfl rfl (Nat.le_of_ble_eq_true rfl) (by rw [exs2]; rfl) dX9_findTold_50 (fun H locs hH => ?_)
    cases h
    exact e_v X hH dX9_findTold_53
  · have h := it_x h c1
    refine lv_aload_n hx hb dX9_findTold_10 rfl (lv_at hl 0 rfl) ?_
    refine lv_lconst (v := (1 : Int64)) hx hb dX9_findTold_11 (by decide) ?_
    obtain ⟨xs3, exs3, h⟩ := ltt_x h
    refine f_put X hH (ws1 := (wX9 g a i xs3)) 0 rfl rfl 26 (by decide) inX9 tyX9 tyX9_ok nmX9 fX9_248 rfl rfl rfl (Nat.le_of_ble_eq_true rfl) (by rw [exs3]; rfl) dX9_findTold_12 (fun H locs hH => ?_)
    refine lv_aload_n hx hb dX9_findTold_15 rfl (lv_at hl 0 rfl) ?_
    refine lv_lconst (v := (0 : Int64)) hx hb dX9_findTold_16 (by decide) ?_
    obtain ⟨xs4, exs4, h⟩ := ltt_x h
    refine f_put X hH (ws1 := (wX9 g a i xs4)) 0 rfl rfl 27 (by decide) inX9 tyX9 tyX9_ok nmX9 fX9_252 rfl rfl rfl (Nat.le_of_ble_eq_true rfl) (by rw [exs4]; rfl) dX9_findTold_17 (fun H locs hH => ?_)
    cases h
    exact e_v X hH dX9_findTold_20

def qX9_lays_15 (pa : Int32) (pb : Int32) (pc_ : Int32)  (xs : SX9) : Option (Int32 × SX9) :=
  (fX9_no xs (-1 : Int32)).bind fun o2 =>
  some (o2.1, o2.2)
def qX9_lays_40 (pa : Int32) (pb : Int32) (pc_ : Int32)  : Nat → SX9 → Int32 → Option (Int32 × SX9)
  | 0, _, _ => none
  | fu + 1, xs, l4 =>
  (if (m_points xs) ≤ l4 then
  some ((m_points xs), xs)
  else
  (fX9_findTold xs l4 pb).bind fun o5 =>
  (fX9_isLaid o5 pa ((pc_.toInt64) + (((2 : Int32) * l4).toInt64)) (m_up o5)).bind fun o6 =>
  (if o6.1 = (0 : Int32) then
  some ((-13 : Int32), o6.2)
  else
  (fX9_isLaid o6.2 pa (((pc_.toInt64) + (((2 : Int32) * l4).toInt64)) + (1 : Int64)) (m_down o6.2)).bind fun o7 =>
  (if o7.1 = (0 : Int32) then
  some ((-13 : Int32), o7.2)
  else
  ltt (l4 + (1 : Int32)) fun v1 =>
  qX9_lays_40 pa pb pc_  fu o7.2 v1)))
def fX9_lays (xs : SX9) (pa : Int32) (pb : Int32) (pc_ : Int32) : Option (Int32 × SX9) :=
  (fX9_isList pa).bind fun o1 =>
  (if o1 = (0 : Int32) then
  qX9_lays_15 pa pb pc_ xs
  else
  (fX9_isPoint xs pb).bind fun o3 =>
  (if o3 = (0 : Int32) then
  qX9_lays_15 pa pb pc_ xs
  else
  ga 3 pa fun j1 =>
  (if (0 : Int32) ≤ ((m_listMany xs) j1) then
  (fX9_allThere xs).bind fun o4 =>
  qX9_lays_40 pa pb pc_ FU o4 (0 : Int32)
  else
  some ((-11 : Int32), xs))))
set_option maxHeartbeats 4000000 in
set_option maxRecDepth 100000 in
theorem pX9_lays_15 {p : Program} {l : Launch} {e : Env} {s : State} {m : MethodId} {args : Array Value} {below : List Frame} {meth : Method} {c : Code} {g : GG} {w0 : va_W} {a : Nat → Nat} {i : Nat} {pa : Int32} {pb : Int32} {pc_ : Int32} {o : (Int32 × SX9)} (X : mX g yX9_lays cX9_lays 5 (some .int) p s m args meth c w0) :
  ∀ (xs : SX9) (H : Heap) (locs : List Loc) (ls : Array Slot), qX9_lays_15 pa pb pc_ xs = some o → mH g s w0 (wX9 g a i xs) H locs → lv_has ls 5 [(0, .ref (a i)), (1, .int pa), (2, .int pb), (3, .int pc_)] → W p l e (rM 6 141) s m args below meth c H locs 0 0 (mZ g below args s w0 (wX9 g a i o.2) (some (.int o.1))) (F0 m 15 ls []) := by
  have hx := X.1
  have hb := X.2.1
  intro xs H locs ls h hH hl
  unfold qX9_lays_15 at h
  refine lv_aload_n hx hb dX9_lays_15 rfl (lv_at hl 0 rfl) ?_
  refine lv_iconst (v := (-1 : Int32)) hx hb dX9_lays_16 (by decide) ?_
  obtain ⟨o2, ho2, h⟩ := bd_x h
  refine r_V X hH (ws1 := (wX9 g a i o2.2)) (As := [.int (-1 : Int32)]) (rest := []) (st1 := [.int o2.1]) (uX9_no (a := a) (i := i) ho2) kX9_no mX9_125 iX9_no vX9_no zX9 okX9_no ⟨Nat.le_of_ble_eq_true rfl, Nat.le_of_ble_eq_true rfl⟩ rfl rfl (q0 := 0) rfl rfl [0, 1, 2, 3, 4, 5, 6, 7, 8, 9, 10, 11, 12, 13, 14, 15, 16, 17, 18, 19, 20, 21, 22, 23, 24, 25, 26, 27, 28, 29, 30, 31, 32, 33] rfl rfl rfl rfl rfl hl.1 rfl (Nat.le_of_ble_eq_true rfl) ⟨Nat.le_refl 0, Nat.le_refl 0⟩ rfl dX9_lays_17 (fun H locs hH => ?_)
  cases h
  exact e_i X hH dX9_lays_20
set_option maxHeartbeats 4000000 in
set_option maxRecDepth 100000 in
theorem pX9_lays_40 {p : Program} {l : Launch} {e : Env} {s : State} {m : MethodId} {args : Array Value} {below : List Frame} {meth : Method} {c : Code} {g : GG} {w0 : va_W} {a : Nat → Nat} {i : Nat} {pa : Int32} {pb : Int32} {pc_ : Int32} {o : (Int32 × SX9)} (X : mX g yX9_lays cX9_lays 5 (some .int) p s m args meth c w0) :
  ∀ (fu : Nat) (xs : SX9) (l4 : Int32) (H : Heap) (locs : List Loc) (ls : Array Slot), qX9_lays_40 pa pb pc_ fu xs l4 = some o → mH g s w0 (wX9 g a i xs) H locs → lv_has ls 5 [(0, .ref (a i)), (1, .int pa), (2, .int pb), (3, .int pc_), (4, .int l4)] → W p l e (rM 6 141) s m args below meth c H locs 0 0 (mZ g below args s w0 (wX9 g a i o.2) (some (.int o.1))) (F0 m 40 ls []) := by
  have hx := X.1
  have hb := X.2.1
  intro fu
  induction fu with
  | zero =>
    intro xs l4 H locs ls h
    unfold qX9_lays_40 at h
    cases h
  | succ fu ih =>
    intro xs l4 H locs ls h hH hl
    unfold qX9_lays_40 at h
    refine lv_iload hx hb dX9_lays_40 (lv_at hl 4 rfl) ?_
    refine lv_aload_n hx hb dX9_lays_42 rfl (lv_at hl 0 rfl) ?_
    refine f_get X hH 0 rfl rfl 0 (by decide) inX9 fX9_7 rfl dX9_lays_43 ?_
    refine lv_icmp_ge (tgt := 107) hx hb dX9_lays_46 (by decide) (fun c4 => ?_) (fun c4 => ?_)
    · have h := it_x h c4
      refine lv_aload_n hx hb dX9_lays_107 rfl (lv_at hl 0 rfl) ?_
      refine f_get X hH 0 rfl rfl 0 (by decide) inX9 fX9_7 rfl dX9_lays_108 ?_
      cases h
      exact e_i X hH dX9_lays_111
    · have h := ie_x h c4
      refine lv_aload_n hx hb dX9_lays_49 rfl (lv_at hl 0 rfl) ?_
      refine lv_iload hx hb dX9_lays_50 (lv_at hl 4 rfl) ?_
      refine lv_iload_n hx hb dX9_lays_52 rfl (lv_at hl 2 rfl) ?_
      obtain ⟨o5, ho5, h⟩ := bd_x h
      refine r_V X hH (ws1 := (wX9 g a i o5)) (As := [.int l4, .int pb]) (rest := []) (st1 := []) (uX9_findTold (a := a) (i := i) ho5) kX9_findTold mX9_372 iX9_findTold vX9_findTold zX9 okX9_findTold ⟨Nat.le_of_ble_eq_true rfl, Nat.le_of_ble_eq_true rfl⟩ rfl rfl (q0 := 0) rfl rfl [0, 1, 2, 3, 4, 5, 6, 7, 8, 9, 10, 11, 12, 13, 14, 15, 16, 17, 18, 19, 20, 21, 22, 23, 24, 25, 26, 27, 28, 29, 30, 31, 32, 33] rfl rfl rfl rfl rfl hl.1 rfl (Nat.le_of_ble_eq_true rfl) ⟨Nat.le_refl 0, Nat.le_refl 0⟩ rfl dX9_lays_53 (fun H locs hH => ?_)
      refine lv_aload_n hx hb dX9_lays_56 rfl (lv_at hl 0 rfl) ?_
      refine lv_iload_n hx hb dX9_lays_57 rfl (lv_at hl 1 rfl) ?_
      refine lv_iload_n hx hb dX9_lays_58 rfl (lv_at hl 3 rfl) ?_
      refine lv_i2l hx hb dX9_lays_59 rfl ?_
      refine lv_iconst (v := (2 : Int32)) hx hb dX9_lays_60 (by decide) ?_
      refine lv_iload hx hb dX9_lays_61 (lv_at hl 4 rfl) ?_
      refine lv_imul hx hb dX9_lays_63 ?_
      refine lv_i2l hx hb dX9_lays_64 rfl ?_
      refine lv_ladd hx hb dX9_lays_65 ?_
      refine lv_aload_n hx hb dX9_lays_66 rfl (lv_at hl 0 rfl) ?_
      refine f_get X hH 0 rfl rfl 26 (by decide) inX9 fX9_248 rfl dX9_lays_67 ?_
      obtain ⟨o6, ho6, h⟩ := bd_x h
      refine r_V X hH (ws1 := (wX9 g a i o6.2)) (As := [.int pa, .long ((pc_.toInt64) + (((2 : Int32) * l4).toInt64)), .long (m_up o5)]) (rest := []) (st1 := [.int o6.1]) (uX9_isLaid (a := a) (i := i) ho6) kX9_isLaid mX9_375 iX9_isLaid vX9_isLaid zX9 okX9_isLaid ⟨Nat.le_of_ble_eq_true rfl, Nat.le_of_ble_eq_true rfl⟩ rfl rfl (q0 := 0) rfl rfl [0, 1, 2, 3, 4, 5, 6, 7, 8, 9, 10, 11, 12, 13, 14, 15, 16, 17, 18, 19, 20, 21, 22, 23, 24, 25, 26, 27, 28, 29, 30, 31, 32, 33] rfl rfl rfl rfl rfl hl.1 rfl (Nat.le_of_ble_eq_true rfl) ⟨Nat.le_refl 0, Nat.le_refl 0⟩ rfl dX9_lays_70 (fun H locs hH => ?_)
      refine lv_if_eq (tgt := 98) hx hb dX9_lays_73 (by decide) (fun c5 => ?_) (fun c5 => ?_)
      · have h := it_x h c5
        refine lv_bipush (v := (-13 : Int32)) hx hb dX9_lays_98 (by decide) ?_
        cases h
        exact e_i X hH dX9_lays_100
      · have h := ie_x h c5
        refine lv_aload_n hx hb dX9_lays_76 rfl (lv_at hl 0 rfl) ?_
        refine lv_iload_n hx hb dX9_lays_77 rfl (lv_at hl 1 rfl) ?_
        refine lv_iload_n hx hb dX9_lays_78 rfl (lv_at hl 3 rfl) ?_
        refine lv_i2l hx hb dX9_lays_79 rfl ?_
        refine lv_iconst (v := (2 : Int32)) hx hb dX9_lays_80 (by decide) ?_
        refine lv_iload hx hb dX9_lays_81 (lv_at hl 4 rfl) ?_
        refine lv_imul hx hb dX9_lays_83 ?_
        refine lv_i2l hx hb dX9_lays_84 rfl ?_
        refine lv_ladd hx hb dX9_lays_85 ?_
        refine lv_lconst (v := (1 : Int64)) hx hb dX9_lays_86 (by decide) ?_
        refine lv_ladd hx hb dX9_lays_87 ?_
        refine lv_aload_n hx hb dX9_lays_88 rfl (lv_at hl 0 rfl) ?_
        refine f_get X hH 0 rfl rfl 27 (by decide) inX9 fX9_252 rfl dX9_lays_89 ?_
        obtain ⟨o7, ho7, h⟩ := bd_x h
        refine r_V X hH (ws1 := (wX9 g a i o7.2)) (As := [.int pa, .long (((pc_.toInt64) + (((2 : Int32) * l4).toInt64)) + (1 : Int64)), .long (m_down o6.2)]) (rest := []) (st1 := [.int o7.1]) (uX9_isLaid (a := a) (i := i) ho7) kX9_isLaid mX9_375 iX9_isLaid vX9_isLaid zX9 okX9_isLaid ⟨Nat.le_of_ble_eq_true rfl, Nat.le_of_ble_eq_true rfl⟩ rfl rfl (q0 := 0) rfl rfl [0, 1, 2, 3, 4, 5, 6, 7, 8, 9, 10, 11, 12, 13, 14, 15, 16, 17, 18, 19, 20, 21, 22, 23, 24, 25, 26, 27, 28, 29, 30, 31, 32, 33] rfl rfl rfl rfl rfl hl.1 rfl (Nat.le_of_ble_eq_true rfl) ⟨Nat.le_refl 0, Nat.le_refl 0⟩ rfl dX9_lays_92 (fun H locs hH => ?_)
        refine lv_if_ne (tgt := 101) hx hb dX9_lays_95 (by decide) (fun c6 => ?_) (fun c6 => ?_)
        · have h := ie_x h c6
          obtain ⟨v1, ev1, h⟩ := ltt_x h
          refine s_inc X (k := 4) (lv' := [(4, .int v1), (0, .ref (a i)), (1, .int pa), (2, .int pb), (3, .int pc_)]) hl rfl (by rw [ev1]; rfl) dX9_lays_101 (by decide) rfl (fun ls hl => ?_)
          refine lv_goto (tgt := 40) hx hb dX9_lays_104 (by decide) ?_
          exact ih o7.2 v1 H locs ls h hH (lv_sub hl [1, 2, 3, 4, 0] rfl)
        · have h := it_x h c6
          refine lv_bipush (v := (-13 : Int32)) hx hb dX9_lays_98 (by decide) ?_
          cases h
          exact e_i X hH dX9_lays_100
set_option maxHeartbeats 4000000 in
set_option maxRecDepth 100000 in
theorem uX9_lays {l : Launch} {g : GG} {a : Nat → Nat} {i : Nat} {xs : SX9} {pa : Int32} {pb : Int32} {pc_ : Int32} {o : (Int32 × SX9)} (h : fX9_lays xs pa pb pc_ = some o) : mC l g yX9_lays cX9_lays 5 (some .int) (rM 6 141) [.ref (a i), .int pa, .int pb, .int pc_] (wX9 g a i xs) (wX9 g a i o.2) (some (.int o.1)) := by
  refine mC.ofW (by decide) (fun p e s m below meth c X hH ls _ hl => ?_) (Nat.le_of_ble_eq_true rfl)
  have hx := X.1
  have hb := X.2.1
  have hl : lv_has ls 5 [(0, .ref (a i)), (1, .int pa), (2, .int pb), (3, .int pc_)] := hl
  unfold fX9_lays at h
  suffices HH : ∀ (H : Heap) (locs : List Loc), mH g s (wX9 g a i xs) (wX9 g a i xs) H locs → W p l e (rM 6 141) s m _ below meth c H locs 0 0 (mZ g below _ s (wX9 g a i xs) (wX9 g a i o.2) (some (.int o.1))) (F0 m 0 ls []) from HH _ _ hH
  clear hH
  intro H locs hH
  refine lv_iload_n hx hb dX9_lays_0 rfl (lv_at hl 1 rfl) ?_
  obtain ⟨o1, ho1, h⟩ := bd_x h
  refine r_S X hH (ws1 := (wX9 g a i xs)) (As := [.int pa]) (rest := []) (st1 := [.int o1]) (uX9_isList  ho1) kX9_isList mX9_366 sX9_isList zX9 okX9_isList ⟨Nat.le_of_ble_eq_true rfl, Nat.le_of_ble_eq_true rfl⟩ rfl rfl [] rfl rfl rfl (putl_self _ _ rfl) rfl hl.1 rfl (Nat.le_of_ble_eq_true rfl) ⟨Nat.le_refl 0, Nat.le_refl 0⟩ rfl dX9_lays_1 (fun H locs hH => ?_)
  refine lv_if_eq (tgt := 15) hx hb dX9_lays_4 (by decide) (fun c1 => ?_) (fun c1 => ?_)
  · have h := it_x h c1
    exact pX9_lays_15 X  xs H locs ls h hH (lv_sub hl [0, 1, 2, 3] rfl)
  · have h := ie_x h c1
    refine lv_aload_n hx hb dX9_lays_7 rfl (lv_at hl 0 rfl) ?_
    refine lv_iload_n hx hb dX9_lays_8 rfl (lv_at hl 2 rfl) ?_
    obtain ⟨o3, ho3, h⟩ := bd_x h
    refine r_V X hH (ws1 := (wX9 g a i xs)) (As := [.int pb]) (rest := []) (st1 := [.int o3]) (uX9_isPoint (a := a) (i := i) ho3) kX9_isPoint mX9_141 iX9_isPoint vX9_isPoint zX9 okX9_isPoint ⟨Nat.le_of_ble_eq_true rfl, Nat.le_of_ble_eq_true rfl⟩ rfl rfl (q0 := 0) rfl rfl [0, 1, 2, 3, 4, 5, 6, 7, 8, 9, 10, 11, 12, 13, 14, 15, 16, 17, 18, 19, 20, 21, 22, 23, 24, 25, 26, 27, 28, 29, 30, 31, 32, 33] rfl rfl rfl (putl_self _ _ rfl) rfl hl.1 rfl (Nat.le_of_ble_eq_true rfl) ⟨Nat.le_refl 0, Nat.le_refl 0⟩ rfl dX9_lays_9 (fun H locs hH => ?_)
    refine lv_if_ne (tgt := 21) hx hb dX9_lays_12 (by decide) (fun c2 => ?_) (fun c2 => ?_)
    · have h := ie_x h c2
      refine lv_aload_n hx hb dX9_lays_21 rfl (lv_at hl 0 rfl) ?_
      refine f_get X hH 0 rfl rfl 43 (by decide) inX9 fX9_101 rfl dX9_lays_22 ?_
      refine lv_iload_n hx hb dX9_lays_25 rfl (lv_at hl 1 rfl) ?_
      obtain ⟨j1, ej1, hinj1, h⟩ := ga_x h
      refine a_il X hH 29 rfl hinj1 ej1 dX9_lays_26 ?_
      refine lv_if_ge (tgt := 33) hx hb dX9_lays_27 (by decide) (fun c3 => ?_) (fun c3 => ?_)
      · have h := it_x h c3
        refine lv_aload_n hx hb dX9_lays_33 rfl (lv_at hl 0 rfl) ?_
        obtain ⟨o4, ho4, h⟩ := bd_x h
        refine r_V X hH (ws1 := (wX9 g a i o4)) (As := []) (rest := []) (st1 := []) (uX9_allThere (a := a) (i := i) ho4) kX9_allThere mX9_230 iX9_allThere vX9_allThere zX9 okX9_allThere ⟨Nat.le_of_ble_eq_true rfl, Nat.le_of_ble_eq_true rfl⟩ rfl rfl (q0 := 0) rfl rfl [0, 1, 2, 3, 4, 5, 6, 7, 8, 9, 10, 11, 12, 13, 14, 15, 16, 17, 18, 19, 20, 21, 22, 23, 24, 25, 26, 27, 28, 29, 30, 31, 32, 33] rfl rfl rfl rfl rfl hl.1 rfl (Nat.le_of_ble_eq_true rfl) ⟨Nat.le_refl 0, Nat.le_refl 0⟩ rfl dX9_lays_34 (fun H locs hH => ?_)
        refine lv_iconst (v := (0 : Int32)) hx hb dX9_lays_37 (by decide) ?_
        refine s_i X (lv' := [(4, .int (0 : Int32)), (0, .ref (a i)), (1, .int pa), (2, .int pb), (3, .int pc_)]) hl rfl dX9_lays_38 (by decide) rfl (fun ls hl => ?_)
        exact pX9_lays_40 X FU o4 (0 : Int32) H locs ls h hH (lv_sub hl [1, 2, 3, 4, 0] rfl)
      · have h := ie_x h c3
        refine lv_bipush (v := (-11 : Int32)) hx hb dX9_lays_30 (by decide) ?_
        cases h
        exact e_i X hH dX9_lays_32
    · have h := it_x h c2
      exact pX9_lays_15 X  xs H locs ls h hH (lv_sub hl [0, 1, 2, 3] rfl)

def qX9_judge_15 (pa : Int32) (pb : Int32)  (xs : SX9) : Option (Int32 × SX9) :=
  (fX9_no xs (-1 : Int32)).bind fun o2 =>
  some (o2.1, o2.2)
def qX9_judge_114 (pa : Int32) (pb : Int32) (k56 : SX9 → Int32 → Int32 → Option (Int32 × SX9)) (xs : SX9) (l3 : Int32) (l4 : Int32) (t0 : Int64) (t1 : Int64) : Option (Int32 × SX9) :=
  (if t0 = t1 then
  ltt (l4 + (1 : Int32)) fun v2 =>
  k56 xs l3 v2
  else
  some (l3, xs))
def qX9_judge_56 (pa : Int32) (pb : Int32) (k39 : SX9 → Int32 → Option (Int32 × SX9)) : Nat → SX9 → Int32 → Int32 → Option (Int32 × SX9)
  | 0, _, _, _ => none
  | fu + 1, xs, l3, l4 =>
  (if (2 : Int32) ≤ l4 then
  ltt (l3 + (1 : Int32)) fun v1 =>
  k39 xs v1
  else
  ga 3 pa fun j2 =>
  (if (((2 : Int32) * l3) + l4) < ((m_listMany xs) j2) then
  ga 60 ((((20 : Int32) * pa) + ((2 : Int32) * l3)) + l4) fun j3 =>
  (if l4 = (0 : Int32) then
  qX9_judge_114 pa pb (qX9_judge_56 pa pb k39 fu) xs l3 l4 ((m_items xs) j3) (m_up xs)
  else
  qX9_judge_114 pa pb (qX9_judge_56 pa pb k39 fu) xs l3 l4 ((m_items xs) j3) (m_down xs))
  else
  some (((100 : Int32) + l3), xs)))
def qX9_judge_39 (pa : Int32) (pb : Int32)  : Nat → SX9 → Int32 → Option (Int32 × SX9)
  | 0, _, _ => none
  | fu + 1, xs, l3 =>
  (if (m_points xs) ≤ l3 then
  some ((-9 : Int32), xs)
  else
  (fX9_findTold xs l3 pb).bind fun o5 =>
  qX9_judge_56 pa pb (qX9_judge_39 pa pb  fu) FU o5 l3 (0 : Int32))
def fX9_judge (xs : SX9) (pa : Int32) (pb : Int32) : Option (Int32 × SX9) :=
  (fX9_isList pa).bind fun o1 =>
  (if o1 = (0 : Int32) then
  qX9_judge_15 pa pb xs
  else
  (fX9_isPoint xs pb).bind fun o3 =>
  (if o3 = (0 : Int32) then
  qX9_judge_15 pa pb xs
  else
  ga 3 pa fun j1 =>
  (if (0 : Int32) ≤ ((m_listMany xs) j1) then
  (fX9_allThere xs).bind fun o4 =>
  qX9_judge_39 pa pb FU o4 (0 : Int32)
  else
  some ((-11 : Int32), xs))))
set_option maxHeartbeats 4000000 in
set_option maxRecDepth 100000 in
theorem pX9_judge_15 {p : Program} {l : Launch} {e : Env} {s : State} {m : MethodId} {args : Array Value} {below : List Frame} {meth : Method} {c : Code} {g : GG} {w0 : va_W} {a : Nat → Nat} {i : Nat} {pa : Int32} {pb : Int32} {o : (Int32 × SX9)} (X : mX g yX9_judge cX9_judge 5 (some .int) p s m args meth c w0) :
  ∀ (xs : SX9) (H : Heap) (locs : List Loc) (ls : Array Slot), qX9_judge_15 pa pb xs = some o → mH g s w0 (wX9 g a i xs) H locs → lv_has ls 5 [(0, .ref (a i)), (1, .int pa), (2, .int pb)] → W p l e (rM 6 141) s m args below meth c H locs 0 0 (mZ g below args s w0 (wX9 g a i o.2) (some (.int o.1))) (F0 m 15 ls []) := by
  have hx := X.1
  have hb := X.2.1
  intro xs H locs ls h hH hl
  unfold qX9_judge_15 at h
  refine lv_aload_n hx hb dX9_judge_15 rfl (lv_at hl 0 rfl) ?_
  refine lv_iconst (v := (-1 : Int32)) hx hb dX9_judge_16 (by decide) ?_
  obtain ⟨o2, ho2, h⟩ := bd_x h
  refine r_V X hH (ws1 := (wX9 g a i o2.2)) (As := [.int (-1 : Int32)]) (rest := []) (st1 := [.int o2.1]) (uX9_no (a := a) (i := i) ho2) kX9_no mX9_125 iX9_no vX9_no zX9 okX9_no ⟨Nat.le_of_ble_eq_true rfl, Nat.le_of_ble_eq_true rfl⟩ rfl rfl (q0 := 0) rfl rfl [0, 1, 2, 3, 4, 5, 6, 7, 8, 9, 10, 11, 12, 13, 14, 15, 16, 17, 18, 19, 20, 21, 22, 23, 24, 25, 26, 27, 28, 29, 30, 31, 32, 33] rfl rfl rfl rfl rfl hl.1 rfl (Nat.le_of_ble_eq_true rfl) ⟨Nat.le_refl 0, Nat.le_refl 0⟩ rfl dX9_judge_17 (fun H locs hH => ?_)
  cases h
  exact e_i X hH dX9_judge_20
set_option maxHeartbeats 4000000 in
set_option maxRecDepth 100000 in
theorem pX9_judge_114 {p : Program} {l : Launch} {e : Env} {s : State} {m : MethodId} {args : Array Value} {below : List Frame} {meth : Method} {c : Code} {g : GG} {w0 : va_W} {a : Nat → Nat} {i : Nat} {pa : Int32} {pb : Int32} {o : (Int32 × SX9)} (X : mX g yX9_judge cX9_judge 5 (some .int) p s m args meth c w0)
  {k56 : SX9 → Int32 → Int32 → Option (Int32 × SX9)} (K56 : ∀ (xs : SX9) (l3 : Int32) (l4 : Int32) (H : Heap) (locs : List Loc) (ls : Array Slot), k56 xs l3 l4 = some o → mH g s w0 (wX9 g a i xs) H locs → lv_has ls 5 [(0, .ref (a i)), (1, .int pa), (2, .int pb), (3, .int l3), (4, .int l4)] → W p l e (rM 6 141) s m args below meth c H locs 0 0 (mZ g below args s w0 (wX9 g a i o.2) (some (.int o.1))) (F0 m 56 ls [])) :
  ∀ (xs : SX9) (l3 : Int32) (l4 : Int32) (t0 : Int64) (t1 : Int64) (H : Heap) (locs : List Loc) (ls : Array Slot), qX9_judge_114 pa pb k56 xs l3 l4 t0 t1 = some o → mH g s w0 (wX9 g a i xs) H locs → lv_has ls 5 [(0, .ref (a i)), (1, .int pa), (2, .int pb), (3, .int l3), (4, .int l4)] → W p l e (rM 6 141) s m args below meth c H locs 0 0 (mZ g below args s w0 (wX9 g a i o.2) (some (.int o.1))) (F0 m 114 ls [.long t1, .long t0]) := by
  have hx := X.1
  have hb := X.2.1
  intro xs l3 l4 t0 t1 H locs ls h hH hl
  unfold qX9_judge_114 at h
  refine W.lcmp hx hb dX9_judge_114 ?_
  refine lv_if_eq (tgt := 120) hx hb dX9_judge_115 (by decide) (fun c8 => ?_) (fun c8 => ?_)
  · have h := it_x h ((lg_cmp_eq t0 t1).mp c8)
    obtain ⟨v2, ev2, h⟩ := ltt_x h
    refine s_inc X (k := 4) (lv' := [(4, .int v2), (0, .ref (a i)), (1, .int pa), (2, .int pb), (3, .int l3)]) hl rfl (by rw [ev2]; rfl) dX9_judge_120 (by decide) rfl (fun ls hl => ?_)
    refine lv_goto (tgt := 56) hx hb dX9_judge_123 (by decide) ?_
    exact K56 xs l3 v2 H locs ls h hH (lv_sub hl [1, 2, 3, 4, 0] rfl)
  · have h := ie_x h (mt (lg_cmp_eq t0 t1).mpr c8)
    refine lv_iload_n hx hb dX9_judge_118 rfl (lv_at hl 3 rfl) ?_
    cases h
    exact e_i X hH dX9_judge_119
set_option maxHeartbeats 4000000 in
set_option maxRecDepth 100000 in
theorem pX9_judge_56 {p : Program} {l : Launch} {e : Env} {s : State} {m : MethodId} {args : Array Value} {below : List Frame} {meth : Method} {c : Code} {g : GG} {w0 : va_W} {a : Nat → Nat} {i : Nat} {pa : Int32} {pb : Int32} {o : (Int32 × SX9)} (X : mX g yX9_judge cX9_judge 5 (some .int) p s m args meth c w0)
  {k39 : SX9 → Int32 → Option (Int32 × SX9)} (K39 : ∀ (xs : SX9) (l3 : Int32) (H : Heap) (locs : List Loc) (ls : Array Slot), k39 xs l3 = some o → mH g s w0 (wX9 g a i xs) H locs → lv_has ls 5 [(0, .ref (a i)), (1, .int pa), (2, .int pb), (3, .int l3)] → W p l e (rM 6 141) s m args below meth c H locs 0 0 (mZ g below args s w0 (wX9 g a i o.2) (some (.int o.1))) (F0 m 39 ls [])) :
  ∀ (fu : Nat) (xs : SX9) (l3 : Int32) (l4 : Int32) (H : Heap) (locs : List Loc) (ls : Array Slot), qX9_judge_56 pa pb k39 fu xs l3 l4 = some o → mH g s w0 (wX9 g a i xs) H locs → lv_has ls 5 [(0, .ref (a i)), (1, .int pa), (2, .int pb), (3, .int l3), (4, .int l4)] → W p l e (rM 6 141) s m args below meth c H locs 0 0 (mZ g below args s w0 (wX9 g a i o.2) (some (.int o.1))) (F0 m 56 ls []) := by
  have hx := X.1
  have hb := X.2.1
  intro fu
  induction fu with
  | zero =>
    intro xs l3 l4 H locs ls h
    unfold qX9_judge_56 at h
    cases h
  | succ fu ih =>
    intro xs l3 l4 H locs ls h hH hl
    unfold qX9_judge_56 at h
    refine lv_iload hx hb dX9_judge_56 (lv_at hl 4 rfl) ?_
    refine lv_iconst (v := (2 : Int32)) hx hb dX9_judge_58 (by decide) ?_
    refine lv_icmp_ge (tgt := 126) hx hb dX9_judge_59 (by decide) (fun c5 => ?_) (fun c5 => ?_)
    · have h := it_x h c5
      obtain ⟨v1, ev1, h⟩ := ltt_x h
      refine s_inc X (k := 3) (lv' := [(3, .int v1), (0, .ref (a i)), (1, .int pa), (2, .int pb), (4, .int l4)]) hl rfl (by rw [ev1]; rfl) dX9_judge_126 (by decide) rfl (fun ls hl => ?_)
      refine lv_goto (tgt := 39) hx hb dX9_judge_129 (by decide) ?_
      exact K39 xs v1 H locs ls h hH (lv_sub hl [1, 2, 3, 0] rfl)
    · have h := ie_x h c5
      refine lv_iconst (v := (2 : Int32)) hx hb dX9_judge_62 (by decide) ?_
      refine lv_iload_n hx hb dX9_judge_63 rfl (lv_at hl 3 rfl) ?_
      refine lv_imul hx hb dX9_judge_64 ?_
      refine lv_iload hx hb dX9_judge_65 (lv_at hl 4 rfl) ?_
      refine lv_iadd hx hb dX9_judge_67 ?_
      refine lv_aload_n hx hb dX9_judge_68 rfl (lv_at hl 0 rfl) ?_
      refine f_get X hH 0 rfl rfl 43 (by decide) inX9 fX9_101 rfl dX9_judge_69 ?_
      refine lv_iload_n hx hb dX9_judge_72 rfl (lv_at hl 1 rfl) ?_
      obtain ⟨j2, ej2, hinj2, h⟩ := ga_x h
      refine a_il X hH 29 rfl hinj2 ej2 dX9_judge_73 ?_
      refine lv_icmp_lt (tgt := 82) hx hb dX9_judge_74 (by decide) (fun c6 => ?_) (fun c6 => ?_)
      · have h := it_x h c6
        refine lv_aload_n hx hb dX9_judge_82 rfl (lv_at hl 0 rfl) ?_
        refine f_get X hH 0 rfl rfl 42 (by decide) inX9 fX9_98 rfl dX9_judge_83 ?_
        refine lv_bipush (v := (20 : Int32)) hx hb dX9_judge_86 (by decide) ?_
        refine lv_iload_n hx hb dX9_judge_88 rfl (lv_at hl 1 rfl) ?_
        refine lv_imul hx hb dX9_judge_89 ?_
        refine lv_iconst (v := (2 : Int32)) hx hb dX9_judge_90 (by decide) ?_
        refine lv_iload_n hx hb dX9_judge_91 rfl (lv_at hl 3 rfl) ?_
        refine lv_imul hx hb dX9_judge_92 ?_
        refine lv_iadd hx hb dX9_judge_93 ?_
        refine lv_iload hx hb dX9_judge_94 (lv_at hl 4 rfl) ?_
        refine lv_iadd hx hb dX9_judge_96 ?_
        obtain ⟨j3, ej3, hinj3, h⟩ := ga_x h
        refine a_ll X hH 28 rfl hinj3 ej3 dX9_judge_97 ?_
        refine lv_iload hx hb dX9_judge_98 (lv_at hl 4 rfl) ?_
        refine lv_if_ne (tgt := 110) hx hb dX9_judge_100 (by decide) (fun c7 => ?_) (fun c7 => ?_)
        · have h := ie_x h c7
          refine lv_aload_n hx hb dX9_judge_110 rfl (lv_at hl 0 rfl) ?_
          refine f_get X hH 0 rfl rfl 27 (by decide) inX9 fX9_252 rfl dX9_judge_111 ?_
          exact pX9_judge_114 X ih xs l3 l4 ((m_items xs) j3) (m_down xs) H locs ls h hH (lv_sub hl [0, 1, 2, 3, 4] rfl)
        · have h := it_x h c7
          refine lv_aload_n hx hb dX9_judge_103 rfl (lv_at hl 0 rfl) ?_
          refine f_get X hH 0 rfl rfl 26 (by decide) inX9 fX9_248 rfl dX9_judge_104 ?_
          refine lv_goto (tgt := 114) hx hb dX9_judge_107 (by decide) ?_
          exact pX9_judge_114 X ih xs l3 l4 ((m_items xs) j3) (m_up xs) H locs ls h hH (lv_sub hl [0, 1, 2, 3, 4] rfl)
      · have h := ie_x h c6
        refine lv_bipush (v := (100 : Int32)) hx hb dX9_judge_77 (by decide) ?_
        refine lv_iload_n hx hb dX9_judge_79 rfl (lv_at hl 3 rfl) ?_
        refine lv_iadd hx hb dX9_judge_80 ?_
        cases h
        exact e_i X hH dX9_judge_81
set_option maxHeartbeats 4000000 in
set_option maxRecDepth 100000 in
theorem pX9_judge_39 {p : Program} {l : Launch} {e : Env} {s : State} {m : MethodId} {args : Array Value} {below : List Frame} {meth : Method} {c : Code} {g : GG} {w0 : va_W} {a : Nat → Nat} {i : Nat} {pa : Int32} {pb : Int32} {o : (Int32 × SX9)} (X : mX g yX9_judge cX9_judge 5 (some .int) p s m args meth c w0) :
  ∀ (fu : Nat) (xs : SX9) (l3 : Int32) (H : Heap) (locs : List Loc) (ls : Array Slot), qX9_judge_39 pa pb fu xs l3 = some o → mH g s w0 (wX9 g a i xs) H locs → lv_has ls 5 [(0, .ref (a i)), (1, .int pa), (2, .int pb), (3, .int l3)] → W p l e (rM 6 141) s m args below meth c H locs 0 0 (mZ g below args s w0 (wX9 g a i o.2) (some (.int o.1))) (F0 m 39 ls []) := by
  have hx := X.1
  have hb := X.2.1
  intro fu
  induction fu with
  | zero =>
    intro xs l3 H locs ls h
    unfold qX9_judge_39 at h
    cases h
  | succ fu ih =>
    intro xs l3 H locs ls h hH hl
    unfold qX9_judge_39 at h
    refine lv_iload_n hx hb dX9_judge_39 rfl (lv_at hl 3 rfl) ?_
    refine lv_aload_n hx hb dX9_judge_40 rfl (lv_at hl 0 rfl) ?_
    refine f_get X hH 0 rfl rfl 0 (by decide) inX9 fX9_7 rfl dX9_judge_41 ?_
    refine lv_icmp_ge (tgt := 132) hx hb dX9_judge_44 (by decide) (fun c4 => ?_) (fun c4 => ?_)
    · have h := it_x h c4
      refine lv_bipush (v := (-9 : Int32)) hx hb dX9_judge_132 (by decide) ?_
      cases h
      exact e_i X hH dX9_judge_134
    · have h := ie_x h c4
      refine lv_aload_n hx hb dX9_judge_47 rfl (lv_at hl 0 rfl) ?_
      refine lv_iload_n hx hb dX9_judge_48 rfl (lv_at hl 3 rfl) ?_
      refine lv_iload_n hx hb dX9_judge_49 rfl (lv_at hl 2 rfl) ?_
      obtain ⟨o5, ho5, h⟩ := bd_x h
      refine r_V X hH (ws1 := (wX9 g a i o5)) (As := [.int l3, .int pb]) (rest := []) (st1 := []) (uX9_findTold (a := a) (i := i) ho5) kX9_findTold mX9_372 iX9_findTold vX9_findTold zX9 okX9_findTold ⟨Nat.le_of_ble_eq_true rfl, Nat.le_of_ble_eq_true rfl⟩ rfl rfl (q0 := 0) rfl rfl [0, 1, 2, 3, 4, 5, 6, 7, 8, 9, 10, 11, 12, 13, 14, 15, 16, 17, 18, 19, 20, 21, 22, 23, 24, 25, 26, 27, 28, 29, 30, 31, 32, 33] rfl rfl rfl rfl rfl hl.1 rfl (Nat.le_of_ble_eq_true rfl) ⟨Nat.le_refl 0, Nat.le_refl 0⟩ rfl dX9_judge_50 (fun H locs hH => ?_)
      refine lv_iconst (v := (0 : Int32)) hx hb dX9_judge_53 (by decide) ?_
      refine s_i X (lv' := [(4, .int (0 : Int32)), (0, .ref (a i)), (1, .int pa), (2, .int pb), (3, .int l3)]) hl rfl dX9_judge_54 (by decide) rfl (fun ls hl => ?_)
      exact pX9_judge_56 X ih FU o5 l3 (0 : Int32) H locs ls h hH (lv_sub hl [1, 2, 3, 4, 0] rfl)
set_option maxHeartbeats 4000000 in
set_option maxRecDepth 100000 in
theorem uX9_judge {l : Launch} {g : GG} {a : Nat → Nat} {i : Nat} {xs : SX9} {pa : Int32} {pb : Int32} {o : (Int32 × SX9)} (h : fX9_judge xs pa pb = some o) : mC l g yX9_judge cX9_judge 5 (some .int) (rM 6 141) [.ref (a i), .int pa, .int pb] (wX9 g a i xs) (wX9 g a i o.2) (some (.int o.1)) := by
  refine mC.ofW (by decide) (fun p e s m below meth c X hH ls _ hl => ?_) (Nat.le_of_ble_eq_true rfl)
  have hx := X.1
  have hb := X.2.1
  have hl : lv_has ls 5 [(0, .ref (a i)), (1, .int pa), (2, .int pb)] := hl
  unfold fX9_judge at h
  suffices HH : ∀ (H : Heap) (locs : List Loc), mH g s (wX9 g a i xs) (wX9 g a i xs) H locs → W p l e (rM 6 141) s m _ below meth c H locs 0 0 (mZ g below _ s (wX9 g a i xs) (wX9 g a i o.2) (some (.int o.1))) (F0 m 0 ls []) from HH _ _ hH
  clear hH
  intro H locs hH
  refine lv_iload_n hx hb dX9_judge_0 rfl (lv_at hl 1 rfl) ?_
  obtain ⟨o1, ho1, h⟩ := bd_x h
  refine r_S X hH (ws1 := (wX9 g a i xs)) (As := [.int pa]) (rest := []) (st1 := [.int o1]) (uX9_isList  ho1) kX9_isList mX9_366 sX9_isList zX9 okX9_isList ⟨Nat.le_of_ble_eq_true rfl, Nat.le_of_ble_eq_true rfl⟩ rfl rfl [] rfl rfl rfl (putl_self _ _ rfl) rfl hl.1 rfl (Nat.le_of_ble_eq_true rfl) ⟨Nat.le_refl 0, Nat.le_refl 0⟩ rfl dX9_judge_1 (fun H locs hH => ?_)
  refine lv_if_eq (tgt := 15) hx hb dX9_judge_4 (by decide) (fun c1 => ?_) (fun c1 => ?_)
  · have h := it_x h c1
    exact pX9_judge_15 X  xs H locs ls h hH (lv_sub hl [0, 1, 2] rfl)
  · have h := ie_x h c1
    refine lv_aload_n hx hb dX9_judge_7 rfl (lv_at hl 0 rfl) ?_
    refine lv_iload_n hx hb dX9_judge_8 rfl (lv_at hl 2 rfl) ?_
    obtain ⟨o3, ho3, h⟩ := bd_x h
    refine r_V X hH (ws1 := (wX9 g a i xs)) (As := [.int pb]) (rest := []) (st1 := [.int o3]) (uX9_isPoint (a := a) (i := i) ho3) kX9_isPoint mX9_141 iX9_isPoint vX9_isPoint zX9 okX9_isPoint ⟨Nat.le_of_ble_eq_true rfl, Nat.le_of_ble_eq_true rfl⟩ rfl rfl (q0 := 0) rfl rfl [0, 1, 2, 3, 4, 5, 6, 7, 8, 9, 10, 11, 12, 13, 14, 15, 16, 17, 18, 19, 20, 21, 22, 23, 24, 25, 26, 27, 28, 29, 30, 31, 32, 33] rfl rfl rfl (putl_self _ _ rfl) rfl hl.1 rfl (Nat.le_of_ble_eq_true rfl) ⟨Nat.le_refl 0, Nat.le_refl 0⟩ rfl dX9_judge_9 (fun H locs hH => ?_)
    refine lv_if_ne (tgt := 21) hx hb dX9_judge_12 (by decide) (fun c2 => ?_) (fun c2 => ?_)
    · have h := ie_x h c2
      refine lv_aload_n hx hb dX9_judge_21 rfl (lv_at hl 0 rfl) ?_
      refine f_get X hH 0 rfl rfl 43 (by decide) inX9 fX9_101 rfl dX9_judge_22 ?_
      refine lv_iload_n hx hb dX9_judge_25 rfl (lv_at hl 1 rfl) ?_
      obtain ⟨j1, ej1, hinj1, h⟩ := ga_x h
      refine a_il X hH 29 rfl hinj1 ej1 dX9_judge_26 ?_
      refine lv_if_ge (tgt := 33) hx hb dX9_judge_27 (by decide) (fun c3 => ?_) (fun c3 => ?_)
      · have h := it_x h c3
        refine lv_aload_n hx hb dX9_judge_33 rfl (lv_at hl 0 rfl) ?_
        obtain ⟨o4, ho4, h⟩ := bd_x h
        refine r_V X hH (ws1 := (wX9 g a i o4)) (As := []) (rest := []) (st1 := []) (uX9_allThere (a := a) (i := i) ho4) kX9_allThere mX9_230 iX9_allThere vX9_allThere zX9 okX9_allThere ⟨Nat.le_of_ble_eq_true rfl, Nat.le_of_ble_eq_true rfl⟩ rfl rfl (q0 := 0) rfl rfl [0, 1, 2, 3, 4, 5, 6, 7, 8, 9, 10, 11, 12, 13, 14, 15, 16, 17, 18, 19, 20, 21, 22, 23, 24, 25, 26, 27, 28, 29, 30, 31, 32, 33] rfl rfl rfl rfl rfl hl.1 rfl (Nat.le_of_ble_eq_true rfl) ⟨Nat.le_refl 0, Nat.le_refl 0⟩ rfl dX9_judge_34 (fun H locs hH => ?_)
        refine lv_iconst (v := (0 : Int32)) hx hb dX9_judge_37 (by decide) ?_
        refine s_in X (lv' := [(3, .int (0 : Int32)), (0, .ref (a i)), (1, .int pa), (2, .int pb)]) hl rfl dX9_judge_38 rfl (by decide) rfl (fun ls hl => ?_)
        exact pX9_judge_39 X FU o4 (0 : Int32) H locs ls h hH (lv_sub hl [1, 2, 3, 0] rfl)
      · have h := ie_x h c3
        refine lv_bipush (v := (-11 : Int32)) hx hb dX9_judge_30 (by decide) ?_
        cases h
        exact e_i X hH dX9_judge_32
    · have h := it_x h c2
      exact pX9_judge_15 X  xs H locs ls h hH (lv_sub hl [0, 1, 2] rfl)

def fX9_isSlot (pa : Int32) : Option Int32 :=
  (fX9_isIn (pa.toInt64) (0 : Int64) (2 : Int64)).bind fun o1 =>
  gb o1 (some o1)
set_option maxHeartbeats 4000000 in
set_option maxRecDepth 100000 in
theorem uX9_isSlot {l : Launch} {g : GG}  {pa : Int32} {o : Int32} (h : fX9_isSlot pa = some o) : mC l g yX9_isSlot cX9_isSlot 1 (some .boolean) (rM 1 25) [.int pa] [] [] (some (.int o)) := by
  refine mC.ofW (by decide) (fun p e s m below meth c X hH ls _ hl => ?_) (Nat.le_of_ble_eq_true rfl)
  have hx := X.1
  have hb := X.2.1
  have hl : lv_has ls 1 [(0, .int pa)] := hl
  unfold fX9_isSlot at h
  suffices HH : ∀ (H : Heap) (locs : List Loc), mH g s [] [] H locs → W p l e (rM 1 25) s m _ below meth c H locs 0 0 (mZ g below _ s [] [] (some (.int o))) (F0 m 0 ls []) from HH _ _ hH
  clear hH
  intro H locs hH
  refine lv_iload_n hx hb dX9_isSlot_0 rfl (lv_at hl 0 rfl) ?_
  refine lv_i2l hx hb dX9_isSlot_1 rfl ?_
  refine lv_lconst (v := (0 : Int64)) hx hb dX9_isSlot_2 (by decide) ?_
  refine lv_ldc2 hx hb X.2.2.2.2.1 (X.2.2.2.2.2.1 _ nX9_364) dX9_isSlot_3 ?_
  obtain ⟨o1, ho1, h⟩ := bd_x h
  refine r_S X hH (ws1 := []) (As := [.long (pa.toInt64), .long (0 : Int64), .long (2 : Int64)]) (rest := []) (st1 := [.int o1]) (uX9_isIn  ho1) kX9_isIn mX9_116 sX9_isIn zX9 okX9_isIn ⟨Nat.le_of_ble_eq_true rfl, Nat.le_of_ble_eq_true rfl⟩ rfl rfl [] rfl rfl rfl (putl_self _ _ rfl) rfl hl.1 rfl (Nat.le_of_ble_eq_true rfl) ⟨Nat.le_refl 0, Nat.le_refl 0⟩ rfl dX9_isSlot_6 (fun H locs hH => ?_)
  obtain ⟨z1, h⟩ := gb_x h
  cases h
  exact e_z X hH z1 dX9_isSlot_9

def qX9_slot_69 (pa : Int32) (pb : Int32) (pc_ : Int32)  : Nat → SX9 → Int32 → Option (Int32 × SX9)
  | 0, _, _ => none
  | fu + 1, xs, l4 =>
  (if (9 : Int32) ≤ l4 then
  some ((1 : Int32), xs)
  else
  ga 27 (((9 : Int32) * pa) + l4) fun j3 =>
  ltt ((m_lies_s xs (upd (m_lies xs) j3 (-1 : Int32)))) fun xs3 =>
  ltt (l4 + (1 : Int32)) fun v1 =>
  qX9_slot_69 pa pb pc_  fu xs3 v1)
def fX9_slot (xs : SX9) (pa : Int32) (pb : Int32) (pc_ : Int32) : Option (Int32 × SX9) :=
  (fX9_isSlot pa).bind fun o1 =>
  (if o1 = (0 : Int32) then
  (fX9_no xs (-1 : Int32)).bind fun o5 =>
  some (o5.1, o5.2)
  else
  (fX9_isIn (pb.toInt64) (0 : Int64) (5 : Int64)).bind fun o2 =>
  (if o2 = (0 : Int32) then
  (fX9_no xs (-2 : Int32)).bind fun o4 =>
  some (o4.1, o4.2)
  else
  (if pc_ ≤ (9 : Int32) then
  (if (0 : Int32) ≤ pc_ then
  ga 3 pa fun j1 =>
  ltt ((m_slotKind_s xs (upd (m_slotKind xs) j1 pb))) fun xs1 =>
  ga 3 pa fun j2 =>
  ltt ((m_slotMany_s xs1 (upd (m_slotMany xs1) j2 pc_))) fun xs2 =>
  qX9_slot_69 pa pb pc_ FU xs2 (0 : Int32)
  else
  some ((-14 : Int32), xs))
  else
  (fX9_no xs (-6 : Int32)).bind fun o3 =>
  some (o3.1, o3.2))))
set_option maxHeartbeats 4000000 in
set_option maxRecDepth 100000 in
theorem pX9_slot_69 {p : Program} {l : Launch} {e : Env} {s : State} {m : MethodId} {args : Array Value} {below : List Frame} {meth : Method} {c : Code} {g : GG} {w0 : va_W} {a : Nat → Nat} {i : Nat} {pa : Int32} {pb : Int32} {pc_ : Int32} {o : (Int32 × SX9)} (X : mX g yX9_slot cX9_slot 5 (some .int) p s m args meth c w0) :
  ∀ (fu : Nat) (xs : SX9) (l4 : Int32) (H : Heap) (locs : List Loc) (ls : Array Slot), qX9_slot_69 pa pb pc_ fu xs l4 = some o → mH g s w0 (wX9 g a i xs) H locs → lv_has ls 5 [(0, .ref (a i)), (1, .int pa), (2, .int pb), (3, .int pc_), (4, .int l4)] → W p l e (rM 2 45) s m args below meth c H locs 0 0 (mZ g below args s w0 (wX9 g a i o.2) (some (.int o.1))) (F0 m 69 ls []) := by
  have hx := X.1
  have hb := X.2.1
  intro fu
  induction fu with
  | zero =>
    intro xs l4 H locs ls h
    unfold qX9_slot_69 at h
    cases h
  | succ fu ih =>
    intro xs l4 H locs ls h hH hl
    unfold qX9_slot_69 at h
    refine lv_iload hx hb dX9_slot_69 (lv_at hl 4 rfl) ?_
    refine lv_bipush (v := (9 : Int32)) hx hb dX9_slot_71 (by decide) ?_
    refine lv_icmp_ge (tgt := 95) hx hb dX9_slot_73 (by decide) (fun c5 => ?_) (fun c5 => ?_)
    · have h := it_x h c5
      refine lv_iconst (v := (1 : Int32)) hx hb dX9_slot_95 (by decide) ?_
      cases h
      exact e_i X hH dX9_slot_96
    · have h := ie_x h c5
      refine lv_aload_n hx hb dX9_slot_76 rfl (lv_at hl 0 rfl) ?_
      refine f_get X hH 0 rfl rfl 46 (by decide) inX9 fX9_110 rfl dX9_slot_77 ?_
      refine lv_bipush (v := (9 : Int32)) hx hb dX9_slot_80 (by decide) ?_
      refine lv_iload_n hx hb dX9_slot_82 rfl (lv_at hl 1 rfl) ?_
      refine lv_imul hx hb dX9_slot_83 ?_
      refine lv_iload hx hb dX9_slot_84 (lv_at hl 4 rfl) ?_
      refine lv_iadd hx hb dX9_slot_86 ?_
      refine lv_iconst (v := (-1 : Int32)) hx hb dX9_slot_87 (by decide) ?_
      obtain ⟨j3, ej3, hinj3, h⟩ := ga_x h
      obtain ⟨xs3, exs3, h⟩ := ltt_x h
      refine a_is X hH (ws1 := (wX9 g a i xs3)) 32 rfl hinj3 ej3 (by rw [exs3]; rfl) dX9_slot_88 (fun H locs hH => ?_)
      obtain ⟨v1, ev1, h⟩ := ltt_x h
      refine s_inc X (k := 4) (lv' := [(4, .int v1), (0, .ref (a i)), (1, .int pa), (2, .int pb), (3, .int pc_)]) hl rfl (by rw [ev1]; rfl) dX9_slot_89 (by decide) rfl (fun ls hl => ?_)
      refine lv_goto (tgt := 69) hx hb dX9_slot_92 (by decide) ?_
      exact ih xs3 v1 H locs ls h hH (lv_sub hl [1, 2, 3, 4, 0] rfl)
set_option maxHeartbeats 4000000 in
set_option maxRecDepth 100000 in
theorem uX9_slot {l : Launch} {g : GG} {a : Nat → Nat} {i : Nat} {xs : SX9} {pa : Int32} {pb : Int32} {pc_ : Int32} {o : (Int32 × SX9)} (h : fX9_slot xs pa pb pc_ = some o) : mC l g yX9_slot cX9_slot 5 (some .int) (rM 2 45) [.ref (a i), .int pa, .int pb, .int pc_] (wX9 g a i xs) (wX9 g a i o.2) (some (.int o.1)) := by
  refine mC.ofW (by decide) (fun p e s m below meth c X hH ls _ hl => ?_) (Nat.le_of_ble_eq_true rfl)
  have hx := X.1
  have hb := X.2.1
  have hl : lv_has ls 5 [(0, .ref (a i)), (1, .int pa), (2, .int pb), (3, .int pc_)] := hl
  unfold fX9_slot at h
  suffices HH : ∀ (H : Heap) (locs : List Loc), mH g s (wX9 g a i xs) (wX9 g a i xs) H locs → W p l e (rM 2 45) s m _ below meth c H locs 0 0 (mZ g below _ s (wX9 g a i xs) (wX9 g a i o.2) (some (.int o.1))) (F0 m 0 ls []) from HH _ _ hH
  clear hH
  intro H locs hH
  refine lv_iload_n hx hb dX9_slot_0 rfl (lv_at hl 1 rfl) ?_
  obtain ⟨o1, ho1, h⟩ := bd_x h
  refine r_S X hH (ws1 := (wX9 g a i xs)) (As := [.int pa]) (rest := []) (st1 := [.int o1]) (uX9_isSlot  ho1) kX9_isSlot mX9_379 sX9_isSlot zX9 okX9_isSlot ⟨Nat.le_of_ble_eq_true rfl, Nat.le_of_ble_eq_true rfl⟩ rfl rfl [] rfl rfl rfl (putl_self _ _ rfl) rfl hl.1 rfl (Nat.le_of_ble_eq_true rfl) ⟨Nat.le_refl 0, Nat.le_refl 0⟩ rfl dX9_slot_1 (fun H locs hH => ?_)
  refine lv_if_ne (tgt := 13) hx hb dX9_slot_4 (by decide) (fun c1 => ?_) (fun c1 => ?_)
  · have h := ie_x h c1
    refine lv_iload_n hx hb dX9_slot_13 rfl (lv_at hl 2 rfl) ?_
    refine lv_i2l hx hb dX9_slot_14 rfl ?_
    refine lv_lconst (v := (0 : Int64)) hx hb dX9_slot_15 (by decide) ?_
    refine lv_ldc2 hx hb X.2.2.2.2.1 (X.2.2.2.2.2.1 _ nX9_148) dX9_slot_16 ?_
    obtain ⟨o2, ho2, h⟩ := bd_x h
    refine r_S X hH (ws1 := (wX9 g a i xs)) (As := [.long (pb.toInt64), .long (0 : Int64), .long (5 : Int64)]) (rest := []) (st1 := [.int o2]) (uX9_isIn  ho2) kX9_isIn mX9_116 sX9_isIn zX9 okX9_isIn ⟨Nat.le_of_ble_eq_true rfl, Nat.le_of_ble_eq_true rfl⟩ rfl rfl [] rfl rfl rfl (putl_self _ _ rfl) rfl hl.1 rfl (Nat.le_of_ble_eq_true rfl) ⟨Nat.le_refl 0, Nat.le_refl 0⟩ rfl dX9_slot_19 (fun H locs hH => ?_)
    refine lv_if_ne (tgt := 32) hx hb dX9_slot_22 (by decide) (fun c2 => ?_) (fun c2 => ?_)
    · have h := ie_x h c2
      refine lv_iload_n hx hb dX9_slot_32 rfl (lv_at hl 3 rfl) ?_
      refine lv_bipush (v := (9 : Int32)) hx hb dX9_slot_33 (by decide) ?_
      refine lv_icmp_le (tgt := 45) hx hb dX9_slot_35 (by decide) (fun c3 => ?_) (fun c3 => ?_)
      · have h := it_x h c3
        refine lv_iload_n hx hb dX9_slot_45 rfl (lv_at hl 3 rfl) ?_
        refine lv_if_ge (tgt := 52) hx hb dX9_slot_46 (by decide) (fun c4 => ?_) (fun c4 => ?_)
        · have h := it_x h c4
          refine lv_aload_n hx hb dX9_slot_52 rfl (lv_at hl 0 rfl) ?_
          refine f_get X hH 0 rfl rfl 44 (by decide) inX9 fX9_104 rfl dX9_slot_53 ?_
          refine lv_iload_n hx hb dX9_slot_56 rfl (lv_at hl 1 rfl) ?_
          refine lv_iload_n hx hb dX9_slot_57 rfl (lv_at hl 2 rfl) ?_
          obtain ⟨j1, ej1, hinj1, h⟩ := ga_x h
          obtain ⟨xs1, exs1, h⟩ := ltt_x h
          refine a_is X hH (ws1 := (wX9 g a i xs1)) 30 rfl hinj1 ej1 (by rw [exs1]; rfl) dX9_slot_58 (fun H locs hH => ?_)
          refine lv_aload_n hx hb dX9_slot_59 rfl (lv_at hl 0 rfl) ?_
          refine f_get X hH 0 rfl rfl 45 (by decide) inX9 fX9_107 rfl dX9_slot_60 ?_
          refine lv_iload_n hx hb dX9_slot_63 rfl (lv_at hl 1 rfl) ?_
          refine lv_iload_n hx hb dX9_slot_64 rfl (lv_at hl 3 rfl) ?_
          obtain ⟨j2, ej2, hinj2, h⟩ := ga_x h
          obtain ⟨xs2, exs2, h⟩ := ltt_x h
          refine a_is X hH (ws1 := (wX9 g a i xs2)) 31 rfl hinj2 ej2 (by rw [exs2]; rfl) dX9_slot_65 (fun H locs hH => ?_)
          refine lv_iconst (v := (0 : Int32)) hx hb dX9_slot_66 (by decide) ?_
          refine s_i X (lv' := [(4, .int (0 : Int32)), (0, .ref (a i)), (1, .int pa), (2, .int pb), (3, .int pc_)]) hl rfl dX9_slot_67 (by decide) rfl (fun ls hl => ?_)
          exact pX9_slot_69 X FU xs2 (0 : Int32) H locs ls h hH (lv_sub hl [1, 2, 3, 4, 0] rfl)
        · have h := ie_x h c4
          refine lv_bipush (v := (-14 : Int32)) hx hb dX9_slot_49 (by decide) ?_
          cases h
          exact e_i X hH dX9_slot_51
      · have h := ie_x h c3
        refine lv_aload_n hx hb dX9_slot_38 rfl (lv_at hl 0 rfl) ?_
        refine lv_bipush (v := (-6 : Int32)) hx hb dX9_slot_39 (by decide) ?_
        obtain ⟨o3, ho3, h⟩ := bd_x h
        refine r_V X hH (ws1 := (wX9 g a i o3.2)) (As := [.int (-6 : Int32)]) (rest := []) (st1 := [.int o3.1]) (uX9_no (a := a) (i := i) ho3) kX9_no mX9_125 iX9_no vX9_no zX9 okX9_no ⟨Nat.le_of_ble_eq_true rfl, Nat.le_of_ble_eq_true rfl⟩ rfl rfl (q0 := 0) rfl rfl [0, 1, 2, 3, 4, 5, 6, 7, 8, 9, 10, 11, 12, 13, 14, 15, 16, 17, 18, 19, 20, 21, 22, 23, 24, 25, 26, 27, 28, 29, 30, 31, 32, 33] rfl rfl rfl rfl rfl hl.1 rfl (Nat.le_of_ble_eq_true rfl) ⟨Nat.le_refl 0, Nat.le_refl 0⟩ rfl dX9_slot_41 (fun H locs hH => ?_)
        cases h
        exact e_i X hH dX9_slot_44
    · have h := it_x h c2
      refine lv_aload_n hx hb dX9_slot_25 rfl (lv_at hl 0 rfl) ?_
      refine lv_bipush (v := (-2 : Int32)) hx hb dX9_slot_26 (by decide) ?_
      obtain ⟨o4, ho4, h⟩ := bd_x h
      refine r_V X hH (ws1 := (wX9 g a i o4.2)) (As := [.int (-2 : Int32)]) (rest := []) (st1 := [.int o4.1]) (uX9_no (a := a) (i := i) ho4) kX9_no mX9_125 iX9_no vX9_no zX9 okX9_no ⟨Nat.le_of_ble_eq_true rfl, Nat.le_of_ble_eq_true rfl⟩ rfl rfl (q0 := 0) rfl rfl [0, 1, 2, 3, 4, 5, 6, 7, 8, 9, 10, 11, 12, 13, 14, 15, 16, 17, 18, 19, 20, 21, 22, 23, 24, 25, 26, 27, 28, 29, 30, 31, 32, 33] rfl rfl rfl rfl rfl hl.1 rfl (Nat.le_of_ble_eq_true rfl) ⟨Nat.le_refl 0, Nat.le_refl 0⟩ rfl dX9_slot_28 (fun H locs hH => ?_)
      cases h
      exact e_i X hH dX9_slot_31
  · have h := it_x h c1
    refine lv_aload_n hx hb dX9_slot_7 rfl (lv_at hl 0 rfl) ?_
    refine lv_iconst (v := (-1 : Int32)) hx hb dX9_slot_8 (by decide) ?_
    obtain ⟨o5, ho5, h⟩ := bd_x h
    refine r_V X hH (ws1 := (wX9 g a i o5.2)) (As := [.int (-1 : Int32)]) (rest := []) (st1 := [.int o5.1]) (uX9_no (a := a) (i := i) ho5) kX9_no mX9_125 iX9_no vX9_no zX9 okX9_no ⟨Nat.le_of_ble_eq_true rfl, Nat.le_of_ble_eq_true rfl⟩ rfl rfl (q0 := 0) rfl rfl [0, 1, 2, 3, 4, 5, 6, 7, 8, 9, 10, 11, 12, 13, 14, 15, 16, 17, 18, 19, 20, 21, 22, 23, 24, 25, 26, 27, 28, 29, 30, 31, 32, 33] rfl rfl rfl rfl rfl hl.1 rfl (Nat.le_of_ble_eq_true rfl) ⟨Nat.le_refl 0, Nat.le_refl 0⟩ rfl dX9_slot_9 (fun H locs hH => ?_)
    cases h
    exact e_i X hH dX9_slot_12

def qX9_isUnder_29 (pa : Int32) (pb : Int32)   : Option Int32 :=
  some (1 : Int32)
def qX9_isUnder_19 (pa : Int32) (pb : Int32) (k29 : Option Int32)  : Option Int32 :=
  (if pb = (2 : Int32) then
  (if pa = (3 : Int32) then
  k29
  else
  some (0 : Int32))
  else
  some (0 : Int32))
def fX9_isUnder (pa : Int32) (pb : Int32) : Option Int32 :=
  (if pb = (0 : Int32) then
  qX9_isUnder_29 pa pb 
  else
  (if pa = pb then
  qX9_isUnder_29 pa pb 
  else
  (if pb = (1 : Int32) then
  (if pa = (4 : Int32) then
  qX9_isUnder_29 pa pb 
  else
  qX9_isUnder_19 pa pb (qX9_isUnder_29 pa pb) )
  else
  qX9_isUnder_19 pa pb (qX9_isUnder_29 pa pb) )))
set_option maxHeartbeats 4000000 in
set_option maxRecDepth 100000 in
theorem pX9_isUnder_29 {p : Program} {l : Launch} {e : Env} {s : State} {m : MethodId} {args : Array Value} {below : List Frame} {meth : Method} {c : Code} {g : GG} {w0 : va_W}  {pa : Int32} {pb : Int32} {o : Int32} (X : mX g yX9_isUnder cX9_isUnder 2 (some .boolean) p s m args meth c w0) :
  ∀  (H : Heap) (locs : List Loc) (ls : Array Slot), qX9_isUnder_29 pa pb = some o → mH g s w0 [] H locs → lv_has ls 2 [(0, .int pa), (1, .int pb)] → W p l e (rM 0 0) s m args below meth c H locs 0 0 (mZ g below args s w0 [] (some (.int o))) (F0 m 29 ls []) := by
  have hx := X.1
  have hb := X.2.1
  intro  H locs ls h hH hl
  unfold qX9_isUnder_29 at h
  refine lv_iconst (v := (1 : Int32)) hx hb dX9_isUnder_29 (by decide) ?_
  refine lv_goto (tgt := 34) hx hb dX9_isUnder_30 (by decide) ?_
  cases h
  exact e_z X hH (by decide) dX9_isUnder_34
set_option maxHeartbeats 4000000 in
set_option maxRecDepth 100000 in
theorem pX9_isUnder_19 {p : Program} {l : Launch} {e : Env} {s : State} {m : MethodId} {args : Array Value} {below : List Frame} {meth : Method} {c : Code} {g : GG} {w0 : va_W}  {pa : Int32} {pb : Int32} {o : Int32} (X : mX g yX9_isUnder cX9_isUnder 2 (some .boolean) p s m args meth c w0)
  {k29 : Option Int32} (K29 : ∀  (H : Heap) (locs : List Loc) (ls : Array Slot), k29  = some o → mH g s w0 [] H locs → lv_has ls 2 [(0, .int pa), (1, .int pb)] → W p l e (rM 0 0) s m args below meth c H locs 0 0 (mZ g below args s w0 [] (some (.int o))) (F0 m 29 ls [])) :
  ∀  (H : Heap) (locs : List Loc) (ls : Array Slot), qX9_isUnder_19 pa pb k29 = some o → mH g s w0 [] H locs → lv_has ls 2 [(0, .int pa), (1, .int pb)] → W p l e (rM 0 0) s m args below meth c H locs 0 0 (mZ g below args s w0 [] (some (.int o))) (F0 m 19 ls []) := by
  have hx := X.1
  have hb := X.2.1
  intro  H locs ls h hH hl
  unfold qX9_isUnder_19 at h
  refine lv_iload_n hx hb dX9_isUnder_19 rfl (lv_at hl 1 rfl) ?_
  refine lv_iconst (v := (2 : Int32)) hx hb dX9_isUnder_20 (by decide) ?_
  refine lv_icmp_ne (tgt := 33) hx hb dX9_isUnder_21 (by decide) (fun c4 => ?_) (fun c4 => ?_)
  · have h := ie_x h c4
    refine lv_iconst (v := (0 : Int32)) hx hb dX9_isUnder_33 (by decide) ?_
    cases h
    exact e_z X hH (by decide) dX9_isUnder_34
  · have h := it_x h c4
    refine lv_iload_n hx hb dX9_isUnder_24 rfl (lv_at hl 0 rfl) ?_
    refine lv_iconst (v := (3 : Int32)) hx hb dX9_isUnder_25 (by decide) ?_
    refine lv_icmp_ne (tgt := 33) hx hb dX9_isUnder_26 (by decide) (fun c5 => ?_) (fun c5 => ?_)
    · have h := ie_x h c5
      refine lv_iconst (v := (0 : Int32)) hx hb dX9_isUnder_33 (by decide) ?_
      cases h
      exact e_z X hH (by decide) dX9_isUnder_34
    · have h := it_x h c5
      exact K29  H locs ls h hH (lv_sub hl [0, 1] rfl)
set_option maxHeartbeats 4000000 in
set_option maxRecDepth 100000 in
theorem uX9_isUnder {l : Launch} {g : GG}  {pa : Int32} {pb : Int32} {o : Int32} (h : fX9_isUnder pa pb = some o) : mC l g yX9_isUnder cX9_isUnder 2 (some .boolean) (rM 0 0) [.int pa, .int pb] [] [] (some (.int o)) := by
  refine mC.ofW (by decide) (fun p e s m below meth c X hH ls _ hl => ?_) (Nat.le_of_ble_eq_true rfl)
  have hx := X.1
  have hb := X.2.1
  have hl : lv_has ls 2 [(0, .int pa), (1, .int pb)] := hl
  unfold fX9_isUnder at h
  suffices HH : ∀ (H : Heap) (locs : List Loc), mH g s [] [] H locs → W p l e (rM 0 0) s m _ below meth c H locs 0 0 (mZ g below _ s [] [] (some (.int o))) (F0 m 0 ls []) from HH _ _ hH
  clear hH
  intro H locs hH
  refine lv_iload_n hx hb dX9_isUnder_0 rfl (lv_at hl 1 rfl) ?_
  refine lv_if_eq (tgt := 29) hx hb dX9_isUnder_1 (by decide) (fun c1 => ?_) (fun c1 => ?_)
  · have h := it_x h c1
    exact pX9_isUnder_29 X   H locs ls h hH (lv_sub hl [0, 1] rfl)
  · have h := ie_x h c1
    refine lv_iload_n hx hb dX9_isUnder_4 rfl (lv_at hl 0 rfl) ?_
    refine lv_iload_n hx hb dX9_isUnder_5 rfl (lv_at hl 1 rfl) ?_
    refine lv_icmp_eq (tgt := 29) hx hb dX9_isUnder_6 (by decide) (fun c2 => ?_) (fun c2 => ?_)
    · have h := it_x h c2
      exact pX9_isUnder_29 X   H locs ls h hH (lv_sub hl [0, 1] rfl)
    · have h := ie_x h c2
      refine lv_iload_n hx hb dX9_isUnder_9 rfl (lv_at hl 1 rfl) ?_
      refine lv_iconst (v := (1 : Int32)) hx hb dX9_isUnder_10 (by decide) ?_
      refine lv_icmp_ne (tgt := 19) hx hb dX9_isUnder_11 (by decide) (fun c3 => ?_) (fun c3 => ?_)
      · have h := ie_x h c3
        exact pX9_isUnder_19 X (pX9_isUnder_29 X )  H locs ls h hH (lv_sub hl [0, 1] rfl)
      · have h := it_x h c3
        refine lv_iload_n hx hb dX9_isUnder_14 rfl (lv_at hl 0 rfl) ?_
        refine lv_iconst (v := (4 : Int32)) hx hb dX9_isUnder_15 (by decide) ?_
        refine lv_icmp_eq (tgt := 29) hx hb dX9_isUnder_16 (by decide) (fun c6 => ?_) (fun c6 => ?_)
        · have h := it_x h c6
          exact pX9_isUnder_29 X   H locs ls h hH (lv_sub hl [0, 1] rfl)
        · have h := ie_x h c6
          exact pX9_isUnder_19 X (pX9_isUnder_29 X )  H locs ls h hH (lv_sub hl [0, 1] rfl)

def fX9_notSlotted (xs : SX9) (pa : Int32) (pb : Int32) : Option Int32 :=
  ga 3 pa fun j1 =>
  (if (0 : Int32) ≤ ((m_slotMany xs) j1) then
  ga 3 pa fun j2 =>
  (fX9_isIn (pb.toInt64) (0 : Int64) ((((m_slotMany xs) j2) - (1 : Int32)).toInt64)).bind fun o1 =>
  (if o1 = (0 : Int32) then
  some (-13 : Int32)
  else
  some (0 : Int32))
  else
  some (-11 : Int32))
set_option maxHeartbeats 4000000 in
set_option maxRecDepth 100000 in
theorem uX9_notSlotted {l : Launch} {g : GG} {a : Nat → Nat} {i : Nat} {xs : SX9} {pa : Int32} {pb : Int32} {o : Int32} (h : fX9_notSlotted xs pa pb = some o) : mC l g yX9_notSlotted cX9_notSlotted 3 (some .int) (rM 1 25) [.ref (a i), .int pa, .int pb] (wX9 g a i xs) (wX9 g a i xs) (some (.int o)) := by
  refine mC.ofW (by decide) (fun p e s m below meth c X hH ls _ hl => ?_) (Nat.le_of_ble_eq_true rfl)
  have hx := X.1
  have hb := X.2.1
  have hl : lv_has ls 3 [(0, .ref (a i)), (1, .int pa), (2, .int pb)] := hl
  unfold fX9_notSlotted at h
  suffices HH : ∀ (H : Heap) (locs : List Loc), mH g s (wX9 g a i xs) (wX9 g a i xs) H locs → W p l e (rM 1 25) s m _ below meth c H locs 0 0 (mZ g below _ s (wX9 g a i xs) (wX9 g a i xs) (some (.int o))) (F0 m 0 ls []) from HH _ _ hH
  clear hH
  intro H locs hH
  refine lv_aload_n hx hb dX9_notSlotted_0 rfl (lv_at hl 0 rfl) ?_
  refine f_get X hH 0 rfl rfl 45 (by decide) inX9 fX9_107 rfl dX9_notSlotted_1 ?_
  refine lv_iload_n hx hb dX9_notSlotted_4 rfl (lv_at hl 1 rfl) ?_
  obtain ⟨j1, ej1, hinj1, h⟩ := ga_x h
  refine a_il X hH 31 rfl hinj1 ej1 dX9_notSlotted_5 ?_
  refine lv_if_ge (tgt := 14) hx hb dX9_notSlotted_6 (by decide) (fun c1 => ?_) (fun c1 => ?_)
  · have h := it_x h c1
    refine lv_iload_n hx hb dX9_notSlotted_14 rfl (lv_at hl 2 rfl) ?_
    refine lv_i2l hx hb dX9_notSlotted_15 rfl ?_
    refine lv_lconst (v := (0 : Int64)) hx hb dX9_notSlotted_16 (by decide) ?_
    refine lv_aload_n hx hb dX9_notSlotted_17 rfl (lv_at hl 0 rfl) ?_
    refine f_get X hH 0 rfl rfl 45 (by decide) inX9 fX9_107 rfl dX9_notSlotted_18 ?_
    refine lv_iload_n hx hb dX9_notSlotted_21 rfl (lv_at hl 1 rfl) ?_
    obtain ⟨j2, ej2, hinj2, h⟩ := ga_x h
    refine a_il X hH 31 rfl hinj2 ej2 dX9_notSlotted_22 ?_
    refine lv_iconst (v := (1 : Int32)) hx hb dX9_notSlotted_23 (by decide) ?_
    refine lv_isub hx hb dX9_notSlotted_24 ?_
    refine lv_i2l hx hb dX9_notSlotted_25 rfl ?_
    obtain ⟨o1, ho1, h⟩ := bd_x h
    refine r_S X hH (ws1 := (wX9 g a i xs)) (As := [.long (pb.toInt64), .long (0 : Int64), .long ((((m_slotMany xs) j2) - (1 : Int32)).toInt64)]) (rest := []) (st1 := [.int o1]) (uX9_isIn  ho1) kX9_isIn mX9_116 sX9_isIn zX9 okX9_isIn ⟨Nat.le_of_ble_eq_true rfl, Nat.le_of_ble_eq_true rfl⟩ rfl rfl [] rfl rfl rfl (putl_self _ _ rfl) rfl hl.1 rfl (Nat.le_of_ble_eq_true rfl) ⟨Nat.le_refl 0, Nat.le_refl 0⟩ rfl dX9_notSlotted_26 (fun H locs hH => ?_)
    refine lv_if_eq (tgt := 36) hx hb dX9_notSlotted_29 (by decide) (fun c2 => ?_) (fun c2 => ?_)
    · have h := it_x h c2
      refine lv_bipush (v := (-13 : Int32)) hx hb dX9_notSlotted_36 (by decide) ?_
      cases h
      exact e_i X hH dX9_notSlotted_38
    · have h := ie_x h c2
      refine lv_iconst (v := (0 : Int32)) hx hb dX9_notSlotted_32 (by decide) ?_
      refine lv_goto (tgt := 38) hx hb dX9_notSlotted_33 (by decide) ?_
      cases h
      exact e_i X hH dX9_notSlotted_38
  · have h := ie_x h c1
    refine lv_bipush (v := (-11 : Int32)) hx hb dX9_notSlotted_9 (by decide) ?_
    refine lv_goto (tgt := 38) hx hb dX9_notSlotted_11 (by decide) ?_
    cases h
    exact e_i X hH dX9_notSlotted_38
