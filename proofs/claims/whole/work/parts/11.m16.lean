def fX9_on (xs : SX9) : Option (Int32 × SX9) :=
  (if (m_isKept xs) = (0 : Int32) then
  (fX9_no xs (-3 : Int32)).bind fun o2 =>
  some (o2.1, o2.2)
  else
  (fX9_brings_14 xs).bind fun o1 =>
  some ((m_many o1), o1))
set_option maxHeartbeats 4000000 in
set_option maxRecDepth 100000 in
theorem uX9_on {l : Launch} {g : GG} {a : Nat → Nat} {i : Nat} {xs : SX9} {o : (Int32 × SX9)} (h : fX9_on xs = some o) : mC l g yX9_on cX9_on 1 (some .int) (rM 1 22) [.ref (a i)] (wX9 g a i xs) (wX9 g a i o.2) (some (.int o.1)) := by
  refine mC.ofW (by decide) (fun p e s m below meth c X hH ls _ hl => ?_) (Nat.le_of_ble_eq_true rfl)
  have hx := X.1
  have hb := X.2.1
  have hl : lv_has ls 1 [(0, .ref (a i))] := hl
  unfold fX9_on at h
  suffices HH : ∀ (H : Heap) (locs : List Loc), mH g s (wX9 g a i xs) (wX9 g a i xs) H locs → W p l e (rM 1 22) s m _ below meth c H locs 0 0 (mZ g below _ s (wX9 g a i xs) (wX9 g a i o.2) (some (.int o.1))) (F0 m 0 ls []) from HH _ _ hH
  clear hH
  intro H locs hH
  refine lv_aload_n hx hb dX9_on_0 rfl (lv_at hl 0 rfl) ?_
  refine f_get X hH 0 rfl rfl 18 (by decide) inX9 fX9_388 rfl dX9_on_1 ?_
  refine lv_if_ne (tgt := 14) hx hb dX9_on_4 (by decide) (fun c1 => ?_) (fun c1 => ?_)
  · have h := ie_x h c1
    refine lv_aload_n hx hb dX9_on_14 rfl (lv_at hl 0 rfl) ?_
    refine lv_aload_n hx hb dX9_on_15 rfl (lv_at hl 0 rfl) ?_
    refine f_get X hH 0 rfl rfl 17 (by decide) inX9 fX9_54 rfl dX9_on_16 ?_
    obtain ⟨o1, ho1, h⟩ := bd_x h
    refine r_V X hH (ws1 := (wX9 g a i o1)) (As := [.ref (a (i + 14))]) (rest := []) (st1 := []) (uX9_brings_14 (a := a) (i := i) ho1) kX9_brings mX9_217 iX9_brings vX9_brings zX9 okX9_brings ⟨Nat.le_of_ble_eq_true rfl, Nat.le_of_ble_eq_true rfl⟩ rfl rfl (q0 := 0) rfl rfl (pm_all _) (pm_all _) rfl hl.1 rfl (Nat.le_of_ble_eq_true rfl) ⟨Nat.le_refl 0, Nat.le_refl 0⟩ rfl dX9_on_19 (fun H locs hH => ?_)
    refine lv_aload_n hx hb dX9_on_22 rfl (lv_at hl 0 rfl) ?_
    refine f_get X hH 0 rfl rfl 1 (by decide) inX9 fX9_120 rfl dX9_on_23 ?_
    have h := Option.some.inj h
    subst h
    exact e_i X hH dX9_on_26
  · have h := it_x h c1
    refine lv_aload_n hx hb dX9_on_7 rfl (lv_at hl 0 rfl) ?_
    refine lv_bipush (v := (-3 : Int32)) hx hb dX9_on_8 (by decide) ?_
    obtain ⟨o2, ho2, h⟩ := bd_x h
    refine r_V X hH (ws1 := (wX9 g a i o2.2)) (As := [.int (-3 : Int32)]) (rest := []) (st1 := [.int o2.1]) (uX9_no (a := a) (i := i) ho2) kX9_no mX9_125 iX9_no vX9_no zX9 okX9_no ⟨Nat.le_of_ble_eq_true rfl, Nat.le_of_ble_eq_true rfl⟩ rfl rfl (q0 := 0) rfl rfl (pm_all _) (pm_all _) rfl hl.1 rfl (Nat.le_of_ble_eq_true rfl) ⟨Nat.le_refl 0, Nat.le_refl 0⟩ rfl dX9_on_10 (fun H locs hH => ?_)
    have h := Option.some.inj h
    subst h
    exact e_i X hH dX9_on_13

def qX9_sets_49  (k17 : SX9 → Int32 → Int32 → Int32 → Option (Int32 × SX9)) (xs : SX9) (l1 : Int32) (l2 : Int32) (l3 : Int32) : Option (Int32 × SX9) :=
  ltt (l3 + (1 : Int32)) fun v4 =>
  k17 xs l1 l2 v4
def qX9_sets_17   : Nat → SX9 → Int32 → Int32 → Int32 → Option (Int32 × SX9)
  | 0, _, _, _, _ => none
  | fu + 1, xs, l1, l2, l3 =>
  (if (m_points xs) ≤ l3 then
  some (l2, xs)
  else
  (fX9_has l1 l3).bind fun o2 =>
  (if o2 = (0 : Int32) then
  qX9_sets_49 (qX9_sets_17  fu) xs l1 l2 l3
  else
  (fX9_reach xs l3).bind fun o3 =>
  ltt ((l1 &&& (o3 ^^^ (-1 : Int32)))) fun v2 =>
  ltt (l2 + (1 : Int32)) fun v3 =>
  qX9_sets_49 (qX9_sets_17  fu) xs v2 v3 l3))
def fX9_sets (xs : SX9) : Option (Int32 × SX9) :=
  (fX9_allThere xs).bind fun o1 =>
  ltt ((((1 : Int32) <<< ((m_points o1) &&& 31)) - (1 : Int32))) fun v1 =>
  qX9_sets_17 FU o1 v1 (0 : Int32) (0 : Int32)
set_option maxHeartbeats 4000000 in
set_option maxRecDepth 100000 in
theorem pX9_sets_49 {p : Program} {l : Launch} {e : Env} {s : State} {m : MethodId} {args : Array Value} {below : List Frame} {meth : Method} {c : Code} {g : GG} {w0 : va_W} {a : Nat → Nat} {i : Nat}  {o : (Int32 × SX9)} (X : mX g yX9_sets cX9_sets 4 (some .int) p s m args meth c w0)
  {k17 : SX9 → Int32 → Int32 → Int32 → Option (Int32 × SX9)} (K17 : ∀ (xs : SX9) (l1 : Int32) (l2 : Int32) (l3 : Int32) (H : Heap) (locs : List Loc) (ls : Array Slot), k17 xs l1 l2 l3 = some o → mH g s w0 (wX9 g a i xs) H locs → lv_has ls 4 [(0, .ref (a i)), (1, .int l1), (2, .int l2), (3, .int l3)] → W p l e (rM 2 45) s m args below meth c H locs 0 0 (mZ g below args s w0 (wX9 g a i o.2) (some (.int o.1))) (F0 m 17 ls [])) :
  ∀ (xs : SX9) (l1 : Int32) (l2 : Int32) (l3 : Int32) (H : Heap) (locs : List Loc) (ls : Array Slot), qX9_sets_49 k17 xs l1 l2 l3 = some o → mH g s w0 (wX9 g a i xs) H locs → lv_has ls 4 [(0, .ref (a i)), (1, .int l1), (2, .int l2), (3, .int l3)] → W p l e (rM 2 45) s m args below meth c H locs 0 0 (mZ g below args s w0 (wX9 g a i o.2) (some (.int o.1))) (F0 m 49 ls []) := by
  have hx := X.1
  have hb := X.2.1
  intro xs l1 l2 l3 H locs ls h hH hl
  unfold qX9_sets_49 at h
  obtain ⟨v4, ev4, h⟩ := ltt_x h
  refine s_inc X (k := 3) (lv' := [(3, .int v4), (0, .ref (a i)), (1, .int l1), (2, .int l2)]) hl rfl (by rw [ev4]; rfl) dX9_sets_49 (by decide) rfl (fun ls hl => ?_)
  refine lv_goto (tgt := 17) hx hb dX9_sets_52 (by decide) ?_
  exact K17 xs l1 l2 v4 H locs ls h hH (lv_sub hl [1, 2, 3, 0] rfl)
set_option maxHeartbeats 4000000 in
set_option maxRecDepth 100000 in
theorem pX9_sets_17 {p : Program} {l : Launch} {e : Env} {s : State} {m : MethodId} {args : Array Value} {below : List Frame} {meth : Method} {c : Code} {g : GG} {w0 : va_W} {a : Nat → Nat} {i : Nat}  {o : (Int32 × SX9)} (X : mX g yX9_sets cX9_sets 4 (some .int) p s m args meth c w0) :
  ∀ (fu : Nat) (xs : SX9) (l1 : Int32) (l2 : Int32) (l3 : Int32) (H : Heap) (locs : List Loc) (ls : Array Slot), qX9_sets_17 fu xs l1 l2 l3 = some o → mH g s w0 (wX9 g a i xs) H locs → lv_has ls 4 [(0, .ref (a i)), (1, .int l1), (2, .int l2), (3, .int l3)] → W p l e (rM 2 45) s m args below meth c H locs 0 0 (mZ g below args s w0 (wX9 g a i o.2) (some (.int o.1))) (F0 m 17 ls []) := by
  have hx := X.1
  have hb := X.2.1
  intro fu
  induction fu with
  | zero =>
    intro xs l1 l2 l3 H locs ls h
    unfold qX9_sets_17 at h
    cases h
  | succ fu ih =>
    intro xs l1 l2 l3 H locs ls h hH hl
    unfold qX9_sets_17 at h
    refine lv_iload_n hx hb dX9_sets_17 rfl (lv_at hl 3 rfl) ?_
    refine lv_aload_n hx hb dX9_sets_18 rfl (lv_at hl 0 rfl) ?_
    refine f_get X hH 0 rfl rfl 0 (by decide) inX9 fX9_7 rfl dX9_sets_19 ?_
    refine lv_icmp_ge (tgt := 55) hx hb dX9_sets_22 (by decide) (fun c1 => ?_) (fun c1 => ?_)
    · have h := it_x h c1
      refine lv_iload_n hx hb dX9_sets_55 rfl (lv_at hl 2 rfl) ?_
      have h := Option.some.inj h
      subst h
      exact e_i X hH dX9_sets_56
    · have h := ie_x h c1
      refine lv_iload_n hx hb dX9_sets_25 rfl (lv_at hl 1 rfl) ?_
      refine lv_iload_n hx hb dX9_sets_26 rfl (lv_at hl 3 rfl) ?_
      obtain ⟨o2, ho2, h⟩ := bd_x h
      refine r_S X hH (ws1 := (wX9 g a i xs)) (As := [.int l1, .int l3]) (rest := []) (st1 := [.int o2]) (uX9_has  ho2) kX9_has mX9_226 sX9_has zX9 okX9_has ⟨Nat.le_of_ble_eq_true rfl, Nat.le_of_ble_eq_true rfl⟩ rfl rfl (pm_none _) (pm_none _) rfl hl.1 rfl (Nat.le_of_ble_eq_true rfl) ⟨Nat.le_refl 0, Nat.le_refl 0⟩ rfl dX9_sets_27 (fun H locs hH => ?_)
      refine lv_if_ne (tgt := 36) hx hb dX9_sets_30 (by decide) (fun c2 => ?_) (fun c2 => ?_)
      · have h := ie_x h c2
        refine lv_iload_n hx hb dX9_sets_36 rfl (lv_at hl 1 rfl) ?_
        refine lv_aload_n hx hb dX9_sets_37 rfl (lv_at hl 0 rfl) ?_
        refine lv_iload_n hx hb dX9_sets_38 rfl (lv_at hl 3 rfl) ?_
        obtain ⟨o3, ho3, h⟩ := bd_x h
        refine r_V X hH (ws1 := (wX9 g a i xs)) (As := [.int l3]) (rest := [.int l1]) (st1 := [.int o3, .int l1]) (uX9_reach (a := a) (i := i) ho3) kX9_reach mX9_233 iX9_reach vX9_reach zX9 okX9_reach ⟨Nat.le_of_ble_eq_true rfl, Nat.le_of_ble_eq_true rfl⟩ rfl rfl (q0 := 0) rfl rfl (pm_all _) (pm_all _) rfl hl.1 rfl (Nat.le_of_ble_eq_true rfl) ⟨Nat.le_refl 0, Nat.le_refl 0⟩ rfl dX9_sets_39 (fun H locs hH => ?_)
        refine lv_iconst (v := (-1 : Int32)) hx hb dX9_sets_42 (by decide) ?_
        refine lv_ixor hx hb dX9_sets_43 ?_
        refine lv_iand hx hb dX9_sets_44 ?_
        obtain ⟨v2, ev2, h⟩ := ltt_x h
        refine s_in X (lv' := [(1, .int v2), (0, .ref (a i)), (2, .int l2), (3, .int l3)]) hl ev2 dX9_sets_45 rfl (by decide) rfl (fun ls hl => ?_)
        obtain ⟨v3, ev3, h⟩ := ltt_x h
        refine s_inc X (k := 2) (lv' := [(2, .int v3), (1, .int v2), (0, .ref (a i)), (3, .int l3)]) hl rfl (by rw [ev3]; rfl) dX9_sets_46 (by decide) rfl (fun ls hl => ?_)
        exact pX9_sets_49 X ih xs v2 v3 l3 H locs ls h hH (lv_sub hl [2, 1, 0, 3] rfl)
      · have h := it_x h c2
        refine lv_goto (tgt := 49) hx hb dX9_sets_33 (by decide) ?_
        exact pX9_sets_49 X ih xs l1 l2 l3 H locs ls h hH (lv_sub hl [0, 1, 2, 3] rfl)
set_option maxHeartbeats 4000000 in
set_option maxRecDepth 100000 in
theorem uX9_sets {l : Launch} {g : GG} {a : Nat → Nat} {i : Nat} {xs : SX9} {o : (Int32 × SX9)} (h : fX9_sets xs = some o) : mC l g yX9_sets cX9_sets 4 (some .int) (rM 2 45) [.ref (a i)] (wX9 g a i xs) (wX9 g a i o.2) (some (.int o.1)) := by
  refine mC.ofW (by decide) (fun p e s m below meth c X hH ls _ hl => ?_) (Nat.le_of_ble_eq_true rfl)
  have hx := X.1
  have hb := X.2.1
  have hl : lv_has ls 4 [(0, .ref (a i))] := hl
  unfold fX9_sets at h
  suffices HH : ∀ (H : Heap) (locs : List Loc), mH g s (wX9 g a i xs) (wX9 g a i xs) H locs → W p l e (rM 2 45) s m _ below meth c H locs 0 0 (mZ g below _ s (wX9 g a i xs) (wX9 g a i o.2) (some (.int o.1))) (F0 m 0 ls []) from HH _ _ hH
  clear hH
  intro H locs hH
  refine lv_aload_n hx hb dX9_sets_0 rfl (lv_at hl 0 rfl) ?_
  obtain ⟨o1, ho1, h⟩ := bd_x h
  refine r_V X hH (ws1 := (wX9 g a i o1)) (As := []) (rest := []) (st1 := []) (uX9_allThere (a := a) (i := i) ho1) kX9_allThere mX9_230 iX9_allThere vX9_allThere zX9 okX9_allThere ⟨Nat.le_of_ble_eq_true rfl, Nat.le_of_ble_eq_true rfl⟩ rfl rfl (q0 := 0) rfl rfl (pm_all _) (pm_all _) rfl hl.1 rfl (Nat.le_of_ble_eq_true rfl) ⟨Nat.le_refl 0, Nat.le_refl 0⟩ rfl dX9_sets_1 (fun H locs hH => ?_)
  refine lv_iconst (v := (1 : Int32)) hx hb dX9_sets_4 (by decide) ?_
  refine lv_aload_n hx hb dX9_sets_5 rfl (lv_at hl 0 rfl) ?_
  refine f_get X hH 0 rfl rfl 0 (by decide) inX9 fX9_7 rfl dX9_sets_6 ?_
  refine lv_ishl hx hb dX9_sets_9 ?_
  refine lv_iconst (v := (1 : Int32)) hx hb dX9_sets_10 (by decide) ?_
  refine lv_isub hx hb dX9_sets_11 ?_
  obtain ⟨v1, ev1, h⟩ := ltt_x h
  refine s_in X (lv' := [(1, .int v1), (0, .ref (a i))]) hl ev1 dX9_sets_12 rfl (by decide) rfl (fun ls hl => ?_)
  refine lv_iconst (v := (0 : Int32)) hx hb dX9_sets_13 (by decide) ?_
  refine s_in X (lv' := [(2, .int (0 : Int32)), (1, .int v1), (0, .ref (a i))]) hl rfl dX9_sets_14 rfl (by decide) rfl (fun ls hl => ?_)
  refine lv_iconst (v := (0 : Int32)) hx hb dX9_sets_15 (by decide) ?_
  refine s_in X (lv' := [(3, .int (0 : Int32)), (2, .int (0 : Int32)), (1, .int v1), (0, .ref (a i))]) hl rfl dX9_sets_16 rfl (by decide) rfl (fun ls hl => ?_)
  exact pX9_sets_17 X FU o1 v1 (0 : Int32) (0 : Int32) H locs ls h hH (lv_sub hl [3, 2, 1, 0] rfl)

def qX9_allWeights_4 (xs : SX9)  : Nat → Int32 → Int32 → Option Int32
  | 0, _, _ => none
  | fu + 1, l1, l2 =>
  (if (m_many xs) ≤ l2 then
  some l1
  else
  (fX9_weight xs l2).bind fun o1 =>
  ltt ((l1 + o1)) fun v1 =>
  ltt (l2 + (1 : Int32)) fun v2 =>
  qX9_allWeights_4 xs  fu v1 v2)
def fX9_allWeights (xs : SX9) : Option Int32 :=
  qX9_allWeights_4 xs FU (0 : Int32) (0 : Int32)
set_option maxHeartbeats 4000000 in
set_option maxRecDepth 100000 in
theorem pX9_allWeights_4 {p : Program} {l : Launch} {e : Env} {s : State} {m : MethodId} {args : Array Value} {below : List Frame} {meth : Method} {c : Code} {g : GG} {w0 : va_W} {a : Nat → Nat} {i : Nat} {xs : SX9} {o : Int32} (X : mX g yX9_allWeights cX9_allWeights 3 (some .int) p s m args meth c w0) :
  ∀ (fu : Nat) (l1 : Int32) (l2 : Int32) (H : Heap) (locs : List Loc) (ls : Array Slot), qX9_allWeights_4 xs fu l1 l2 = some o → mH g s w0 (wX9 g a i xs) H locs → lv_has ls 3 [(0, .ref (a i)), (1, .int l1), (2, .int l2)] → W p l e (rM 2 43) s m args below meth c H locs 0 0 (mZ g below args s w0 (wX9 g a i xs) (some (.int o))) (F0 m 4 ls []) := by
  have hx := X.1
  have hb := X.2.1
  intro fu
  induction fu with
  | zero =>
    intro l1 l2 H locs ls h
    unfold qX9_allWeights_4 at h
    cases h
  | succ fu ih =>
    intro l1 l2 H locs ls h hH hl
    unfold qX9_allWeights_4 at h
    refine lv_iload_n hx hb dX9_allWeights_4 rfl (lv_at hl 2 rfl) ?_
    refine lv_aload_n hx hb dX9_allWeights_5 rfl (lv_at hl 0 rfl) ?_
    refine f_get X hH 0 rfl rfl 1 (by decide) inX9 fX9_120 rfl dX9_allWeights_6 ?_
    refine lv_icmp_ge (tgt := 26) hx hb dX9_allWeights_9 (by decide) (fun c1 => ?_) (fun c1 => ?_)
    · have h := it_x h c1
      refine lv_iload_n hx hb dX9_allWeights_26 rfl (lv_at hl 1 rfl) ?_
      have h := Option.some.inj h
      subst h
      exact e_i X hH dX9_allWeights_27
    · have h := ie_x h c1
      refine lv_iload_n hx hb dX9_allWeights_12 rfl (lv_at hl 1 rfl) ?_
      refine lv_aload_n hx hb dX9_allWeights_13 rfl (lv_at hl 0 rfl) ?_
      refine lv_iload_n hx hb dX9_allWeights_14 rfl (lv_at hl 2 rfl) ?_
      obtain ⟨o1, ho1, h⟩ := bd_x h
      refine r_V X hH (ws1 := (wX9 g a i xs)) (As := [.int l2]) (rest := [.int l1]) (st1 := [.int o1, .int l1]) (uX9_weight (a := a) (i := i) ho1) kX9_weight mX9_171 iX9_weight vX9_weight zX9 okX9_weight ⟨Nat.le_of_ble_eq_true rfl, Nat.le_of_ble_eq_true rfl⟩ rfl rfl (q0 := 0) rfl rfl (pm_all _) (pm_all _) rfl hl.1 rfl (Nat.le_of_ble_eq_true rfl) ⟨Nat.le_refl 0, Nat.le_refl 0⟩ rfl dX9_allWeights_15 (fun H locs hH => ?_)
      refine lv_iadd hx hb dX9_allWeights_18 ?_
      obtain ⟨v1, ev1, h⟩ := ltt_x h
      refine s_in X (lv' := [(1, .int v1), (0, .ref (a i)), (2, .int l2)]) hl ev1 dX9_allWeights_19 rfl (by decide) rfl (fun ls hl => ?_)
      obtain ⟨v2, ev2, h⟩ := ltt_x h
      refine s_inc X (k := 2) (lv' := [(2, .int v2), (1, .int v1), (0, .ref (a i))]) hl rfl (by rw [ev2]; rfl) dX9_allWeights_20 (by decide) rfl (fun ls hl => ?_)
      refine lv_goto (tgt := 4) hx hb dX9_allWeights_23 (by decide) ?_
      exact ih v1 v2 H locs ls h hH (lv_sub hl [2, 1, 0] rfl)
set_option maxHeartbeats 4000000 in
set_option maxRecDepth 100000 in
theorem uX9_allWeights {l : Launch} {g : GG} {a : Nat → Nat} {i : Nat} {xs : SX9} {o : Int32} (h : fX9_allWeights xs = some o) : mC l g yX9_allWeights cX9_allWeights 3 (some .int) (rM 2 43) [.ref (a i)] (wX9 g a i xs) (wX9 g a i xs) (some (.int o)) := by
  refine mC.ofW (by decide) (fun p e s m below meth c X hH ls _ hl => ?_) (Nat.le_of_ble_eq_true rfl)
  have hx := X.1
  have hb := X.2.1
  have hl : lv_has ls 3 [(0, .ref (a i))] := hl
  unfold fX9_allWeights at h
  suffices HH : ∀ (H : Heap) (locs : List Loc), mH g s (wX9 g a i xs) (wX9 g a i xs) H locs → W p l e (rM 2 43) s m _ below meth c H locs 0 0 (mZ g below _ s (wX9 g a i xs) (wX9 g a i xs) (some (.int o))) (F0 m 0 ls []) from HH _ _ hH
  clear hH
  intro H locs hH
  refine lv_iconst (v := (0 : Int32)) hx hb dX9_allWeights_0 (by decide) ?_
  refine s_in X (lv' := [(1, .int (0 : Int32)), (0, .ref (a i))]) hl rfl dX9_allWeights_1 rfl (by decide) rfl (fun ls hl => ?_)
  refine lv_iconst (v := (0 : Int32)) hx hb dX9_allWeights_2 (by decide) ?_
  refine s_in X (lv' := [(2, .int (0 : Int32)), (1, .int (0 : Int32)), (0, .ref (a i))]) hl rfl dX9_allWeights_3 rfl (by decide) rfl (fun ls hl => ?_)
  exact pX9_allWeights_4 X FU (0 : Int32) (0 : Int32) H locs ls h hH (lv_sub hl [2, 1, 0] rfl)

def fX9_count (xs : SX9) (pa : Int32) : Option (Int32 × SX9) :=
  (if pa = (0 : Int32) then
  some ((m_points xs), xs)
  else
  (if pa = (1 : Int32) then
  some ((m_many xs), xs)
  else
  (if pa = (2 : Int32) then
  some ((m_lettered xs), xs)
  else
  (if pa = (3 : Int32) then
  some ((m_rowMany xs), xs)
  else
  (if pa = (4 : Int32) then
  (fX9_allWeights xs).bind fun o3 =>
  some (o3, xs)
  else
  (if pa = (5 : Int32) then
  (fX9_sets xs).bind fun o2 =>
  some (o2.1, o2.2)
  else
  (fX9_isIn (pa.toInt64) (11 : Int64) (16 : Int64)).bind fun o1 =>
  (if o1 = (0 : Int32) then
  some ((-9 : Int32), xs)
  else
  ga 7 (pa - (10 : Int32)) fun j1 =>
  some (((m_refusals xs) j1), xs))))))))
set_option maxHeartbeats 4000000 in
set_option maxRecDepth 100000 in
theorem uX9_count {l : Launch} {g : GG} {a : Nat → Nat} {i : Nat} {xs : SX9} {pa : Int32} {o : (Int32 × SX9)} (h : fX9_count xs pa = some o) : mC l g yX9_count cX9_count 2 (some .int) (rM 3 68) [.ref (a i), .int pa] (wX9 g a i xs) (wX9 g a i o.2) (some (.int o.1)) := by
  refine mC.ofW (by decide) (fun p e s m below meth c X hH ls _ hl => ?_) (Nat.le_of_ble_eq_true rfl)
  have hx := X.1
  have hb := X.2.1
  have hl : lv_has ls 2 [(0, .ref (a i)), (1, .int pa)] := hl
  unfold fX9_count at h
  suffices HH : ∀ (H : Heap) (locs : List Loc), mH g s (wX9 g a i xs) (wX9 g a i xs) H locs → W p l e (rM 3 68) s m _ below meth c H locs 0 0 (mZ g below _ s (wX9 g a i xs) (wX9 g a i o.2) (some (.int o.1))) (F0 m 0 ls []) from HH _ _ hH
  clear hH
  intro H locs hH
  refine lv_iload_n hx hb dX9_count_0 rfl (lv_at hl 1 rfl) ?_
  rcases Classical.em (pa = (0 : Int32)) with c2 | c2
  · have h := it_x h c2
    refine lv_tableIn (tgt := 40) hx hb dX9_count_1 (by rw [c2]; decide) (by rw [c2]; decide) (off := 39) (by rw [c2]; decide) (by decide) ?_
    refine lv_aload_n hx hb dX9_count_40 rfl (lv_at hl 0 rfl) ?_
    refine f_get X hH 0 rfl rfl 0 (by decide) inX9 fX9_7 rfl dX9_count_41 ?_
    have h := Option.some.inj h
    subst h
    exact e_i X hH dX9_count_44
  · have h := ie_x h c2
    rcases Classical.em (pa = (1 : Int32)) with c3 | c3
    · have h := it_x h c3
      refine lv_tableIn (tgt := 45) hx hb dX9_count_1 (by rw [c3]; decide) (by rw [c3]; decide) (off := 44) (by rw [c3]; decide) (by decide) ?_
      refine lv_aload_n hx hb dX9_count_45 rfl (lv_at hl 0 rfl) ?_
      refine f_get X hH 0 rfl rfl 1 (by decide) inX9 fX9_120 rfl dX9_count_46 ?_
      have h := Option.some.inj h
      subst h
      exact e_i X hH dX9_count_49
    · have h := ie_x h c3
      rcases Classical.em (pa = (2 : Int32)) with c4 | c4
      · have h := it_x h c4
        refine lv_tableIn (tgt := 50) hx hb dX9_count_1 (by rw [c4]; decide) (by rw [c4]; decide) (off := 49) (by rw [c4]; decide) (by decide) ?_
        refine lv_aload_n hx hb dX9_count_50 rfl (lv_at hl 0 rfl) ?_
        refine f_get X hH 0 rfl rfl 10 (by decide) inX9 fX9_177 rfl dX9_count_51 ?_
        have h := Option.some.inj h
        subst h
        exact e_i X hH dX9_count_54
      · have h := ie_x h c4
        rcases Classical.em (pa = (3 : Int32)) with c5 | c5
        · have h := it_x h c5
          refine lv_tableIn (tgt := 55) hx hb dX9_count_1 (by rw [c5]; decide) (by rw [c5]; decide) (off := 54) (by rw [c5]; decide) (by decide) ?_
          refine lv_aload_n hx hb dX9_count_55 rfl (lv_at hl 0 rfl) ?_
          refine f_get X hH 0 rfl rfl 41 (by decide) inX9 fX9_358 rfl dX9_count_56 ?_
          have h := Option.some.inj h
          subst h
          exact e_i X hH dX9_count_59
        · have h := ie_x h c5
          rcases Classical.em (pa = (4 : Int32)) with c6 | c6
          · have h := it_x h c6
            refine lv_tableIn (tgt := 60) hx hb dX9_count_1 (by rw [c6]; decide) (by rw [c6]; decide) (off := 59) (by rw [c6]; decide) (by decide) ?_
            refine lv_aload_n hx hb dX9_count_60 rfl (lv_at hl 0 rfl) ?_
            obtain ⟨o3, ho3, h⟩ := bd_x h
            refine r_V X hH (ws1 := (wX9 g a i xs)) (As := []) (rest := []) (st1 := [.int o3]) (uX9_allWeights (a := a) (i := i) ho3) kX9_allWeights mX9_392 iX9_allWeights vX9_allWeights zX9 okX9_allWeights ⟨Nat.le_of_ble_eq_true rfl, Nat.le_of_ble_eq_true rfl⟩ rfl rfl (q0 := 0) rfl rfl (pm_all _) (pm_all _) rfl hl.1 rfl (Nat.le_of_ble_eq_true rfl) ⟨Nat.le_refl 0, Nat.le_refl 0⟩ rfl dX9_count_61 (fun H locs hH => ?_)
            have h := Option.some.inj h
            subst h
            exact e_i X hH dX9_count_64
          · have h := ie_x h c6
            rcases Classical.em (pa = (5 : Int32)) with c7 | c7
            · have h := it_x h c7
              refine lv_tableIn (tgt := 65) hx hb dX9_count_1 (by rw [c7]; decide) (by rw [c7]; decide) (off := 64) (by rw [c7]; decide) (by decide) ?_
              refine lv_aload_n hx hb dX9_count_65 rfl (lv_at hl 0 rfl) ?_
              obtain ⟨o2, ho2, h⟩ := bd_x h
              refine r_V X hH (ws1 := (wX9 g a i o2.2)) (As := []) (rest := []) (st1 := [.int o2.1]) (uX9_sets (a := a) (i := i) ho2) kX9_sets mX9_395 iX9_sets vX9_sets zX9 okX9_sets ⟨Nat.le_of_ble_eq_true rfl, Nat.le_of_ble_eq_true rfl⟩ rfl rfl (q0 := 0) rfl rfl (pm_all _) (pm_all _) rfl hl.1 rfl (Nat.le_of_ble_eq_true rfl) ⟨Nat.le_refl 0, Nat.le_refl 0⟩ rfl dX9_count_66 (fun H locs hH => ?_)
              have h := Option.some.inj h
              subst h
              exact e_i X hH dX9_count_69
            · have h := ie_x h c7
              refine lv_tableOut (tgt := 70) hx hb dX9_count_1 (tsw_0_5 (c2) (c3) (c4) (c5) (c6) (c7)) (by decide) ?_
              refine lv_iload_n hx hb dX9_count_70 rfl (lv_at hl 1 rfl) ?_
              refine lv_i2l hx hb dX9_count_71 rfl ?_
              refine lv_ldc2 hx hb X.2.2.2.2.1 (X.2.2.2.2.2.1 _ nX9_398) dX9_count_72 ?_
              refine lv_ldc2 hx hb X.2.2.2.2.1 (X.2.2.2.2.2.1 _ nX9_400) dX9_count_75 ?_
              obtain ⟨o1, ho1, h⟩ := bd_x h
              refine r_S X hH (ws1 := (wX9 g a i xs)) (As := [.long (pa.toInt64), .long (11 : Int64), .long (16 : Int64)]) (rest := []) (st1 := [.int o1]) (uX9_isIn  ho1) kX9_isIn mX9_116 sX9_isIn zX9 okX9_isIn ⟨Nat.le_of_ble_eq_true rfl, Nat.le_of_ble_eq_true rfl⟩ rfl rfl (pm_none _) (pm_none _) rfl hl.1 rfl (Nat.le_of_ble_eq_true rfl) ⟨Nat.le_refl 0, Nat.le_refl 0⟩ rfl dX9_count_78 (fun H locs hH => ?_)
              refine lv_if_eq (tgt := 96) hx hb dX9_count_81 (by decide) (fun c1 => ?_) (fun c1 => ?_)
              · have h := it_x h c1
                refine lv_bipush (v := (-9 : Int32)) hx hb dX9_count_96 (by decide) ?_
                have h := Option.some.inj h
                subst h
                exact e_i X hH dX9_count_98
              · have h := ie_x h c1
                refine lv_aload_n hx hb dX9_count_84 rfl (lv_at hl 0 rfl) ?_
                refine f_get X hH 0 rfl rfl 8 (by decide) inX9 fX9_32 rfl dX9_count_85 ?_
                refine lv_iload_n hx hb dX9_count_88 rfl (lv_at hl 1 rfl) ?_
                refine lv_bipush (v := (10 : Int32)) hx hb dX9_count_89 (by decide) ?_
                refine lv_isub hx hb dX9_count_91 ?_
                obtain ⟨j1, ej1, hinj1, h⟩ := ga_x h
                refine a_il X hH 7 rfl hinj1 ej1 dX9_count_92 ?_
                refine lv_goto (tgt := 98) hx hb dX9_count_93 (by decide) ?_
                have h := Option.some.inj h
                subst h
                exact e_i X hH dX9_count_98
