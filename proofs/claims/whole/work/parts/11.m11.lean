def fX9_share (xs : SX9) (pa : Int32) (pb : Int32) (pc_ : Int32) : Option (Int64 × SX9) :=
  (fX9_reach xs pb).bind fun o1 =>
  (if pc_ = pb then
  some ((0 : Int64), xs)
  else
  (fX9_has o1 pc_).bind fun o2 =>
  (if o2 = (0 : Int32) then
  some ((0 : Int64), xs)
  else
  (if pa = pb then
  some ((0 : Int64), xs)
  else
  (fX9_within xs (o1 &&& (((1 : Int32) <<< (pb &&& 31)) ^^^ (-1 : Int32)))).bind fun o3 =>
  (fX9_columnOf o3 pc_).bind fun o4 =>
  ga 6 o4 fun j1 =>
  ltt ((m_right_s o3 (vp_updL (m_right o3) j1 (1 : Int64)))) fun xs1 =>
  (fX9_columnOf xs1 pa).bind fun o5 =>
  (fX9_det xs1 o5).bind fun o6 =>
  some (o6.1, o6.2))))
set_option maxHeartbeats 4000000 in
set_option maxRecDepth 100000 in
theorem uX9_share {l : Launch} {g : GG} {a : Nat → Nat} {i : Nat} {xs : SX9} {pa : Int32} {pb : Int32} {pc_ : Int32} {o : (Int64 × SX9)} (h : fX9_share xs pa pb pc_ = some o) : mC l g yX9_share cX9_share 5 (some .long) (rM 4 90) [.ref (a i), .int pa, .int pb, .int pc_] (wX9 g a i xs) (wX9 g a i o.2) (some (.long o.1)) := by
  refine mC.ofW (by decide) (fun p e s m below meth c X hH ls _ hl => ?_) (Nat.le_of_ble_eq_true rfl)
  have hx := X.1
  have hb := X.2.1
  have hl : lv_has ls 5 [(0, .ref (a i)), (1, .int pa), (2, .int pb), (3, .int pc_)] := hl
  unfold fX9_share at h
  suffices HH : ∀ (H : Heap) (locs : List Loc), mH g s (wX9 g a i xs) (wX9 g a i xs) H locs → W p l e (rM 4 90) s m _ below meth c H locs 0 0 (mZ g below _ s (wX9 g a i xs) (wX9 g a i o.2) (some (.long o.1))) (F0 m 0 ls []) from HH _ _ hH
  clear hH
  intro H locs hH
  refine lv_aload_n hx hb dX9_share_0 rfl (lv_at hl 0 rfl) ?_
  refine lv_iload_n hx hb dX9_share_1 rfl (lv_at hl 2 rfl) ?_
  obtain ⟨o1, ho1, h⟩ := bd_x h
  refine r_V X hH (ws1 := (wX9 g a i xs)) (As := [.int pb]) (rest := []) (st1 := [.int o1]) (uX9_reach (a := a) (i := i) ho1) kX9_reach mX9_233 iX9_reach vX9_reach zX9 okX9_reach ⟨Nat.le_of_ble_eq_true rfl, Nat.le_of_ble_eq_true rfl⟩ rfl rfl (q0 := 0) rfl rfl (pm_all _) (pm_all _) rfl hl.1 rfl (Nat.le_of_ble_eq_true rfl) ⟨Nat.le_refl 0, Nat.le_refl 0⟩ rfl dX9_share_2 (fun H locs hH => ?_)
  refine s_i X (lv' := [(4, .int o1), (0, .ref (a i)), (1, .int pa), (2, .int pb), (3, .int pc_)]) hl rfl dX9_share_5 (by decide) rfl (fun ls hl => ?_)
  refine lv_iload_n hx hb dX9_share_7 rfl (lv_at hl 4 rfl) ?_
  refine lv_iload_n hx hb dX9_share_8 rfl (lv_at hl 3 rfl) ?_
  refine lv_icmp_eq (tgt := 26) hx hb dX9_share_9 (by decide) (fun c1 => ?_) (fun c1 => ?_)
  · have h := it_x h c1
    refine lv_lconst (v := (0 : Int64)) hx hb dX9_share_26 (by decide) ?_
    have h := Option.some.inj h
    subst h
    exact e_l X hH dX9_share_27
  · have h := ie_x h c1
    refine lv_iload hx hb dX9_share_12 (lv_at hl 0 rfl) ?_
    refine lv_iload_n hx hb dX9_share_14 rfl (lv_at hl 4 rfl) ?_
    obtain ⟨o2, ho2, h⟩ := bd_x h
    refine r_S X hH (ws1 := (wX9 g a i xs)) (As := [.int o1, .int pc_]) (rest := []) (st1 := [.int o2]) (uX9_has  ho2) kX9_has mX9_226 sX9_has zX9 okX9_has ⟨Nat.le_of_ble_eq_true rfl, Nat.le_of_ble_eq_true rfl⟩ rfl rfl (pm_none _) (pm_none _) rfl hl.1 rfl (Nat.le_of_ble_eq_true rfl) ⟨Nat.le_refl 0, Nat.le_refl 0⟩ rfl dX9_share_15 (fun H locs hH => ?_)
    refine lv_if_eq (tgt := 26) hx hb dX9_share_18 (by decide) (fun c2 => ?_) (fun c2 => ?_)
    · have h := it_x h c2
      refine lv_lconst (v := (0 : Int64)) hx hb dX9_share_26 (by decide) ?_
      have h := Option.some.inj h
      subst h
      exact e_l X hH dX9_share_27
    · have h := ie_x h c2
      refine lv_iload_n hx hb dX9_share_21 rfl (lv_at hl 2 rfl) ?_
      refine lv_iload_n hx hb dX9_share_22 rfl (lv_at hl 3 rfl) ?_
      refine lv_icmp_ne (tgt := 28) hx hb dX9_share_23 (by decide) (fun c3 => ?_) (fun c3 => ?_)
      · have h := ie_x h c3
        refine lv_aload_n hx hb dX9_share_28 rfl (lv_at hl 1 rfl) ?_
        refine lv_iload hx hb dX9_share_29 (lv_at hl 0 rfl) ?_
        refine lv_iconst (v := (1 : Int32)) hx hb dX9_share_31 (by decide) ?_
        refine lv_iload_n hx hb dX9_share_32 rfl (lv_at hl 3 rfl) ?_
        refine lv_ishl hx hb dX9_share_33 ?_
        refine lv_iconst (v := (-1 : Int32)) hx hb dX9_share_34 (by decide) ?_
        refine lv_ixor hx hb dX9_share_35 ?_
        refine lv_iand hx hb dX9_share_36 ?_
        obtain ⟨o3, ho3, h⟩ := bd_x h
        refine r_V X hH (ws1 := (wX9 g a i o3)) (As := [.int (o1 &&& (((1 : Int32) <<< (pb &&& 31)) ^^^ (-1 : Int32)))]) (rest := []) (st1 := []) (uX9_within (a := a) (i := i) ho3) kX9_within mX9_255 iX9_within vX9_within zX9 okX9_within ⟨Nat.le_of_ble_eq_true rfl, Nat.le_of_ble_eq_true rfl⟩ rfl rfl (q0 := 0) rfl rfl (pm_all _) (pm_all _) rfl hl.1 rfl (Nat.le_of_ble_eq_true rfl) ⟨Nat.le_refl 0, Nat.le_refl 0⟩ rfl dX9_share_37 (fun H locs hH => ?_)
        refine lv_aload_n hx hb dX9_share_40 rfl (lv_at hl 1 rfl) ?_
        refine f_get X hH 0 rfl rfl 24 (by decide) inX9 fX9_64 rfl dX9_share_41 ?_
        refine lv_aload_n hx hb dX9_share_44 rfl (lv_at hl 1 rfl) ?_
        refine lv_iload_n hx hb dX9_share_45 rfl (lv_at hl 4 rfl) ?_
        obtain ⟨o4, ho4, h⟩ := bd_x h
        refine r_V X hH (ws1 := (wX9 g a i o3)) (As := [.int pc_]) (rest := [.ref (a (i + 17))]) (st1 := [.int o4, .ref (a (i + 17))]) (uX9_columnOf (a := a) (i := i) ho4) kX9_columnOf mX9_262 iX9_columnOf vX9_columnOf zX9 okX9_columnOf ⟨Nat.le_of_ble_eq_true rfl, Nat.le_of_ble_eq_true rfl⟩ rfl rfl (q0 := 0) rfl rfl (pm_all _) (pm_all _) rfl hl.1 rfl (Nat.le_of_ble_eq_true rfl) ⟨Nat.le_refl 0, Nat.le_refl 0⟩ rfl dX9_share_46 (fun H locs hH => ?_)
        refine lv_lconst (v := (1 : Int64)) hx hb dX9_share_49 (by decide) ?_
        obtain ⟨j1, ej1, hinj1, h⟩ := ga_x h
        obtain ⟨xs1, exs1, h⟩ := ltt_x h
        refine a_ls X hH (ws1 := (wX9 g a i xs1)) 17 rfl hinj1 ej1 (by rw [exs1]; rfl) dX9_share_50 (fun H locs hH => ?_)
        refine lv_aload_n hx hb dX9_share_51 rfl (lv_at hl 1 rfl) ?_
        refine lv_aload_n hx hb dX9_share_52 rfl (lv_at hl 1 rfl) ?_
        refine lv_iload_n hx hb dX9_share_53 rfl (lv_at hl 2 rfl) ?_
        obtain ⟨o5, ho5, h⟩ := bd_x h
        refine r_V X hH (ws1 := (wX9 g a i xs1)) (As := [.int pa]) (rest := [.ref (a i)]) (st1 := [.int o5, .ref (a i)]) (uX9_columnOf (a := a) (i := i) ho5) kX9_columnOf mX9_262 iX9_columnOf vX9_columnOf zX9 okX9_columnOf ⟨Nat.le_of_ble_eq_true rfl, Nat.le_of_ble_eq_true rfl⟩ rfl rfl (q0 := 0) rfl rfl (pm_all _) (pm_all _) rfl hl.1 rfl (Nat.le_of_ble_eq_true rfl) ⟨Nat.le_refl 0, Nat.le_refl 0⟩ rfl dX9_share_54 (fun H locs hH => ?_)
        obtain ⟨o6, ho6, h⟩ := bd_x h
        refine r_V X hH (ws1 := (wX9 g a i o6.2)) (As := [.int o5]) (rest := []) (st1 := [.long o6.1]) (uX9_det (a := a) (i := i) ho6) kX9_det mX9_258 iX9_det vX9_det zX9 okX9_det ⟨Nat.le_of_ble_eq_true rfl, Nat.le_of_ble_eq_true rfl⟩ rfl rfl (q0 := 0) rfl rfl (pm_all _) (pm_all _) rfl hl.1 rfl (Nat.le_of_ble_eq_true rfl) ⟨Nat.le_refl 0, Nat.le_refl 0⟩ rfl dX9_share_57 (fun H locs hH => ?_)
        have h := Option.some.inj h
        subst h
        exact e_l X hH dX9_share_60
      · have h := it_x h c3
        refine lv_lconst (v := (0 : Int64)) hx hb dX9_share_26 (by decide) ?_
        have h := Option.some.inj h
        subst h
        exact e_l X hH dX9_share_27

def fX9_findDown (xs : SX9) (pa : Int32) : Option SX9 :=
  (fX9_reach xs pa).bind fun o1 =>
  (fX9_within xs (o1 &&& (((1 : Int32) <<< (pa &&& 31)) ^^^ (-1 : Int32)))).bind fun o2 =>
  (fX9_det o2 (-1 : Int32)).bind fun o3 =>
  ltt ((m_down_s o3.2 o3.1)) fun xs1 =>
  some xs1
set_option maxHeartbeats 4000000 in
set_option maxRecDepth 100000 in
theorem uX9_findDown {l : Launch} {g : GG} {a : Nat → Nat} {i : Nat} {xs : SX9} {pa : Int32} {o : SX9} (h : fX9_findDown xs pa = some o) : mC l g yX9_findDown cX9_findDown 2 none (rM 4 90) [.ref (a i), .int pa] (wX9 g a i xs) (wX9 g a i o) none := by
  refine mC.ofW (by decide) (fun p e s m below meth c X hH ls _ hl => ?_) (Nat.le_of_ble_eq_true rfl)
  have hx := X.1
  have hb := X.2.1
  have hl : lv_has ls 2 [(0, .ref (a i)), (1, .int pa)] := hl
  unfold fX9_findDown at h
  suffices HH : ∀ (H : Heap) (locs : List Loc), mH g s (wX9 g a i xs) (wX9 g a i xs) H locs → W p l e (rM 4 90) s m _ below meth c H locs 0 0 (mZ g below _ s (wX9 g a i xs) (wX9 g a i o) none) (F0 m 0 ls []) from HH _ _ hH
  clear hH
  intro H locs hH
  refine lv_aload_n hx hb dX9_findDown_0 rfl (lv_at hl 0 rfl) ?_
  refine lv_aload_n hx hb dX9_findDown_1 rfl (lv_at hl 0 rfl) ?_
  refine lv_iload_n hx hb dX9_findDown_2 rfl (lv_at hl 1 rfl) ?_
  obtain ⟨o1, ho1, h⟩ := bd_x h
  refine r_V X hH (ws1 := (wX9 g a i xs)) (As := [.int pa]) (rest := [.ref (a i)]) (st1 := [.int o1, .ref (a i)]) (uX9_reach (a := a) (i := i) ho1) kX9_reach mX9_233 iX9_reach vX9_reach zX9 okX9_reach ⟨Nat.le_of_ble_eq_true rfl, Nat.le_of_ble_eq_true rfl⟩ rfl rfl (q0 := 0) rfl rfl (pm_all _) (pm_all _) rfl hl.1 rfl (Nat.le_of_ble_eq_true rfl) ⟨Nat.le_refl 0, Nat.le_refl 0⟩ rfl dX9_findDown_3 (fun H locs hH => ?_)
  refine lv_iconst (v := (1 : Int32)) hx hb dX9_findDown_6 (by decide) ?_
  refine lv_iload_n hx hb dX9_findDown_7 rfl (lv_at hl 1 rfl) ?_
  refine lv_ishl hx hb dX9_findDown_8 ?_
  refine lv_iconst (v := (-1 : Int32)) hx hb dX9_findDown_9 (by decide) ?_
  refine lv_ixor hx hb dX9_findDown_10 ?_
  refine lv_iand hx hb dX9_findDown_11 ?_
  obtain ⟨o2, ho2, h⟩ := bd_x h
  refine r_V X hH (ws1 := (wX9 g a i o2)) (As := [.int (o1 &&& (((1 : Int32) <<< (pa &&& 31)) ^^^ (-1 : Int32)))]) (rest := []) (st1 := []) (uX9_within (a := a) (i := i) ho2) kX9_within mX9_255 iX9_within vX9_within zX9 okX9_within ⟨Nat.le_of_ble_eq_true rfl, Nat.le_of_ble_eq_true rfl⟩ rfl rfl (q0 := 0) rfl rfl (pm_all _) (pm_all _) rfl hl.1 rfl (Nat.le_of_ble_eq_true rfl) ⟨Nat.le_refl 0, Nat.le_refl 0⟩ rfl dX9_findDown_12 (fun H locs hH => ?_)
  refine lv_aload_n hx hb dX9_findDown_15 rfl (lv_at hl 0 rfl) ?_
  refine lv_aload_n hx hb dX9_findDown_16 rfl (lv_at hl 0 rfl) ?_
  refine lv_iconst (v := (-1 : Int32)) hx hb dX9_findDown_17 (by decide) ?_
  obtain ⟨o3, ho3, h⟩ := bd_x h
  refine r_V X hH (ws1 := (wX9 g a i o3.2)) (As := [.int (-1 : Int32)]) (rest := [.ref (a i)]) (st1 := [.long o3.1, .ref (a i)]) (uX9_det (a := a) (i := i) ho3) kX9_det mX9_258 iX9_det vX9_det zX9 okX9_det ⟨Nat.le_of_ble_eq_true rfl, Nat.le_of_ble_eq_true rfl⟩ rfl rfl (q0 := 0) rfl rfl (pm_all _) (pm_all _) rfl hl.1 rfl (Nat.le_of_ble_eq_true rfl) ⟨Nat.le_refl 0, Nat.le_refl 0⟩ rfl dX9_findDown_18 (fun H locs hH => ?_)
  obtain ⟨xs1, exs1, h⟩ := ltt_x h
  refine f_put X hH (ws1 := (wX9 g a i xs1)) 0 rfl rfl 27 (by decide) inX9 tyX9 tyX9_ok nmX9 fX9_252 rfl rfl rfl (Nat.le_of_ble_eq_true rfl) (by rw [exs1]; rfl) dX9_findDown_21 (fun H locs hH => ?_)
  have h := Option.some.inj h
  subst h
  exact e_v X hH dX9_findDown_24

def qX9_common_17 (pa : Int64) (pb : Int64)  : Nat → Int64 → Int64 → Option Int64
  | 0, _, _ => none
  | fu + 1, l4, l6 =>
  (if l6 = (0 : Int64) then
  some l4
  else
  gzl (l6) <|
  ltt ((l4 - l4 / l6 * l6)) fun v1 =>
  qX9_common_17 pa pb  fu l6 v1)
def qX9_common_12 (pa : Int64) (pb : Int64)  (t0 : Int64) : Option Int64 :=
  qX9_common_17 pa pb FU t0 pb
def fX9_common (pa : Int64) (pb : Int64) : Option Int64 :=
  (if (0 : Int64) ≤ pa then
  qX9_common_12 pa pb pa
  else
  qX9_common_12 pa pb (-pa))
set_option maxHeartbeats 4000000 in
set_option maxRecDepth 100000 in
theorem pX9_common_17 {p : Program} {l : Launch} {e : Env} {s : State} {m : MethodId} {args : Array Value} {below : List Frame} {meth : Method} {c : Code} {g : GG} {w0 : va_W}  {pa : Int64} {pb : Int64} {o : Int64} (X : mX g yX9_common cX9_common 10 (some .long) p s m args meth c w0) :
  ∀ (fu : Nat) (l4 : Int64) (l6 : Int64) (H : Heap) (locs : List Loc) (ls : Array Slot), qX9_common_17 pa pb fu l4 l6 = some o → mH g s w0 [] H locs → lv_has ls 10 [(0, .long pa), (2, .long pb), (4, .long l4), (6, .long l6)] → W p l e (rM 0 0) s m args below meth c H locs 0 0 (mZ g below args s w0 [] (some (.long o))) (F0 m 17 ls []) := by
  have hx := X.1
  have hb := X.2.1
  intro fu
  induction fu with
  | zero =>
    intro l4 l6 H locs ls h
    unfold qX9_common_17 at h
    cases h
  | succ fu ih =>
    intro l4 l6 H locs ls h hH hl
    unfold qX9_common_17 at h
    refine lv_lload hx hb dX9_common_17 (lv_at hl 3 rfl) ?_
    refine lv_lconst (v := (0 : Int64)) hx hb dX9_common_19 (by decide) ?_
    refine W.lcmp hx hb dX9_common_20 ?_
    refine lv_if_eq (tgt := 42) hx hb dX9_common_21 (by decide) (fun c2 => ?_) (fun c2 => ?_)
    · have h := it_x h ((lg_cmp_eq l6 (0 : Int64)).mp c2)
      refine lv_lload hx hb dX9_common_42 (lv_at hl 2 rfl) ?_
      have h := Option.some.inj h
      subst h
      exact e_l X hH dX9_common_44
    · have h := ie_x h (mt (lg_cmp_eq l6 (0 : Int64)).mpr c2)
      refine lv_lload hx hb dX9_common_24 (lv_at hl 2 rfl) ?_
      refine lv_lload hx hb dX9_common_26 (lv_at hl 3 rfl) ?_
      obtain ⟨z1, h⟩ := gzl_x h
      refine lv_lrem hx hb dX9_common_28 z1 ?_
      obtain ⟨v1, ev1, h⟩ := ltt_x h
      refine s_l X (lv' := [(8, .long v1), (0, .long pa), (2, .long pb), (4, .long l4), (6, .long l6)]) hl ev1 dX9_common_29 (by decide) rfl (fun ls hl => ?_)
      refine lv_lload hx hb dX9_common_31 (lv_at hl 4 rfl) ?_
      refine s_l X (lv' := [(4, .long l6), (8, .long v1), (0, .long pa), (2, .long pb), (6, .long l6)]) hl rfl dX9_common_33 (by decide) rfl (fun ls hl => ?_)
      refine lv_lload hx hb dX9_common_35 (lv_at hl 1 rfl) ?_
      refine s_l X (lv' := [(6, .long v1), (4, .long l6), (8, .long v1), (0, .long pa), (2, .long pb)]) hl rfl dX9_common_37 (by decide) rfl (fun ls hl => ?_)
      refine lv_goto (tgt := 17) hx hb dX9_common_39 (by decide) ?_
      exact ih l6 v1 H locs ls h hH (lv_sub hl [3, 4, 1, 0] rfl)
set_option maxHeartbeats 4000000 in
set_option maxRecDepth 100000 in
theorem pX9_common_12 {p : Program} {l : Launch} {e : Env} {s : State} {m : MethodId} {args : Array Value} {below : List Frame} {meth : Method} {c : Code} {g : GG} {w0 : va_W}  {pa : Int64} {pb : Int64} {o : Int64} (X : mX g yX9_common cX9_common 10 (some .long) p s m args meth c w0) :
  ∀ (t0 : Int64) (H : Heap) (locs : List Loc) (ls : Array Slot), qX9_common_12 pa pb t0 = some o → mH g s w0 [] H locs → lv_has ls 10 [(0, .long pa), (2, .long pb)] → W p l e (rM 0 0) s m args below meth c H locs 0 0 (mZ g below args s w0 [] (some (.long o))) (F0 m 12 ls [.long t0]) := by
  have hx := X.1
  have hb := X.2.1
  intro t0 H locs ls h hH hl
  unfold qX9_common_12 at h
  refine s_l X (lv' := [(4, .long t0), (0, .long pa), (2, .long pb)]) hl rfl dX9_common_12 (by decide) rfl (fun ls hl => ?_)
  refine lv_lload_n hx hb dX9_common_14 rfl (lv_at hl 2 rfl) ?_
  refine s_l X (lv' := [(6, .long pb), (4, .long t0), (0, .long pa), (2, .long pb)]) hl rfl dX9_common_15 (by decide) rfl (fun ls hl => ?_)
  exact pX9_common_17 X FU t0 pb H locs ls h hH (lv_sub hl [2, 3, 1, 0] rfl)
set_option maxHeartbeats 4000000 in
set_option maxRecDepth 100000 in
theorem uX9_common {l : Launch} {g : GG}  {pa : Int64} {pb : Int64} {o : Int64} (h : fX9_common pa pb = some o) : mC l g yX9_common cX9_common 10 (some .long) (rM 0 0) [.long pa, .long pb] [] [] (some (.long o)) := by
  refine mC.ofW (by decide) (fun p e s m below meth c X hH ls _ hl => ?_) (Nat.le_of_ble_eq_true rfl)
  have hx := X.1
  have hb := X.2.1
  have hl : lv_has ls 10 [(0, .long pa), (2, .long pb)] := hl
  unfold fX9_common at h
  suffices HH : ∀ (H : Heap) (locs : List Loc), mH g s [] [] H locs → W p l e (rM 0 0) s m _ below meth c H locs 0 0 (mZ g below _ s [] [] (some (.long o))) (F0 m 0 ls []) from HH _ _ hH
  clear hH
  intro H locs hH
  refine lv_lload_n hx hb dX9_common_0 rfl (lv_at hl 0 rfl) ?_
  refine lv_lconst (v := (0 : Int64)) hx hb dX9_common_1 (by decide) ?_
  refine W.lcmp hx hb dX9_common_2 ?_
  refine lv_if_ge (tgt := 11) hx hb dX9_common_3 (by decide) (fun c1 => ?_) (fun c1 => ?_)
  · have h := it_x h ((lg_cmp_ge pa (0 : Int64)).mp c1)
    refine lv_lload_n hx hb dX9_common_11 rfl (lv_at hl 0 rfl) ?_
    exact pX9_common_12 X  pa H locs ls h hH (lv_sub hl [0, 1] rfl)
  · have h := ie_x h (mt (lg_cmp_ge pa (0 : Int64)).mpr c1)
    refine lv_lload_n hx hb dX9_common_6 rfl (lv_at hl 0 rfl) ?_
    refine lv_lneg hx hb dX9_common_7 ?_
    refine lv_goto (tgt := 12) hx hb dX9_common_8 (by decide) ?_
    exact pX9_common_12 X  (-pa) H locs ls h hH (lv_sub hl [0, 1] rfl)

def qX9_partOf_10 (pa : Int64) (pb : Int64) (pc_ : Int32)  (t0 : Int64) : Option Int64 :=
  (fX9_common pa pb).bind fun o1 =>
  gzl (o1) <|
  some (t0 / o1)
def fX9_partOf (pa : Int64) (pb : Int64) (pc_ : Int32) : Option Int64 :=
  (if pc_ = (0 : Int32) then
  qX9_partOf_10 pa pb pc_ pa
  else
  qX9_partOf_10 pa pb pc_ pb)
set_option maxHeartbeats 4000000 in
set_option maxRecDepth 100000 in
theorem pX9_partOf_10 {p : Program} {l : Launch} {e : Env} {s : State} {m : MethodId} {args : Array Value} {below : List Frame} {meth : Method} {c : Code} {g : GG} {w0 : va_W}  {pa : Int64} {pb : Int64} {pc_ : Int32} {o : Int64} (X : mX g yX9_partOf cX9_partOf 5 (some .long) p s m args meth c w0) :
  ∀ (t0 : Int64) (H : Heap) (locs : List Loc) (ls : Array Slot), qX9_partOf_10 pa pb pc_ t0 = some o → mH g s w0 [] H locs → lv_has ls 5 [(0, .long pa), (2, .long pb), (4, .int pc_)] → W p l e (rM 1 29) s m args below meth c H locs 0 0 (mZ g below args s w0 [] (some (.long o))) (F0 m 10 ls [.long t0]) := by
  have hx := X.1
  have hb := X.2.1
  intro t0 H locs ls h hH hl
  unfold qX9_partOf_10 at h
  refine lv_lload_n hx hb dX9_partOf_10 rfl (lv_at hl 0 rfl) ?_
  refine lv_lload_n hx hb dX9_partOf_11 rfl (lv_at hl 1 rfl) ?_
  obtain ⟨o1, ho1, h⟩ := bd_x h
  refine r_S X hH (ws1 := []) (As := [.long pa, .long pb]) (rest := [.long t0]) (st1 := [.long o1, .long t0]) (uX9_common  ho1) kX9_common mX9_265 sX9_common zX9 okX9_common ⟨Nat.le_of_ble_eq_true rfl, Nat.le_of_ble_eq_true rfl⟩ rfl rfl (pm_none _) (pm_none _) rfl hl.1 rfl (Nat.le_of_ble_eq_true rfl) ⟨Nat.le_refl 0, Nat.le_refl 0⟩ rfl dX9_partOf_12 (fun H locs hH => ?_)
  obtain ⟨z1, h⟩ := gzl_x h
  refine lv_ldiv hx hb dX9_partOf_15 z1 ?_
  have h := Option.some.inj h
  subst h
  exact e_l X hH dX9_partOf_16
set_option maxHeartbeats 4000000 in
set_option maxRecDepth 100000 in
theorem uX9_partOf {l : Launch} {g : GG}  {pa : Int64} {pb : Int64} {pc_ : Int32} {o : Int64} (h : fX9_partOf pa pb pc_ = some o) : mC l g yX9_partOf cX9_partOf 5 (some .long) (rM 1 29) [.long pa, .long pb, .int pc_] [] [] (some (.long o)) := by
  refine mC.ofW (by decide) (fun p e s m below meth c X hH ls _ hl => ?_) (Nat.le_of_ble_eq_true rfl)
  have hx := X.1
  have hb := X.2.1
  have hl : lv_has ls 5 [(0, .long pa), (2, .long pb), (4, .int pc_)] := hl
  unfold fX9_partOf at h
  suffices HH : ∀ (H : Heap) (locs : List Loc), mH g s [] [] H locs → W p l e (rM 1 29) s m _ below meth c H locs 0 0 (mZ g below _ s [] [] (some (.long o))) (F0 m 0 ls []) from HH _ _ hH
  clear hH
  intro H locs hH
  refine lv_iload hx hb dX9_partOf_0 (lv_at hl 2 rfl) ?_
  refine lv_if_ne (tgt := 9) hx hb dX9_partOf_2 (by decide) (fun c1 => ?_) (fun c1 => ?_)
  · have h := ie_x h c1
    refine lv_lload_n hx hb dX9_partOf_9 rfl (lv_at hl 1 rfl) ?_
    exact pX9_partOf_10 X  pb H locs ls h hH (lv_sub hl [0, 1, 2] rfl)
  · have h := it_x h c1
    refine lv_lload_n hx hb dX9_partOf_5 rfl (lv_at hl 0 rfl) ?_
    refine lv_goto (tgt := 10) hx hb dX9_partOf_6 (by decide) ?_
    exact pX9_partOf_10 X  pa H locs ls h hH (lv_sub hl [0, 1, 2] rfl)

def qX9_notTwo_16 (xs : SX9) (pa : Int32) (pb : Int32) (pc_ : Int32)   : Option Int32 :=
  some (-1 : Int32)
def fX9_notTwo (xs : SX9) (pa : Int32) (pb : Int32) (pc_ : Int32) : Option Int32 :=
  (fX9_isPoint xs pa).bind fun o1 =>
  (if o1 = (0 : Int32) then
  qX9_notTwo_16 xs pa pb pc_ 
  else
  (fX9_isPoint xs pb).bind fun o2 =>
  (if o2 = (0 : Int32) then
  qX9_notTwo_16 xs pa pb pc_ 
  else
  (fX9_isIn (pc_.toInt64) (0 : Int64) (1 : Int64)).bind fun o3 =>
  (if o3 = (0 : Int32) then
  some (-2 : Int32)
  else
  some (0 : Int32))))
set_option maxHeartbeats 4000000 in
set_option maxRecDepth 100000 in
theorem pX9_notTwo_16 {p : Program} {l : Launch} {e : Env} {s : State} {m : MethodId} {args : Array Value} {below : List Frame} {meth : Method} {c : Code} {g : GG} {w0 : va_W} {a : Nat → Nat} {i : Nat} {xs : SX9} {pa : Int32} {pb : Int32} {pc_ : Int32} {o : Int32} (X : mX g yX9_notTwo cX9_notTwo 4 (some .int) p s m args meth c w0) :
  ∀  (H : Heap) (locs : List Loc) (ls : Array Slot), qX9_notTwo_16 xs pa pb pc_ = some o → mH g s w0 (wX9 g a i xs) H locs → lv_has ls 4 [(0, .ref (a i)), (1, .int pa), (2, .int pb), (3, .int pc_)] → W p l e (rM 2 46) s m args below meth c H locs 0 0 (mZ g below args s w0 (wX9 g a i xs) (some (.int o))) (F0 m 16 ls []) := by
  have hx := X.1
  have hb := X.2.1
  intro  H locs ls h hH hl
  unfold qX9_notTwo_16 at h
  refine lv_iconst (v := (-1 : Int32)) hx hb dX9_notTwo_16 (by decide) ?_
  refine lv_goto (tgt := 36) hx hb dX9_notTwo_17 (by decide) ?_
  have h := Option.some.inj h
  subst h
  exact e_i X hH dX9_notTwo_36
set_option maxHeartbeats 4000000 in
set_option maxRecDepth 100000 in
theorem uX9_notTwo {l : Launch} {g : GG} {a : Nat → Nat} {i : Nat} {xs : SX9} {pa : Int32} {pb : Int32} {pc_ : Int32} {o : Int32} (h : fX9_notTwo xs pa pb pc_ = some o) : mC l g yX9_notTwo cX9_notTwo 4 (some .int) (rM 2 46) [.ref (a i), .int pa, .int pb, .int pc_] (wX9 g a i xs) (wX9 g a i xs) (some (.int o)) := by
  refine mC.ofW (by decide) (fun p e s m below meth c X hH ls _ hl => ?_) (Nat.le_of_ble_eq_true rfl)
  have hx := X.1
  have hb := X.2.1
  have hl : lv_has ls 4 [(0, .ref (a i)), (1, .int pa), (2, .int pb), (3, .int pc_)] := hl
  unfold fX9_notTwo at h
  suffices HH : ∀ (H : Heap) (locs : List Loc), mH g s (wX9 g a i xs) (wX9 g a i xs) H locs → W p l e (rM 2 46) s m _ below meth c H locs 0 0 (mZ g below _ s (wX9 g a i xs) (wX9 g a i xs) (some (.int o))) (F0 m 0 ls []) from HH _ _ hH
  clear hH
  intro H locs hH
  refine lv_aload_n hx hb dX9_notTwo_0 rfl (lv_at hl 0 rfl) ?_
  refine lv_iload_n hx hb dX9_notTwo_1 rfl (lv_at hl 1 rfl) ?_
  obtain ⟨o1, ho1, h⟩ := bd_x h
  refine r_V X hH (ws1 := (wX9 g a i xs)) (As := [.int pa]) (rest := []) (st1 := [.int o1]) (uX9_isPoint (a := a) (i := i) ho1) kX9_isPoint mX9_141 iX9_isPoint vX9_isPoint zX9 okX9_isPoint ⟨Nat.le_of_ble_eq_true rfl, Nat.le_of_ble_eq_true rfl⟩ rfl rfl (q0 := 0) rfl rfl (pm_all _) (pm_all _) rfl hl.1 rfl (Nat.le_of_ble_eq_true rfl) ⟨Nat.le_refl 0, Nat.le_refl 0⟩ rfl dX9_notTwo_2 (fun H locs hH => ?_)
  refine lv_if_eq (tgt := 16) hx hb dX9_notTwo_5 (by decide) (fun c1 => ?_) (fun c1 => ?_)
  · have h := it_x h c1
    exact pX9_notTwo_16 X   H locs ls h hH (lv_sub hl [0, 1, 2, 3] rfl)
  · have h := ie_x h c1
    refine lv_aload_n hx hb dX9_notTwo_8 rfl (lv_at hl 0 rfl) ?_
    refine lv_iload_n hx hb dX9_notTwo_9 rfl (lv_at hl 2 rfl) ?_
    obtain ⟨o2, ho2, h⟩ := bd_x h
    refine r_V X hH (ws1 := (wX9 g a i xs)) (As := [.int pb]) (rest := []) (st1 := [.int o2]) (uX9_isPoint (a := a) (i := i) ho2) kX9_isPoint mX9_141 iX9_isPoint vX9_isPoint zX9 okX9_isPoint ⟨Nat.le_of_ble_eq_true rfl, Nat.le_of_ble_eq_true rfl⟩ rfl rfl (q0 := 0) rfl rfl (pm_all _) (pm_all _) rfl hl.1 rfl (Nat.le_of_ble_eq_true rfl) ⟨Nat.le_refl 0, Nat.le_refl 0⟩ rfl dX9_notTwo_10 (fun H locs hH => ?_)
    refine lv_if_ne (tgt := 20) hx hb dX9_notTwo_13 (by decide) (fun c2 => ?_) (fun c2 => ?_)
    · have h := ie_x h c2
      refine lv_iload_n hx hb dX9_notTwo_20 rfl (lv_at hl 3 rfl) ?_
      refine lv_i2l hx hb dX9_notTwo_21 rfl ?_
      refine lv_lconst (v := (0 : Int64)) hx hb dX9_notTwo_22 (by decide) ?_
      refine lv_lconst (v := (1 : Int64)) hx hb dX9_notTwo_23 (by decide) ?_
      obtain ⟨o3, ho3, h⟩ := bd_x h
      refine r_S X hH (ws1 := (wX9 g a i xs)) (As := [.long (pc_.toInt64), .long (0 : Int64), .long (1 : Int64)]) (rest := []) (st1 := [.int o3]) (uX9_isIn  ho3) kX9_isIn mX9_116 sX9_isIn zX9 okX9_isIn ⟨Nat.le_of_ble_eq_true rfl, Nat.le_of_ble_eq_true rfl⟩ rfl rfl (pm_none _) (pm_none _) rfl hl.1 rfl (Nat.le_of_ble_eq_true rfl) ⟨Nat.le_refl 0, Nat.le_refl 0⟩ rfl dX9_notTwo_24 (fun H locs hH => ?_)
      refine lv_if_ne (tgt := 35) hx hb dX9_notTwo_27 (by decide) (fun c3 => ?_) (fun c3 => ?_)
      · have h := ie_x h c3
        refine lv_iconst (v := (0 : Int32)) hx hb dX9_notTwo_35 (by decide) ?_
        have h := Option.some.inj h
        subst h
        exact e_i X hH dX9_notTwo_36
      · have h := it_x h c3
        refine lv_bipush (v := (-2 : Int32)) hx hb dX9_notTwo_30 (by decide) ?_
        refine lv_goto (tgt := 36) hx hb dX9_notTwo_32 (by decide) ?_
        have h := Option.some.inj h
        subst h
        exact e_i X hH dX9_notTwo_36
    · have h := it_x h c2
      exact pX9_notTwo_16 X   H locs ls h hH (lv_sub hl [0, 1, 2, 3] rfl)

def fX9_timed (xs : SX9) (pa : Int32) (pb : Int32) (pc_ : Int32) (pd : Int32) : Option (Int64 × SX9) :=
  (fX9_notTwo xs pa pb pc_).bind fun o1 =>
  (if o1 = (0 : Int32) then
  (fX9_allThere xs).bind fun o2 =>
  (fX9_findTime o2 pa pb pd).bind fun o3 =>
  (if o3.1 = (0 : Int32) then
  (fX9_far o3.2 (-3 : Int32)).bind fun o4 =>
  some (o4.1, o4.2)
  else
  (fX9_partOf (m_up o3.2) (m_down o3.2) pc_).bind fun o5 =>
  some (o5, o3.2))
  else
  (fX9_far xs o1).bind fun o6 =>
  some (o6.1, o6.2))
set_option maxHeartbeats 4000000 in
set_option maxRecDepth 100000 in
theorem uX9_timed {l : Launch} {g : GG} {a : Nat → Nat} {i : Nat} {xs : SX9} {pa : Int32} {pb : Int32} {pc_ : Int32} {pd : Int32} {o : (Int64 × SX9)} (h : fX9_timed xs pa pb pc_ pd = some o) : mC l g yX9_timed cX9_timed 6 (some .long) (rM 5 117) [.ref (a i), .int pa, .int pb, .int pc_, .int pd] (wX9 g a i xs) (wX9 g a i o.2) (some (.long o.1)) := by
  refine mC.ofW (by decide) (fun p e s m below meth c X hH ls _ hl => ?_) (Nat.le_of_ble_eq_true rfl)
  have hx := X.1
  have hb := X.2.1
  have hl : lv_has ls 6 [(0, .ref (a i)), (1, .int pa), (2, .int pb), (3, .int pc_), (4, .int pd)] := hl
  unfold fX9_timed at h
  suffices HH : ∀ (H : Heap) (locs : List Loc), mH g s (wX9 g a i xs) (wX9 g a i xs) H locs → W p l e (rM 5 117) s m _ below meth c H locs 0 0 (mZ g below _ s (wX9 g a i xs) (wX9 g a i o.2) (some (.long o.1))) (F0 m 0 ls []) from HH _ _ hH
  clear hH
  intro H locs hH
  refine lv_aload_n hx hb dX9_timed_0 rfl (lv_at hl 0 rfl) ?_
  refine lv_iload_n hx hb dX9_timed_1 rfl (lv_at hl 1 rfl) ?_
  refine lv_iload_n hx hb dX9_timed_2 rfl (lv_at hl 2 rfl) ?_
  refine lv_iload_n hx hb dX9_timed_3 rfl (lv_at hl 3 rfl) ?_
  obtain ⟨o1, ho1, h⟩ := bd_x h
  refine r_V X hH (ws1 := (wX9 g a i xs)) (As := [.int pa, .int pb, .int pc_]) (rest := []) (st1 := [.int o1]) (uX9_notTwo (a := a) (i := i) ho1) kX9_notTwo mX9_269 iX9_notTwo vX9_notTwo zX9 okX9_notTwo ⟨Nat.le_of_ble_eq_true rfl, Nat.le_of_ble_eq_true rfl⟩ rfl rfl (q0 := 0) rfl rfl (pm_all _) (pm_all _) rfl hl.1 rfl (Nat.le_of_ble_eq_true rfl) ⟨Nat.le_refl 0, Nat.le_refl 0⟩ rfl dX9_timed_4 (fun H locs hH => ?_)
  refine s_i X (lv' := [(5, .int o1), (0, .ref (a i)), (1, .int pa), (2, .int pb), (3, .int pc_), (4, .int pd)]) hl rfl dX9_timed_7 (by decide) rfl (fun ls hl => ?_)
  refine lv_iload hx hb dX9_timed_9 (lv_at hl 0 rfl) ?_
  refine lv_if_eq (tgt := 21) hx hb dX9_timed_11 (by decide) (fun c1 => ?_) (fun c1 => ?_)
  · have h := it_x h c1
    refine lv_aload_n hx hb dX9_timed_21 rfl (lv_at hl 1 rfl) ?_
    obtain ⟨o2, ho2, h⟩ := bd_x h
    refine r_V X hH (ws1 := (wX9 g a i o2)) (As := []) (rest := []) (st1 := []) (uX9_allThere (a := a) (i := i) ho2) kX9_allThere mX9_230 iX9_allThere vX9_allThere zX9 okX9_allThere ⟨Nat.le_of_ble_eq_true rfl, Nat.le_of_ble_eq_true rfl⟩ rfl rfl (q0 := 0) rfl rfl (pm_all _) (pm_all _) rfl hl.1 rfl (Nat.le_of_ble_eq_true rfl) ⟨Nat.le_refl 0, Nat.le_refl 0⟩ rfl dX9_timed_22 (fun H locs hH => ?_)
    refine lv_aload_n hx hb dX9_timed_25 rfl (lv_at hl 1 rfl) ?_
    refine lv_iload_n hx hb dX9_timed_26 rfl (lv_at hl 2 rfl) ?_
    refine lv_iload_n hx hb dX9_timed_27 rfl (lv_at hl 3 rfl) ?_
    refine lv_iload hx hb dX9_timed_28 (lv_at hl 5 rfl) ?_
    obtain ⟨o3, ho3, h⟩ := bd_x h
    refine r_V X hH (ws1 := (wX9 g a i o3.2)) (As := [.int pa, .int pb, .int pd]) (rest := []) (st1 := [.int o3.1]) (uX9_findTime (a := a) (i := i) ho3) kX9_findTime mX9_275 iX9_findTime vX9_findTime zX9 okX9_findTime ⟨Nat.le_of_ble_eq_true rfl, Nat.le_of_ble_eq_true rfl⟩ rfl rfl (q0 := 0) rfl rfl (pm_all _) (pm_all _) rfl hl.1 rfl (Nat.le_of_ble_eq_true rfl) ⟨Nat.le_refl 0, Nat.le_refl 0⟩ rfl dX9_timed_30 (fun H locs hH => ?_)
    refine lv_if_eq (tgt := 51) hx hb dX9_timed_33 (by decide) (fun c2 => ?_) (fun c2 => ?_)
    · have h := it_x h c2
      refine lv_aload_n hx hb dX9_timed_51 rfl (lv_at hl 1 rfl) ?_
      refine lv_bipush (v := (-3 : Int32)) hx hb dX9_timed_52 (by decide) ?_
      obtain ⟨o4, ho4, h⟩ := bd_x h
      refine r_V X hH (ws1 := (wX9 g a i o4.2)) (As := [.int (-3 : Int32)]) (rest := []) (st1 := [.long o4.1]) (uX9_far (a := a) (i := i) ho4) kX9_far mX9_272 iX9_far vX9_far zX9 okX9_far ⟨Nat.le_of_ble_eq_true rfl, Nat.le_of_ble_eq_true rfl⟩ rfl rfl (q0 := 0) rfl rfl (pm_all _) (pm_all _) rfl hl.1 rfl (Nat.le_of_ble_eq_true rfl) ⟨Nat.le_refl 0, Nat.le_refl 0⟩ rfl dX9_timed_54 (fun H locs hH => ?_)
      have h := Option.some.inj h
      subst h
      exact e_l X hH dX9_timed_57
    · have h := ie_x h c2
      refine lv_aload_n hx hb dX9_timed_36 rfl (lv_at hl 1 rfl) ?_
      refine f_get X hH 0 rfl rfl 26 (by decide) inX9 fX9_248 rfl dX9_timed_37 ?_
      refine lv_aload_n hx hb dX9_timed_40 rfl (lv_at hl 1 rfl) ?_
      refine f_get X hH 0 rfl rfl 27 (by decide) inX9 fX9_252 rfl dX9_timed_41 ?_
      refine lv_iload_n hx hb dX9_timed_44 rfl (lv_at hl 4 rfl) ?_
      obtain ⟨o5, ho5, h⟩ := bd_x h
      refine r_S X hH (ws1 := (wX9 g a i o3.2)) (As := [.long (m_up o3.2), .long (m_down o3.2), .int pc_]) (rest := []) (st1 := [.long o5]) (uX9_partOf  ho5) kX9_partOf mX9_279 sX9_partOf zX9 okX9_partOf ⟨Nat.le_of_ble_eq_true rfl, Nat.le_of_ble_eq_true rfl⟩ rfl rfl (pm_none _) (pm_none _) rfl hl.1 rfl (Nat.le_of_ble_eq_true rfl) ⟨Nat.le_refl 0, Nat.le_refl 0⟩ rfl dX9_timed_45 (fun H locs hH => ?_)
      refine lv_goto (tgt := 57) hx hb dX9_timed_48 (by decide) ?_
      have h := Option.some.inj h
      subst h
      exact e_l X hH dX9_timed_57
  · have h := ie_x h c1
    refine lv_aload_n hx hb dX9_timed_14 rfl (lv_at hl 1 rfl) ?_
    refine lv_iload hx hb dX9_timed_15 (lv_at hl 0 rfl) ?_
    obtain ⟨o6, ho6, h⟩ := bd_x h
    refine r_V X hH (ws1 := (wX9 g a i o6.2)) (As := [.int o1]) (rest := []) (st1 := [.long o6.1]) (uX9_far (a := a) (i := i) ho6) kX9_far mX9_272 iX9_far vX9_far zX9 okX9_far ⟨Nat.le_of_ble_eq_true rfl, Nat.le_of_ble_eq_true rfl⟩ rfl rfl (q0 := 0) rfl rfl (pm_all _) (pm_all _) rfl hl.1 rfl (Nat.le_of_ble_eq_true rfl) ⟨Nat.le_refl 0, Nat.le_refl 0⟩ rfl dX9_timed_17 (fun H locs hH => ?_)
    have h := Option.some.inj h
    subst h
    exact e_l X hH dX9_timed_20

def fX9_time (xs : SX9) (pa : Int32) (pb : Int32) (pc_ : Int32) : Option (Int64 × SX9) :=
  (fX9_timed xs pa pb pc_ (0 : Int32)).bind fun o1 =>
  some (o1.1, o1.2)
set_option maxHeartbeats 4000000 in
set_option maxRecDepth 100000 in
theorem uX9_time {l : Launch} {g : GG} {a : Nat → Nat} {i : Nat} {xs : SX9} {pa : Int32} {pb : Int32} {pc_ : Int32} {o : (Int64 × SX9)} (h : fX9_time xs pa pb pc_ = some o) : mC l g yX9_time cX9_time 4 (some .long) (rM 6 142) [.ref (a i), .int pa, .int pb, .int pc_] (wX9 g a i xs) (wX9 g a i o.2) (some (.long o.1)) := by
  refine mC.ofW (by decide) (fun p e s m below meth c X hH ls _ hl => ?_) (Nat.le_of_ble_eq_true rfl)
  have hx := X.1
  have hb := X.2.1
  have hl : lv_has ls 4 [(0, .ref (a i)), (1, .int pa), (2, .int pb), (3, .int pc_)] := hl
  unfold fX9_time at h
  suffices HH : ∀ (H : Heap) (locs : List Loc), mH g s (wX9 g a i xs) (wX9 g a i xs) H locs → W p l e (rM 6 142) s m _ below meth c H locs 0 0 (mZ g below _ s (wX9 g a i xs) (wX9 g a i o.2) (some (.long o.1))) (F0 m 0 ls []) from HH _ _ hH
  clear hH
  intro H locs hH
  refine lv_aload_n hx hb dX9_time_0 rfl (lv_at hl 0 rfl) ?_
  refine lv_iload_n hx hb dX9_time_1 rfl (lv_at hl 1 rfl) ?_
  refine lv_iload_n hx hb dX9_time_2 rfl (lv_at hl 2 rfl) ?_
  refine lv_iload_n hx hb dX9_time_3 rfl (lv_at hl 3 rfl) ?_
  refine lv_iconst (v := (0 : Int32)) hx hb dX9_time_4 (by decide) ?_
  obtain ⟨o1, ho1, h⟩ := bd_x h
  refine r_V X hH (ws1 := (wX9 g a i o1.2)) (As := [.int pa, .int pb, .int pc_, .int (0 : Int32)]) (rest := []) (st1 := [.long o1.1]) (uX9_timed (a := a) (i := i) ho1) kX9_timed mX9_283 iX9_timed vX9_timed zX9 okX9_timed ⟨Nat.le_of_ble_eq_true rfl, Nat.le_of_ble_eq_true rfl⟩ rfl rfl (q0 := 0) rfl rfl (pm_all _) (pm_all _) rfl hl.1 rfl (Nat.le_of_ble_eq_true rfl) ⟨Nat.le_refl 0, Nat.le_refl 0⟩ rfl dX9_time_5 (fun H locs hH => ?_)
  have h := Option.some.inj h
  subst h
  exact e_l X hH dX9_time_8

def fX9_steps (xs : SX9) (pa : Int32) (pb : Int32) (pc_ : Int32) : Option (Int64 × SX9) :=
  (fX9_timed xs pa pb pc_ (1 : Int32)).bind fun o1 =>
  some (o1.1, o1.2)
set_option maxHeartbeats 4000000 in
set_option maxRecDepth 100000 in
theorem uX9_steps {l : Launch} {g : GG} {a : Nat → Nat} {i : Nat} {xs : SX9} {pa : Int32} {pb : Int32} {pc_ : Int32} {o : (Int64 × SX9)} (h : fX9_steps xs pa pb pc_ = some o) : mC l g yX9_steps cX9_steps 4 (some .long) (rM 6 142) [.ref (a i), .int pa, .int pb, .int pc_] (wX9 g a i xs) (wX9 g a i o.2) (some (.long o.1)) := by
  refine mC.ofW (by decide) (fun p e s m below meth c X hH ls _ hl => ?_) (Nat.le_of_ble_eq_true rfl)
  have hx := X.1
  have hb := X.2.1
  have hl : lv_has ls 4 [(0, .ref (a i)), (1, .int pa), (2, .int pb), (3, .int pc_)] := hl
  unfold fX9_steps at h
  suffices HH : ∀ (H : Heap) (locs : List Loc), mH g s (wX9 g a i xs) (wX9 g a i xs) H locs → W p l e (rM 6 142) s m _ below meth c H locs 0 0 (mZ g below _ s (wX9 g a i xs) (wX9 g a i o.2) (some (.long o.1))) (F0 m 0 ls []) from HH _ _ hH
  clear hH
  intro H locs hH
  refine lv_aload_n hx hb dX9_steps_0 rfl (lv_at hl 0 rfl) ?_
  refine lv_iload_n hx hb dX9_steps_1 rfl (lv_at hl 1 rfl) ?_
  refine lv_iload_n hx hb dX9_steps_2 rfl (lv_at hl 2 rfl) ?_
  refine lv_iload_n hx hb dX9_steps_3 rfl (lv_at hl 3 rfl) ?_
  refine lv_iconst (v := (1 : Int32)) hx hb dX9_steps_4 (by decide) ?_
  obtain ⟨o1, ho1, h⟩ := bd_x h
  refine r_V X hH (ws1 := (wX9 g a i o1.2)) (As := [.int pa, .int pb, .int pc_, .int (1 : Int32)]) (rest := []) (st1 := [.long o1.1]) (uX9_timed (a := a) (i := i) ho1) kX9_timed mX9_283 iX9_timed vX9_timed zX9 okX9_timed ⟨Nat.le_of_ble_eq_true rfl, Nat.le_of_ble_eq_true rfl⟩ rfl rfl (q0 := 0) rfl rfl (pm_all _) (pm_all _) rfl hl.1 rfl (Nat.le_of_ble_eq_true rfl) ⟨Nat.le_refl 0, Nat.le_refl 0⟩ rfl dX9_steps_5 (fun H locs hH => ?_)
  have h := Option.some.inj h
  subst h
  exact e_l X hH dX9_steps_8

def fX9_findCommute (xs : SX9) (pa : Int32) (pb : Int32) : Option (Int32 × SX9) :=
  (fX9_findTime xs pa pb (0 : Int32)).bind fun o1 =>
  (if o1.1 = (0 : Int32) then
  some ((0 : Int32), o1.2)
  else
  ltt ((m_up o1.2)) fun v1 =>
  ltt ((m_commuteUp_s o1.2 v1)) fun xs1 =>
  ltt ((m_down xs1)) fun v2 =>
  ltt ((m_commuteDown_s xs1 v2)) fun xs2 =>
  (fX9_findTime xs2 pb pa (0 : Int32)).bind fun o2 =>
  ltt (((m_commuteUp o2.2) + (m_up o2.2))) fun v3 =>
  ltt ((m_commuteUp_s o2.2 v3)) fun xs3 =>
  some ((1 : Int32), xs3))
set_option maxHeartbeats 4000000 in
set_option maxRecDepth 100000 in
theorem uX9_findCommute {l : Launch} {g : GG} {a : Nat → Nat} {i : Nat} {xs : SX9} {pa : Int32} {pb : Int32} {o : (Int32 × SX9)} (h : fX9_findCommute xs pa pb = some o) : mC l g yX9_findCommute cX9_findCommute 3 (some .boolean) (rM 5 117) [.ref (a i), .int pa, .int pb] (wX9 g a i xs) (wX9 g a i o.2) (some (.int o.1)) := by
  refine mC.ofW (by decide) (fun p e s m below meth c X hH ls _ hl => ?_) (Nat.le_of_ble_eq_true rfl)
  have hx := X.1
  have hb := X.2.1
  have hl : lv_has ls 3 [(0, .ref (a i)), (1, .int pa), (2, .int pb)] := hl
  unfold fX9_findCommute at h
  suffices HH : ∀ (H : Heap) (locs : List Loc), mH g s (wX9 g a i xs) (wX9 g a i xs) H locs → W p l e (rM 5 117) s m _ below meth c H locs 0 0 (mZ g below _ s (wX9 g a i xs) (wX9 g a i o.2) (some (.int o.1))) (F0 m 0 ls []) from HH _ _ hH
  clear hH
  intro H locs hH
  refine lv_aload_n hx hb dX9_findCommute_0 rfl (lv_at hl 0 rfl) ?_
  refine lv_iload_n hx hb dX9_findCommute_1 rfl (lv_at hl 1 rfl) ?_
  refine lv_iload_n hx hb dX9_findCommute_2 rfl (lv_at hl 2 rfl) ?_
  refine lv_iconst (v := (0 : Int32)) hx hb dX9_findCommute_3 (by decide) ?_
  obtain ⟨o1, ho1, h⟩ := bd_x h
  refine r_V X hH (ws1 := (wX9 g a i o1.2)) (As := [.int pa, .int pb, .int (0 : Int32)]) (rest := []) (st1 := [.int o1.1]) (uX9_findTime (a := a) (i := i) ho1) kX9_findTime mX9_275 iX9_findTime vX9_findTime zX9 okX9_findTime ⟨Nat.le_of_ble_eq_true rfl, Nat.le_of_ble_eq_true rfl⟩ rfl rfl (q0 := 0) rfl rfl (pm_all _) (pm_all _) rfl hl.1 rfl (Nat.le_of_ble_eq_true rfl) ⟨Nat.le_refl 0, Nat.le_refl 0⟩ rfl dX9_findCommute_4 (fun H locs hH => ?_)
  refine lv_if_ne (tgt := 12) hx hb dX9_findCommute_7 (by decide) (fun c1 => ?_) (fun c1 => ?_)
  · have h := ie_x h c1
    refine lv_aload_n hx hb dX9_findCommute_12 rfl (lv_at hl 0 rfl) ?_
    refine lv_aload_n hx hb dX9_findCommute_13 rfl (lv_at hl 0 rfl) ?_
    refine f_get X hH 0 rfl rfl 26 (by decide) inX9 fX9_248 rfl dX9_findCommute_14 ?_
    obtain ⟨v1, ev1, h⟩ := ltt_x h
    refine lv_topl (fun y0 e0 => ?_)
    rw [← ev1] at e0
    subst y0
    obtain ⟨xs1, exs1, h⟩ := ltt_x h
    refine f_put X hH (ws1 := (wX9 g a i xs1)) 0 rfl rfl 28 (by decide) inX9 tyX9 tyX9_ok nmX9 fX9_287 rfl rfl rfl (Nat.le_of_ble_eq_true rfl) (by rw [exs1]; rfl) dX9_findCommute_17 (fun H locs hH => ?_)
    refine lv_aload_n hx hb dX9_findCommute_20 rfl (lv_at hl 0 rfl) ?_
    refine lv_aload_n hx hb dX9_findCommute_21 rfl (lv_at hl 0 rfl) ?_
    refine f_get X hH 0 rfl rfl 27 (by decide) inX9 fX9_252 rfl dX9_findCommute_22 ?_
    obtain ⟨v2, ev2, h⟩ := ltt_x h
    refine lv_topl (fun y0 e0 => ?_)
    rw [← ev2] at e0
    subst y0
    obtain ⟨xs2, exs2, h⟩ := ltt_x h
    refine f_put X hH (ws1 := (wX9 g a i xs2)) 0 rfl rfl 29 (by decide) inX9 tyX9 tyX9_ok nmX9 fX9_290 rfl rfl rfl (Nat.le_of_ble_eq_true rfl) (by rw [exs2]; rfl) dX9_findCommute_25 (fun H locs hH => ?_)
    refine lv_aload_n hx hb dX9_findCommute_28 rfl (lv_at hl 0 rfl) ?_
    refine lv_iload_n hx hb dX9_findCommute_29 rfl (lv_at hl 2 rfl) ?_
    refine lv_iload_n hx hb dX9_findCommute_30 rfl (lv_at hl 1 rfl) ?_
    refine lv_iconst (v := (0 : Int32)) hx hb dX9_findCommute_31 (by decide) ?_
    obtain ⟨o2, ho2, h⟩ := bd_x h
    refine r_V X hH (ws1 := (wX9 g a i o2.2)) (As := [.int pb, .int pa, .int (0 : Int32)]) (rest := []) (st1 := [.int o2.1]) (uX9_findTime (a := a) (i := i) ho2) kX9_findTime mX9_275 iX9_findTime vX9_findTime zX9 okX9_findTime ⟨Nat.le_of_ble_eq_true rfl, Nat.le_of_ble_eq_true rfl⟩ rfl rfl (q0 := 0) rfl rfl (pm_all _) (pm_all _) rfl hl.1 rfl (Nat.le_of_ble_eq_true rfl) ⟨Nat.le_refl 0, Nat.le_refl 0⟩ rfl dX9_findCommute_32 (fun H locs hH => ?_)
    refine lv_pop hx hb dX9_findCommute_35 rfl ?_
    refine lv_aload_n hx hb dX9_findCommute_36 rfl (lv_at hl 0 rfl) ?_
    refine lv_dup hx hb dX9_findCommute_37 rfl ?_
    refine f_get X hH 0 rfl rfl 28 (by decide) inX9 fX9_287 rfl dX9_findCommute_38 ?_
    refine lv_aload_n hx hb dX9_findCommute_41 rfl (lv_at hl 0 rfl) ?_
    refine f_get X hH 0 rfl rfl 26 (by decide) inX9 fX9_248 rfl dX9_findCommute_42 ?_
    refine lv_ladd hx hb dX9_findCommute_45 ?_
    obtain ⟨v3, ev3, h⟩ := ltt_x h
    refine lv_topl (fun y0 e0 => ?_)
    rw [← ev3] at e0
    subst y0
    obtain ⟨xs3, exs3, h⟩ := ltt_x h
    refine f_put X hH (ws1 := (wX9 g a i xs3)) 0 rfl rfl 28 (by decide) inX9 tyX9 tyX9_ok nmX9 fX9_287 rfl rfl rfl (Nat.le_of_ble_eq_true rfl) (by rw [exs3]; rfl) dX9_findCommute_46 (fun H locs hH => ?_)
    refine lv_iconst (v := (1 : Int32)) hx hb dX9_findCommute_49 (by decide) ?_
    have h := Option.some.inj h
    subst h
    exact e_z X hH (Or.inr rfl) dX9_findCommute_50
  · have h := it_x h c1
    refine lv_iconst (v := (0 : Int32)) hx hb dX9_findCommute_10 (by decide) ?_
    have h := Option.some.inj h
    subst h
    exact e_z X hH (Or.inl rfl) dX9_findCommute_11

def fX9_commute (xs : SX9) (pa : Int32) (pb : Int32) (pc_ : Int32) : Option (Int64 × SX9) :=
  (fX9_notTwo xs pa pb pc_).bind fun o1 =>
  (if o1 = (0 : Int32) then
  (fX9_allThere xs).bind fun o2 =>
  (fX9_findCommute o2 pa pb).bind fun o3 =>
  (if o3.1 = (0 : Int32) then
  (fX9_far o3.2 (-3 : Int32)).bind fun o4 =>
  some (o4.1, o4.2)
  else
  (fX9_partOf (m_commuteUp o3.2) (m_commuteDown o3.2) pc_).bind fun o5 =>
  some (o5, o3.2))
  else
  (fX9_far xs o1).bind fun o6 =>
  some (o6.1, o6.2))
set_option maxHeartbeats 4000000 in
set_option maxRecDepth 100000 in
theorem uX9_commute {l : Launch} {g : GG} {a : Nat → Nat} {i : Nat} {xs : SX9} {pa : Int32} {pb : Int32} {pc_ : Int32} {o : (Int64 × SX9)} (h : fX9_commute xs pa pb pc_ = some o) : mC l g yX9_commute cX9_commute 5 (some .long) (rM 6 139) [.ref (a i), .int pa, .int pb, .int pc_] (wX9 g a i xs) (wX9 g a i o.2) (some (.long o.1)) := by
  refine mC.ofW (by decide) (fun p e s m below meth c X hH ls _ hl => ?_) (Nat.le_of_ble_eq_true rfl)
  have hx := X.1
  have hb := X.2.1
  have hl : lv_has ls 5 [(0, .ref (a i)), (1, .int pa), (2, .int pb), (3, .int pc_)] := hl
  unfold fX9_commute at h
  suffices HH : ∀ (H : Heap) (locs : List Loc), mH g s (wX9 g a i xs) (wX9 g a i xs) H locs → W p l e (rM 6 139) s m _ below meth c H locs 0 0 (mZ g below _ s (wX9 g a i xs) (wX9 g a i o.2) (some (.long o.1))) (F0 m 0 ls []) from HH _ _ hH
  clear hH
  intro H locs hH
  refine lv_aload_n hx hb dX9_commute_0 rfl (lv_at hl 0 rfl) ?_
  refine lv_iload_n hx hb dX9_commute_1 rfl (lv_at hl 1 rfl) ?_
  refine lv_iload_n hx hb dX9_commute_2 rfl (lv_at hl 2 rfl) ?_
  refine lv_iload_n hx hb dX9_commute_3 rfl (lv_at hl 3 rfl) ?_
  obtain ⟨o1, ho1, h⟩ := bd_x h
  refine r_V X hH (ws1 := (wX9 g a i xs)) (As := [.int pa, .int pb, .int pc_]) (rest := []) (st1 := [.int o1]) (uX9_notTwo (a := a) (i := i) ho1) kX9_notTwo mX9_269 iX9_notTwo vX9_notTwo zX9 okX9_notTwo ⟨Nat.le_of_ble_eq_true rfl, Nat.le_of_ble_eq_true rfl⟩ rfl rfl (q0 := 0) rfl rfl (pm_all _) (pm_all _) rfl hl.1 rfl (Nat.le_of_ble_eq_true rfl) ⟨Nat.le_refl 0, Nat.le_refl 0⟩ rfl dX9_commute_4 (fun H locs hH => ?_)
  refine s_i X (lv' := [(4, .int o1), (0, .ref (a i)), (1, .int pa), (2, .int pb), (3, .int pc_)]) hl rfl dX9_commute_7 (by decide) rfl (fun ls hl => ?_)
  refine lv_iload hx hb dX9_commute_9 (lv_at hl 0 rfl) ?_
  refine lv_if_eq (tgt := 21) hx hb dX9_commute_11 (by decide) (fun c1 => ?_) (fun c1 => ?_)
  · have h := it_x h c1
    refine lv_aload_n hx hb dX9_commute_21 rfl (lv_at hl 1 rfl) ?_
    obtain ⟨o2, ho2, h⟩ := bd_x h
    refine r_V X hH (ws1 := (wX9 g a i o2)) (As := []) (rest := []) (st1 := []) (uX9_allThere (a := a) (i := i) ho2) kX9_allThere mX9_230 iX9_allThere vX9_allThere zX9 okX9_allThere ⟨Nat.le_of_ble_eq_true rfl, Nat.le_of_ble_eq_true rfl⟩ rfl rfl (q0 := 0) rfl rfl (pm_all _) (pm_all _) rfl hl.1 rfl (Nat.le_of_ble_eq_true rfl) ⟨Nat.le_refl 0, Nat.le_refl 0⟩ rfl dX9_commute_22 (fun H locs hH => ?_)
    refine lv_aload_n hx hb dX9_commute_25 rfl (lv_at hl 1 rfl) ?_
    refine lv_iload_n hx hb dX9_commute_26 rfl (lv_at hl 2 rfl) ?_
    refine lv_iload_n hx hb dX9_commute_27 rfl (lv_at hl 3 rfl) ?_
    obtain ⟨o3, ho3, h⟩ := bd_x h
    refine r_V X hH (ws1 := (wX9 g a i o3.2)) (As := [.int pa, .int pb]) (rest := []) (st1 := [.int o3.1]) (uX9_findCommute (a := a) (i := i) ho3) kX9_findCommute mX9_293 iX9_findCommute vX9_findCommute zX9 okX9_findCommute ⟨Nat.le_of_ble_eq_true rfl, Nat.le_of_ble_eq_true rfl⟩ rfl rfl (q0 := 0) rfl rfl (pm_all _) (pm_all _) rfl hl.1 rfl (Nat.le_of_ble_eq_true rfl) ⟨Nat.le_refl 0, Nat.le_refl 0⟩ rfl dX9_commute_28 (fun H locs hH => ?_)
    refine lv_if_eq (tgt := 49) hx hb dX9_commute_31 (by decide) (fun c2 => ?_) (fun c2 => ?_)
    · have h := it_x h c2
      refine lv_aload_n hx hb dX9_commute_49 rfl (lv_at hl 1 rfl) ?_
      refine lv_bipush (v := (-3 : Int32)) hx hb dX9_commute_50 (by decide) ?_
      obtain ⟨o4, ho4, h⟩ := bd_x h
      refine r_V X hH (ws1 := (wX9 g a i o4.2)) (As := [.int (-3 : Int32)]) (rest := []) (st1 := [.long o4.1]) (uX9_far (a := a) (i := i) ho4) kX9_far mX9_272 iX9_far vX9_far zX9 okX9_far ⟨Nat.le_of_ble_eq_true rfl, Nat.le_of_ble_eq_true rfl⟩ rfl rfl (q0 := 0) rfl rfl (pm_all _) (pm_all _) rfl hl.1 rfl (Nat.le_of_ble_eq_true rfl) ⟨Nat.le_refl 0, Nat.le_refl 0⟩ rfl dX9_commute_52 (fun H locs hH => ?_)
      have h := Option.some.inj h
      subst h
      exact e_l X hH dX9_commute_55
    · have h := ie_x h c2
      refine lv_aload_n hx hb dX9_commute_34 rfl (lv_at hl 1 rfl) ?_
      refine f_get X hH 0 rfl rfl 28 (by decide) inX9 fX9_287 rfl dX9_commute_35 ?_
      refine lv_aload_n hx hb dX9_commute_38 rfl (lv_at hl 1 rfl) ?_
      refine f_get X hH 0 rfl rfl 29 (by decide) inX9 fX9_290 rfl dX9_commute_39 ?_
      refine lv_iload_n hx hb dX9_commute_42 rfl (lv_at hl 4 rfl) ?_
      obtain ⟨o5, ho5, h⟩ := bd_x h
      refine r_S X hH (ws1 := (wX9 g a i o3.2)) (As := [.long (m_commuteUp o3.2), .long (m_commuteDown o3.2), .int pc_]) (rest := []) (st1 := [.long o5]) (uX9_partOf  ho5) kX9_partOf mX9_279 sX9_partOf zX9 okX9_partOf ⟨Nat.le_of_ble_eq_true rfl, Nat.le_of_ble_eq_true rfl⟩ rfl rfl (pm_none _) (pm_none _) rfl hl.1 rfl (Nat.le_of_ble_eq_true rfl) ⟨Nat.le_refl 0, Nat.le_refl 0⟩ rfl dX9_commute_43 (fun H locs hH => ?_)
      refine lv_goto (tgt := 55) hx hb dX9_commute_46 (by decide) ?_
      have h := Option.some.inj h
      subst h
      exact e_l X hH dX9_commute_55
  · have h := ie_x h c1
    refine lv_aload_n hx hb dX9_commute_14 rfl (lv_at hl 1 rfl) ?_
    refine lv_iload hx hb dX9_commute_15 (lv_at hl 0 rfl) ?_
    obtain ⟨o6, ho6, h⟩ := bd_x h
    refine r_V X hH (ws1 := (wX9 g a i o6.2)) (As := [.int o1]) (rest := []) (st1 := [.long o6.1]) (uX9_far (a := a) (i := i) ho6) kX9_far mX9_272 iX9_far vX9_far zX9 okX9_far ⟨Nat.le_of_ble_eq_true rfl, Nat.le_of_ble_eq_true rfl⟩ rfl rfl (q0 := 0) rfl rfl (pm_all _) (pm_all _) rfl hl.1 rfl (Nat.le_of_ble_eq_true rfl) ⟨Nat.le_refl 0, Nat.le_refl 0⟩ rfl dX9_commute_17 (fun H locs hH => ?_)
    have h := Option.some.inj h
    subst h
    exact e_l X hH dX9_commute_20

def qX9_visits_29 (pa : Int32) (pb : Int32) (pc_ : Int32) (pd : Int32)  (xs : SX9) : Option (Int64 × SX9) :=
  (fX9_far xs (-1 : Int32)).bind fun o2 =>
  some (o2.1, o2.2)
def fX9_visits (xs : SX9) (pa : Int32) (pb : Int32) (pc_ : Int32) (pd : Int32) : Option (Int64 × SX9) :=
  (fX9_isPoint xs pa).bind fun o1 =>
  (if o1 = (0 : Int32) then
  qX9_visits_29 pa pb pc_ pd xs
  else
  (fX9_isPoint xs pb).bind fun o3 =>
  (if o3 = (0 : Int32) then
  qX9_visits_29 pa pb pc_ pd xs
  else
  (fX9_isPoint xs pc_).bind fun o4 =>
  (if o4 = (0 : Int32) then
  qX9_visits_29 pa pb pc_ pd xs
  else
  (if pc_ = pb then
  qX9_visits_29 pa pb pc_ pd xs
  else
  (fX9_isIn (pd.toInt64) (0 : Int64) (1 : Int64)).bind fun o5 =>
  (if o5 = (0 : Int32) then
  (fX9_far xs (-2 : Int32)).bind fun o14 =>
  some (o14.1, o14.2)
  else
  (fX9_allThere xs).bind fun o6 =>
  (fX9_reach o6 pa).bind fun o7 =>
  (fX9_has o7 pb).bind fun o8 =>
  (if o8 = (0 : Int32) then
  (fX9_far o6 (-3 : Int32)).bind fun o13 =>
  some (o13.1, o13.2)
  else
  (fX9_findDown o6 pb).bind fun o9 =>
  (fX9_share o9 pa pb pc_).bind fun o10 =>
  (fX9_weightsAt o10.2 pc_).bind fun o11 =>
  (fX9_partOf (o10.1 * (o11.toInt64)) (m_down o10.2) pd).bind fun o12 =>
  some (o12, o10.2)))))))
set_option maxHeartbeats 4000000 in
set_option maxRecDepth 100000 in
theorem pX9_visits_29 {p : Program} {l : Launch} {e : Env} {s : State} {m : MethodId} {args : Array Value} {below : List Frame} {meth : Method} {c : Code} {g : GG} {w0 : va_W} {a : Nat → Nat} {i : Nat} {pa : Int32} {pb : Int32} {pc_ : Int32} {pd : Int32} {o : (Int64 × SX9)} (X : mX g yX9_visits cX9_visits 5 (some .long) p s m args meth c w0) :
  ∀ (xs : SX9) (H : Heap) (locs : List Loc) (ls : Array Slot), qX9_visits_29 pa pb pc_ pd xs = some o → mH g s w0 (wX9 g a i xs) H locs → lv_has ls 5 [(0, .ref (a i)), (1, .int pa), (2, .int pb), (3, .int pc_), (4, .int pd)] → W p l e (rM 5 114) s m args below meth c H locs 0 0 (mZ g below args s w0 (wX9 g a i o.2) (some (.long o.1))) (F0 m 29 ls []) := by
  have hx := X.1
  have hb := X.2.1
  intro xs H locs ls h hH hl
  unfold qX9_visits_29 at h
  refine lv_aload_n hx hb dX9_visits_29 rfl (lv_at hl 0 rfl) ?_
  refine lv_iconst (v := (-1 : Int32)) hx hb dX9_visits_30 (by decide) ?_
  obtain ⟨o2, ho2, h⟩ := bd_x h
  refine r_V X hH (ws1 := (wX9 g a i o2.2)) (As := [.int (-1 : Int32)]) (rest := []) (st1 := [.long o2.1]) (uX9_far (a := a) (i := i) ho2) kX9_far mX9_272 iX9_far vX9_far zX9 okX9_far ⟨Nat.le_of_ble_eq_true rfl, Nat.le_of_ble_eq_true rfl⟩ rfl rfl (q0 := 0) rfl rfl (pm_all _) (pm_all _) rfl hl.1 rfl (Nat.le_of_ble_eq_true rfl) ⟨Nat.le_refl 0, Nat.le_refl 0⟩ rfl dX9_visits_31 (fun H locs hH => ?_)
  have h := Option.some.inj h
  subst h
  exact e_l X hH dX9_visits_34
set_option maxHeartbeats 4000000 in
set_option maxRecDepth 100000 in
theorem uX9_visits {l : Launch} {g : GG} {a : Nat → Nat} {i : Nat} {xs : SX9} {pa : Int32} {pb : Int32} {pc_ : Int32} {pd : Int32} {o : (Int64 × SX9)} (h : fX9_visits xs pa pb pc_ pd = some o) : mC l g yX9_visits cX9_visits 5 (some .long) (rM 5 114) [.ref (a i), .int pa, .int pb, .int pc_, .int pd] (wX9 g a i xs) (wX9 g a i o.2) (some (.long o.1)) := by
  refine mC.ofW (by decide) (fun p e s m below meth c X hH ls _ hl => ?_) (Nat.le_of_ble_eq_true rfl)
  have hx := X.1
  have hb := X.2.1
  have hl : lv_has ls 5 [(0, .ref (a i)), (1, .int pa), (2, .int pb), (3, .int pc_), (4, .int pd)] := hl
  unfold fX9_visits at h
  suffices HH : ∀ (H : Heap) (locs : List Loc), mH g s (wX9 g a i xs) (wX9 g a i xs) H locs → W p l e (rM 5 114) s m _ below meth c H locs 0 0 (mZ g below _ s (wX9 g a i xs) (wX9 g a i o.2) (some (.long o.1))) (F0 m 0 ls []) from HH _ _ hH
  clear hH
  intro H locs hH
  refine lv_aload_n hx hb dX9_visits_0 rfl (lv_at hl 0 rfl) ?_
  refine lv_iload_n hx hb dX9_visits_1 rfl (lv_at hl 1 rfl) ?_
  obtain ⟨o1, ho1, h⟩ := bd_x h
  refine r_V X hH (ws1 := (wX9 g a i xs)) (As := [.int pa]) (rest := []) (st1 := [.int o1]) (uX9_isPoint (a := a) (i := i) ho1) kX9_isPoint mX9_141 iX9_isPoint vX9_isPoint zX9 okX9_isPoint ⟨Nat.le_of_ble_eq_true rfl, Nat.le_of_ble_eq_true rfl⟩ rfl rfl (q0 := 0) rfl rfl (pm_all _) (pm_all _) rfl hl.1 rfl (Nat.le_of_ble_eq_true rfl) ⟨Nat.le_refl 0, Nat.le_refl 0⟩ rfl dX9_visits_2 (fun H locs hH => ?_)
  refine lv_if_eq (tgt := 29) hx hb dX9_visits_5 (by decide) (fun c1 => ?_) (fun c1 => ?_)
  · have h := it_x h c1
    exact pX9_visits_29 X  xs H locs ls h hH (lv_sub hl [0, 1, 2, 3, 4] rfl)
  · have h := ie_x h c1
    refine lv_aload_n hx hb dX9_visits_8 rfl (lv_at hl 0 rfl) ?_
    refine lv_iload_n hx hb dX9_visits_9 rfl (lv_at hl 2 rfl) ?_
    obtain ⟨o3, ho3, h⟩ := bd_x h
    refine r_V X hH (ws1 := (wX9 g a i xs)) (As := [.int pb]) (rest := []) (st1 := [.int o3]) (uX9_isPoint (a := a) (i := i) ho3) kX9_isPoint mX9_141 iX9_isPoint vX9_isPoint zX9 okX9_isPoint ⟨Nat.le_of_ble_eq_true rfl, Nat.le_of_ble_eq_true rfl⟩ rfl rfl (q0 := 0) rfl rfl (pm_all _) (pm_all _) rfl hl.1 rfl (Nat.le_of_ble_eq_true rfl) ⟨Nat.le_refl 0, Nat.le_refl 0⟩ rfl dX9_visits_10 (fun H locs hH => ?_)
    refine lv_if_eq (tgt := 29) hx hb dX9_visits_13 (by decide) (fun c2 => ?_) (fun c2 => ?_)
    · have h := it_x h c2
      exact pX9_visits_29 X  xs H locs ls h hH (lv_sub hl [0, 1, 2, 3, 4] rfl)
    · have h := ie_x h c2
      refine lv_aload_n hx hb dX9_visits_16 rfl (lv_at hl 0 rfl) ?_
      refine lv_iload_n hx hb dX9_visits_17 rfl (lv_at hl 3 rfl) ?_
      obtain ⟨o4, ho4, h⟩ := bd_x h
      refine r_V X hH (ws1 := (wX9 g a i xs)) (As := [.int pc_]) (rest := []) (st1 := [.int o4]) (uX9_isPoint (a := a) (i := i) ho4) kX9_isPoint mX9_141 iX9_isPoint vX9_isPoint zX9 okX9_isPoint ⟨Nat.le_of_ble_eq_true rfl, Nat.le_of_ble_eq_true rfl⟩ rfl rfl (q0 := 0) rfl rfl (pm_all _) (pm_all _) rfl hl.1 rfl (Nat.le_of_ble_eq_true rfl) ⟨Nat.le_refl 0, Nat.le_refl 0⟩ rfl dX9_visits_18 (fun H locs hH => ?_)
      refine lv_if_eq (tgt := 29) hx hb dX9_visits_21 (by decide) (fun c3 => ?_) (fun c3 => ?_)
      · have h := it_x h c3
        exact pX9_visits_29 X  xs H locs ls h hH (lv_sub hl [0, 1, 2, 3, 4] rfl)
      · have h := ie_x h c3
        refine lv_iload_n hx hb dX9_visits_24 rfl (lv_at hl 3 rfl) ?_
        refine lv_iload_n hx hb dX9_visits_25 rfl (lv_at hl 2 rfl) ?_
        refine lv_icmp_ne (tgt := 35) hx hb dX9_visits_26 (by decide) (fun c4 => ?_) (fun c4 => ?_)
        · have h := ie_x h c4
          refine lv_iload hx hb dX9_visits_35 (lv_at hl 4 rfl) ?_
          refine lv_i2l hx hb dX9_visits_37 rfl ?_
          refine lv_lconst (v := (0 : Int64)) hx hb dX9_visits_38 (by decide) ?_
          refine lv_lconst (v := (1 : Int64)) hx hb dX9_visits_39 (by decide) ?_
          obtain ⟨o5, ho5, h⟩ := bd_x h
          refine r_S X hH (ws1 := (wX9 g a i xs)) (As := [.long (pd.toInt64), .long (0 : Int64), .long (1 : Int64)]) (rest := []) (st1 := [.int o5]) (uX9_isIn  ho5) kX9_isIn mX9_116 sX9_isIn zX9 okX9_isIn ⟨Nat.le_of_ble_eq_true rfl, Nat.le_of_ble_eq_true rfl⟩ rfl rfl (pm_none _) (pm_none _) rfl hl.1 rfl (Nat.le_of_ble_eq_true rfl) ⟨Nat.le_refl 0, Nat.le_refl 0⟩ rfl dX9_visits_40 (fun H locs hH => ?_)
          refine lv_if_ne (tgt := 53) hx hb dX9_visits_43 (by decide) (fun c5 => ?_) (fun c5 => ?_)
          · have h := ie_x h c5
            refine lv_aload_n hx hb dX9_visits_53 rfl (lv_at hl 0 rfl) ?_
            obtain ⟨o6, ho6, h⟩ := bd_x h
            refine r_V X hH (ws1 := (wX9 g a i o6)) (As := []) (rest := []) (st1 := []) (uX9_allThere (a := a) (i := i) ho6) kX9_allThere mX9_230 iX9_allThere vX9_allThere zX9 okX9_allThere ⟨Nat.le_of_ble_eq_true rfl, Nat.le_of_ble_eq_true rfl⟩ rfl rfl (q0 := 0) rfl rfl (pm_all _) (pm_all _) rfl hl.1 rfl (Nat.le_of_ble_eq_true rfl) ⟨Nat.le_refl 0, Nat.le_refl 0⟩ rfl dX9_visits_54 (fun H locs hH => ?_)
            refine lv_aload_n hx hb dX9_visits_57 rfl (lv_at hl 0 rfl) ?_
            refine lv_iload_n hx hb dX9_visits_58 rfl (lv_at hl 1 rfl) ?_
            obtain ⟨o7, ho7, h⟩ := bd_x h
            refine r_V X hH (ws1 := (wX9 g a i o6)) (As := [.int pa]) (rest := []) (st1 := [.int o7]) (uX9_reach (a := a) (i := i) ho7) kX9_reach mX9_233 iX9_reach vX9_reach zX9 okX9_reach ⟨Nat.le_of_ble_eq_true rfl, Nat.le_of_ble_eq_true rfl⟩ rfl rfl (q0 := 0) rfl rfl (pm_all _) (pm_all _) rfl hl.1 rfl (Nat.le_of_ble_eq_true rfl) ⟨Nat.le_refl 0, Nat.le_refl 0⟩ rfl dX9_visits_59 (fun H locs hH => ?_)
            refine lv_iload_n hx hb dX9_visits_62 rfl (lv_at hl 2 rfl) ?_
            obtain ⟨o8, ho8, h⟩ := bd_x h
            refine r_S X hH (ws1 := (wX9 g a i o6)) (As := [.int o7, .int pb]) (rest := []) (st1 := [.int o8]) (uX9_has  ho8) kX9_has mX9_226 sX9_has zX9 okX9_has ⟨Nat.le_of_ble_eq_true rfl, Nat.le_of_ble_eq_true rfl⟩ rfl rfl (pm_none _) (pm_none _) rfl hl.1 rfl (Nat.le_of_ble_eq_true rfl) ⟨Nat.le_refl 0, Nat.le_refl 0⟩ rfl dX9_visits_63 (fun H locs hH => ?_)
            refine lv_if_ne (tgt := 76) hx hb dX9_visits_66 (by decide) (fun c6 => ?_) (fun c6 => ?_)
            · have h := ie_x h c6
              refine lv_aload_n hx hb dX9_visits_76 rfl (lv_at hl 0 rfl) ?_
              refine lv_iload_n hx hb dX9_visits_77 rfl (lv_at hl 2 rfl) ?_
              obtain ⟨o9, ho9, h⟩ := bd_x h
              refine r_V X hH (ws1 := (wX9 g a i o9)) (As := [.int pb]) (rest := []) (st1 := []) (uX9_findDown (a := a) (i := i) ho9) kX9_findDown mX9_296 iX9_findDown vX9_findDown zX9 okX9_findDown ⟨Nat.le_of_ble_eq_true rfl, Nat.le_of_ble_eq_true rfl⟩ rfl rfl (q0 := 0) rfl rfl (pm_all _) (pm_all _) rfl hl.1 rfl (Nat.le_of_ble_eq_true rfl) ⟨Nat.le_refl 0, Nat.le_refl 0⟩ rfl dX9_visits_78 (fun H locs hH => ?_)
              refine lv_aload_n hx hb dX9_visits_81 rfl (lv_at hl 0 rfl) ?_
              refine lv_iload_n hx hb dX9_visits_82 rfl (lv_at hl 1 rfl) ?_
              refine lv_iload_n hx hb dX9_visits_83 rfl (lv_at hl 2 rfl) ?_
              refine lv_iload_n hx hb dX9_visits_84 rfl (lv_at hl 3 rfl) ?_
              obtain ⟨o10, ho10, h⟩ := bd_x h
              refine r_V X hH (ws1 := (wX9 g a i o10.2)) (As := [.int pa, .int pb, .int pc_]) (rest := []) (st1 := [.long o10.1]) (uX9_share (a := a) (i := i) ho10) kX9_share mX9_299 iX9_share vX9_share zX9 okX9_share ⟨Nat.le_of_ble_eq_true rfl, Nat.le_of_ble_eq_true rfl⟩ rfl rfl (q0 := 0) rfl rfl (pm_all _) (pm_all _) rfl hl.1 rfl (Nat.le_of_ble_eq_true rfl) ⟨Nat.le_refl 0, Nat.le_refl 0⟩ rfl dX9_visits_85 (fun H locs hH => ?_)
              refine lv_aload_n hx hb dX9_visits_88 rfl (lv_at hl 0 rfl) ?_
              refine lv_iload_n hx hb dX9_visits_89 rfl (lv_at hl 3 rfl) ?_
              obtain ⟨o11, ho11, h⟩ := bd_x h
              refine r_V X hH (ws1 := (wX9 g a i o10.2)) (As := [.int pc_]) (rest := [.long o10.1]) (st1 := [.int o11, .long o10.1]) (uX9_weightsAt (a := a) (i := i) ho11) kX9_weightsAt mX9_239 iX9_weightsAt vX9_weightsAt zX9 okX9_weightsAt ⟨Nat.le_of_ble_eq_true rfl, Nat.le_of_ble_eq_true rfl⟩ rfl rfl (q0 := 0) rfl rfl (pm_all _) (pm_all _) rfl hl.1 rfl (Nat.le_of_ble_eq_true rfl) ⟨Nat.le_refl 0, Nat.le_refl 0⟩ rfl dX9_visits_90 (fun H locs hH => ?_)
              refine lv_i2l hx hb dX9_visits_93 rfl ?_
              refine lv_lmul hx hb dX9_visits_94 ?_
              refine lv_aload_n hx hb dX9_visits_95 rfl (lv_at hl 0 rfl) ?_
              refine f_get X hH 0 rfl rfl 27 (by decide) inX9 fX9_252 rfl dX9_visits_96 ?_
              refine lv_iload hx hb dX9_visits_99 (lv_at hl 4 rfl) ?_
              obtain ⟨o12, ho12, h⟩ := bd_x h
              refine r_S X hH (ws1 := (wX9 g a i o10.2)) (As := [.long (o10.1 * (o11.toInt64)), .long (m_down o10.2), .int pd]) (rest := []) (st1 := [.long o12]) (uX9_partOf  ho12) kX9_partOf mX9_279 sX9_partOf zX9 okX9_partOf ⟨Nat.le_of_ble_eq_true rfl, Nat.le_of_ble_eq_true rfl⟩ rfl rfl (pm_none _) (pm_none _) rfl hl.1 rfl (Nat.le_of_ble_eq_true rfl) ⟨Nat.le_refl 0, Nat.le_refl 0⟩ rfl dX9_visits_101 (fun H locs hH => ?_)
              have h := Option.some.inj h
              subst h
              exact e_l X hH dX9_visits_104
            · have h := it_x h c6
              refine lv_aload_n hx hb dX9_visits_69 rfl (lv_at hl 0 rfl) ?_
              refine lv_bipush (v := (-3 : Int32)) hx hb dX9_visits_70 (by decide) ?_
              obtain ⟨o13, ho13, h⟩ := bd_x h
              refine r_V X hH (ws1 := (wX9 g a i o13.2)) (As := [.int (-3 : Int32)]) (rest := []) (st1 := [.long o13.1]) (uX9_far (a := a) (i := i) ho13) kX9_far mX9_272 iX9_far vX9_far zX9 okX9_far ⟨Nat.le_of_ble_eq_true rfl, Nat.le_of_ble_eq_true rfl⟩ rfl rfl (q0 := 0) rfl rfl (pm_all _) (pm_all _) rfl hl.1 rfl (Nat.le_of_ble_eq_true rfl) ⟨Nat.le_refl 0, Nat.le_refl 0⟩ rfl dX9_visits_72 (fun H locs hH => ?_)
              have h := Option.some.inj h
              subst h
              exact e_l X hH dX9_visits_75
          · have h := it_x h c5
            refine lv_aload_n hx hb dX9_visits_46 rfl (lv_at hl 0 rfl) ?_
            refine lv_bipush (v := (-2 : Int32)) hx hb dX9_visits_47 (by decide) ?_
            obtain ⟨o14, ho14, h⟩ := bd_x h
            refine r_V X hH (ws1 := (wX9 g a i o14.2)) (As := [.int (-2 : Int32)]) (rest := []) (st1 := [.long o14.1]) (uX9_far (a := a) (i := i) ho14) kX9_far mX9_272 iX9_far vX9_far zX9 okX9_far ⟨Nat.le_of_ble_eq_true rfl, Nat.le_of_ble_eq_true rfl⟩ rfl rfl (q0 := 0) rfl rfl (pm_all _) (pm_all _) rfl hl.1 rfl (Nat.le_of_ble_eq_true rfl) ⟨Nat.le_refl 0, Nat.le_refl 0⟩ rfl dX9_visits_49 (fun H locs hH => ?_)
            have h := Option.some.inj h
            subst h
            exact e_l X hH dX9_visits_52
        · have h := it_x h c4
          exact pX9_visits_29 X  xs H locs ls h hH (lv_sub hl [0, 1, 2, 3, 4] rfl)

def fX9_findResistance (xs : SX9) (pa : Int32) (pb : Int32) : Option (Int32 × SX9) :=
  ltt ((m_up_s xs (0 : Int64))) fun xs1 =>
  ltt ((m_down_s xs1 (1 : Int64))) fun xs2 =>
  (if pa = pb then
  some ((1 : Int32), xs2)
  else
  (fX9_reach xs2 pa).bind fun o1 =>
  (fX9_has o1 pb).bind fun o2 =>
  (if o2 = (0 : Int32) then
  some ((0 : Int32), xs2)
  else
  (fX9_findDown xs2 pb).bind fun o3 =>
  (fX9_share o3 pa pb pa).bind fun o4 =>
  ltt ((m_up_s o4.2 o4.1)) fun xs3 =>
  some ((1 : Int32), xs3)))
set_option maxHeartbeats 4000000 in
set_option maxRecDepth 100000 in
theorem uX9_findResistance {l : Launch} {g : GG} {a : Nat → Nat} {i : Nat} {xs : SX9} {pa : Int32} {pb : Int32} {o : (Int32 × SX9)} (h : fX9_findResistance xs pa pb = some o) : mC l g yX9_findResistance cX9_findResistance 3 (some .boolean) (rM 5 114) [.ref (a i), .int pa, .int pb] (wX9 g a i xs) (wX9 g a i o.2) (some (.int o.1)) := by
  refine mC.ofW (by decide) (fun p e s m below meth c X hH ls _ hl => ?_) (Nat.le_of_ble_eq_true rfl)
  have hx := X.1
  have hb := X.2.1
  have hl : lv_has ls 3 [(0, .ref (a i)), (1, .int pa), (2, .int pb)] := hl
  unfold fX9_findResistance at h
  suffices HH : ∀ (H : Heap) (locs : List Loc), mH g s (wX9 g a i xs) (wX9 g a i xs) H locs → W p l e (rM 5 114) s m _ below meth c H locs 0 0 (mZ g below _ s (wX9 g a i xs) (wX9 g a i o.2) (some (.int o.1))) (F0 m 0 ls []) from HH _ _ hH
  clear hH
  intro H locs hH
  refine lv_aload_n hx hb dX9_findResistance_0 rfl (lv_at hl 0 rfl) ?_
  refine lv_lconst (v := (0 : Int64)) hx hb dX9_findResistance_1 (by decide) ?_
  obtain ⟨xs1, exs1, h⟩ := ltt_x h
  refine f_put X hH (ws1 := (wX9 g a i xs1)) 0 rfl rfl 26 (by decide) inX9 tyX9 tyX9_ok nmX9 fX9_248 rfl rfl rfl (Nat.le_of_ble_eq_true rfl) (by rw [exs1]; rfl) dX9_findResistance_2 (fun H locs hH => ?_)
  refine lv_aload_n hx hb dX9_findResistance_5 rfl (lv_at hl 0 rfl) ?_
  refine lv_lconst (v := (1 : Int64)) hx hb dX9_findResistance_6 (by decide) ?_
  obtain ⟨xs2, exs2, h⟩ := ltt_x h
  refine f_put X hH (ws1 := (wX9 g a i xs2)) 0 rfl rfl 27 (by decide) inX9 tyX9 tyX9_ok nmX9 fX9_252 rfl rfl rfl (Nat.le_of_ble_eq_true rfl) (by rw [exs2]; rfl) dX9_findResistance_7 (fun H locs hH => ?_)
  refine lv_iload_n hx hb dX9_findResistance_10 rfl (lv_at hl 1 rfl) ?_
  refine lv_iload_n hx hb dX9_findResistance_11 rfl (lv_at hl 2 rfl) ?_
  refine lv_icmp_ne (tgt := 17) hx hb dX9_findResistance_12 (by decide) (fun c1 => ?_) (fun c1 => ?_)
  · have h := ie_x h c1
    refine lv_aload_n hx hb dX9_findResistance_17 rfl (lv_at hl 0 rfl) ?_
    refine lv_iload_n hx hb dX9_findResistance_18 rfl (lv_at hl 1 rfl) ?_
    obtain ⟨o1, ho1, h⟩ := bd_x h
    refine r_V X hH (ws1 := (wX9 g a i xs2)) (As := [.int pa]) (rest := []) (st1 := [.int o1]) (uX9_reach (a := a) (i := i) ho1) kX9_reach mX9_233 iX9_reach vX9_reach zX9 okX9_reach ⟨Nat.le_of_ble_eq_true rfl, Nat.le_of_ble_eq_true rfl⟩ rfl rfl (q0 := 0) rfl rfl (pm_all _) (pm_all _) rfl hl.1 rfl (Nat.le_of_ble_eq_true rfl) ⟨Nat.le_refl 0, Nat.le_refl 0⟩ rfl dX9_findResistance_19 (fun H locs hH => ?_)
    refine lv_iload_n hx hb dX9_findResistance_22 rfl (lv_at hl 2 rfl) ?_
    obtain ⟨o2, ho2, h⟩ := bd_x h
    refine r_S X hH (ws1 := (wX9 g a i xs2)) (As := [.int o1, .int pb]) (rest := []) (st1 := [.int o2]) (uX9_has  ho2) kX9_has mX9_226 sX9_has zX9 okX9_has ⟨Nat.le_of_ble_eq_true rfl, Nat.le_of_ble_eq_true rfl⟩ rfl rfl (pm_none _) (pm_none _) rfl hl.1 rfl (Nat.le_of_ble_eq_true rfl) ⟨Nat.le_refl 0, Nat.le_refl 0⟩ rfl dX9_findResistance_23 (fun H locs hH => ?_)
    refine lv_if_ne (tgt := 31) hx hb dX9_findResistance_26 (by decide) (fun c2 => ?_) (fun c2 => ?_)
    · have h := ie_x h c2
      refine lv_aload_n hx hb dX9_findResistance_31 rfl (lv_at hl 0 rfl) ?_
      refine lv_iload_n hx hb dX9_findResistance_32 rfl (lv_at hl 2 rfl) ?_
      obtain ⟨o3, ho3, h⟩ := bd_x h
      refine r_V X hH (ws1 := (wX9 g a i o3)) (As := [.int pb]) (rest := []) (st1 := []) (uX9_findDown (a := a) (i := i) ho3) kX9_findDown mX9_296 iX9_findDown vX9_findDown zX9 okX9_findDown ⟨Nat.le_of_ble_eq_true rfl, Nat.le_of_ble_eq_true rfl⟩ rfl rfl (q0 := 0) rfl rfl (pm_all _) (pm_all _) rfl hl.1 rfl (Nat.le_of_ble_eq_true rfl) ⟨Nat.le_refl 0, Nat.le_refl 0⟩ rfl dX9_findResistance_33 (fun H locs hH => ?_)
      refine lv_aload_n hx hb dX9_findResistance_36 rfl (lv_at hl 0 rfl) ?_
      refine lv_aload_n hx hb dX9_findResistance_37 rfl (lv_at hl 0 rfl) ?_
      refine lv_iload_n hx hb dX9_findResistance_38 rfl (lv_at hl 1 rfl) ?_
      refine lv_iload_n hx hb dX9_findResistance_39 rfl (lv_at hl 2 rfl) ?_
      refine lv_iload_n hx hb dX9_findResistance_40 rfl (lv_at hl 1 rfl) ?_
      obtain ⟨o4, ho4, h⟩ := bd_x h
      refine r_V X hH (ws1 := (wX9 g a i o4.2)) (As := [.int pa, .int pb, .int pa]) (rest := [.ref (a i)]) (st1 := [.long o4.1, .ref (a i)]) (uX9_share (a := a) (i := i) ho4) kX9_share mX9_299 iX9_share vX9_share zX9 okX9_share ⟨Nat.le_of_ble_eq_true rfl, Nat.le_of_ble_eq_true rfl⟩ rfl rfl (q0 := 0) rfl rfl (pm_all _) (pm_all _) rfl hl.1 rfl (Nat.le_of_ble_eq_true rfl) ⟨Nat.le_refl 0, Nat.le_refl 0⟩ rfl dX9_findResistance_41 (fun H locs hH => ?_)
      obtain ⟨xs3, exs3, h⟩ := ltt_x h
      refine f_put X hH (ws1 := (wX9 g a i xs3)) 0 rfl rfl 26 (by decide) inX9 tyX9 tyX9_ok nmX9 fX9_248 rfl rfl rfl (Nat.le_of_ble_eq_true rfl) (by rw [exs3]; rfl) dX9_findResistance_44 (fun H locs hH => ?_)
      refine lv_iconst (v := (1 : Int32)) hx hb dX9_findResistance_47 (by decide) ?_
      have h := Option.some.inj h
      subst h
      exact e_z X hH (Or.inr rfl) dX9_findResistance_48
    · have h := it_x h c2
      refine lv_iconst (v := (0 : Int32)) hx hb dX9_findResistance_29 (by decide) ?_
      have h := Option.some.inj h
      subst h
      exact e_z X hH (Or.inl rfl) dX9_findResistance_30
  · have h := it_x h c1
    refine lv_iconst (v := (1 : Int32)) hx hb dX9_findResistance_15 (by decide) ?_
    have h := Option.some.inj h
    subst h
    exact e_z X hH (Or.inr rfl) dX9_findResistance_16

def fX9_resistance (xs : SX9) (pa : Int32) (pb : Int32) (pc_ : Int32) : Option (Int64 × SX9) :=
  (fX9_notTwo xs pa pb pc_).bind fun o1 =>
  (if o1 = (0 : Int32) then
  (fX9_allThere xs).bind fun o2 =>
  (fX9_findResistance o2 pa pb).bind fun o3 =>
  (if o3.1 = (0 : Int32) then
  (fX9_far o3.2 (-3 : Int32)).bind fun o4 =>
  some (o4.1, o4.2)
  else
  (fX9_partOf (m_up o3.2) (m_down o3.2) pc_).bind fun o5 =>
  some (o5, o3.2))
  else
  (fX9_far xs o1).bind fun o6 =>
  some (o6.1, o6.2))
set_option maxHeartbeats 4000000 in
set_option maxRecDepth 100000 in
theorem uX9_resistance {l : Launch} {g : GG} {a : Nat → Nat} {i : Nat} {xs : SX9} {pa : Int32} {pb : Int32} {pc_ : Int32} {o : (Int64 × SX9)} (h : fX9_resistance xs pa pb pc_ = some o) : mC l g yX9_resistance cX9_resistance 5 (some .long) (rM 6 136) [.ref (a i), .int pa, .int pb, .int pc_] (wX9 g a i xs) (wX9 g a i o.2) (some (.long o.1)) := by
  refine mC.ofW (by decide) (fun p e s m below meth c X hH ls _ hl => ?_) (Nat.le_of_ble_eq_true rfl)
  have hx := X.1
  have hb := X.2.1
  have hl : lv_has ls 5 [(0, .ref (a i)), (1, .int pa), (2, .int pb), (3, .int pc_)] := hl
  unfold fX9_resistance at h
  suffices HH : ∀ (H : Heap) (locs : List Loc), mH g s (wX9 g a i xs) (wX9 g a i xs) H locs → W p l e (rM 6 136) s m _ below meth c H locs 0 0 (mZ g below _ s (wX9 g a i xs) (wX9 g a i o.2) (some (.long o.1))) (F0 m 0 ls []) from HH _ _ hH
  clear hH
  intro H locs hH
  refine lv_aload_n hx hb dX9_resistance_0 rfl (lv_at hl 0 rfl) ?_
  refine lv_iload_n hx hb dX9_resistance_1 rfl (lv_at hl 1 rfl) ?_
  refine lv_iload_n hx hb dX9_resistance_2 rfl (lv_at hl 2 rfl) ?_
  refine lv_iload_n hx hb dX9_resistance_3 rfl (lv_at hl 3 rfl) ?_
  obtain ⟨o1, ho1, h⟩ := bd_x h
  refine r_V X hH (ws1 := (wX9 g a i xs)) (As := [.int pa, .int pb, .int pc_]) (rest := []) (st1 := [.int o1]) (uX9_notTwo (a := a) (i := i) ho1) kX9_notTwo mX9_269 iX9_notTwo vX9_notTwo zX9 okX9_notTwo ⟨Nat.le_of_ble_eq_true rfl, Nat.le_of_ble_eq_true rfl⟩ rfl rfl (q0 := 0) rfl rfl (pm_all _) (pm_all _) rfl hl.1 rfl (Nat.le_of_ble_eq_true rfl) ⟨Nat.le_refl 0, Nat.le_refl 0⟩ rfl dX9_resistance_4 (fun H locs hH => ?_)
  refine s_i X (lv' := [(4, .int o1), (0, .ref (a i)), (1, .int pa), (2, .int pb), (3, .int pc_)]) hl rfl dX9_resistance_7 (by decide) rfl (fun ls hl => ?_)
  refine lv_iload hx hb dX9_resistance_9 (lv_at hl 0 rfl) ?_
  refine lv_if_eq (tgt := 21) hx hb dX9_resistance_11 (by decide) (fun c1 => ?_) (fun c1 => ?_)
  · have h := it_x h c1
    refine lv_aload_n hx hb dX9_resistance_21 rfl (lv_at hl 1 rfl) ?_
    obtain ⟨o2, ho2, h⟩ := bd_x h
    refine r_V X hH (ws1 := (wX9 g a i o2)) (As := []) (rest := []) (st1 := []) (uX9_allThere (a := a) (i := i) ho2) kX9_allThere mX9_230 iX9_allThere vX9_allThere zX9 okX9_allThere ⟨Nat.le_of_ble_eq_true rfl, Nat.le_of_ble_eq_true rfl⟩ rfl rfl (q0 := 0) rfl rfl (pm_all _) (pm_all _) rfl hl.1 rfl (Nat.le_of_ble_eq_true rfl) ⟨Nat.le_refl 0, Nat.le_refl 0⟩ rfl dX9_resistance_22 (fun H locs hH => ?_)
    refine lv_aload_n hx hb dX9_resistance_25 rfl (lv_at hl 1 rfl) ?_
    refine lv_iload_n hx hb dX9_resistance_26 rfl (lv_at hl 2 rfl) ?_
    refine lv_iload_n hx hb dX9_resistance_27 rfl (lv_at hl 3 rfl) ?_
    obtain ⟨o3, ho3, h⟩ := bd_x h
    refine r_V X hH (ws1 := (wX9 g a i o3.2)) (As := [.int pa, .int pb]) (rest := []) (st1 := [.int o3.1]) (uX9_findResistance (a := a) (i := i) ho3) kX9_findResistance mX9_303 iX9_findResistance vX9_findResistance zX9 okX9_findResistance ⟨Nat.le_of_ble_eq_true rfl, Nat.le_of_ble_eq_true rfl⟩ rfl rfl (q0 := 0) rfl rfl (pm_all _) (pm_all _) rfl hl.1 rfl (Nat.le_of_ble_eq_true rfl) ⟨Nat.le_refl 0, Nat.le_refl 0⟩ rfl dX9_resistance_28 (fun H locs hH => ?_)
    refine lv_if_eq (tgt := 49) hx hb dX9_resistance_31 (by decide) (fun c2 => ?_) (fun c2 => ?_)
    · have h := it_x h c2
      refine lv_aload_n hx hb dX9_resistance_49 rfl (lv_at hl 1 rfl) ?_
      refine lv_bipush (v := (-3 : Int32)) hx hb dX9_resistance_50 (by decide) ?_
      obtain ⟨o4, ho4, h⟩ := bd_x h
      refine r_V X hH (ws1 := (wX9 g a i o4.2)) (As := [.int (-3 : Int32)]) (rest := []) (st1 := [.long o4.1]) (uX9_far (a := a) (i := i) ho4) kX9_far mX9_272 iX9_far vX9_far zX9 okX9_far ⟨Nat.le_of_ble_eq_true rfl, Nat.le_of_ble_eq_true rfl⟩ rfl rfl (q0 := 0) rfl rfl (pm_all _) (pm_all _) rfl hl.1 rfl (Nat.le_of_ble_eq_true rfl) ⟨Nat.le_refl 0, Nat.le_refl 0⟩ rfl dX9_resistance_52 (fun H locs hH => ?_)
      have h := Option.some.inj h
      subst h
      exact e_l X hH dX9_resistance_55
    · have h := ie_x h c2
      refine lv_aload_n hx hb dX9_resistance_34 rfl (lv_at hl 1 rfl) ?_
      refine f_get X hH 0 rfl rfl 26 (by decide) inX9 fX9_248 rfl dX9_resistance_35 ?_
      refine lv_aload_n hx hb dX9_resistance_38 rfl (lv_at hl 1 rfl) ?_
      refine f_get X hH 0 rfl rfl 27 (by decide) inX9 fX9_252 rfl dX9_resistance_39 ?_
      refine lv_iload_n hx hb dX9_resistance_42 rfl (lv_at hl 4 rfl) ?_
      obtain ⟨o5, ho5, h⟩ := bd_x h
      refine r_S X hH (ws1 := (wX9 g a i o3.2)) (As := [.long (m_up o3.2), .long (m_down o3.2), .int pc_]) (rest := []) (st1 := [.long o5]) (uX9_partOf  ho5) kX9_partOf mX9_279 sX9_partOf zX9 okX9_partOf ⟨Nat.le_of_ble_eq_true rfl, Nat.le_of_ble_eq_true rfl⟩ rfl rfl (pm_none _) (pm_none _) rfl hl.1 rfl (Nat.le_of_ble_eq_true rfl) ⟨Nat.le_refl 0, Nat.le_refl 0⟩ rfl dX9_resistance_43 (fun H locs hH => ?_)
      refine lv_goto (tgt := 55) hx hb dX9_resistance_46 (by decide) ?_
      have h := Option.some.inj h
      subst h
      exact e_l X hH dX9_resistance_55
  · have h := ie_x h c1
    refine lv_aload_n hx hb dX9_resistance_14 rfl (lv_at hl 1 rfl) ?_
    refine lv_iload hx hb dX9_resistance_15 (lv_at hl 0 rfl) ?_
    obtain ⟨o6, ho6, h⟩ := bd_x h
    refine r_V X hH (ws1 := (wX9 g a i o6.2)) (As := [.int o1]) (rest := []) (st1 := [.long o6.1]) (uX9_far (a := a) (i := i) ho6) kX9_far mX9_272 iX9_far vX9_far zX9 okX9_far ⟨Nat.le_of_ble_eq_true rfl, Nat.le_of_ble_eq_true rfl⟩ rfl rfl (q0 := 0) rfl rfl (pm_all _) (pm_all _) rfl hl.1 rfl (Nat.le_of_ble_eq_true rfl) ⟨Nat.le_refl 0, Nat.le_refl 0⟩ rfl dX9_resistance_17 (fun H locs hH => ?_)
    have h := Option.some.inj h
    subst h
    exact e_l X hH dX9_resistance_20

def qX9_ahead_16 (pa : Int32) (pb : Int32) (pc_ : Int32) (pd : Int32)  (xs : SX9) : Option (Int64 × SX9) :=
  (fX9_far xs (-1 : Int32)).bind fun o2 =>
  some (o2.1, o2.2)
def qX9_ahead_94 (pa : Int32) (pb : Int32) (pc_ : Int32) (pd : Int32)  (xs : SX9) : Option (Int64 × SX9) :=
  (fX9_far xs (-3 : Int32)).bind fun o8 =>
  some (o8.1, o8.2)
def qX9_ahead_139 (pa : Int32) (pb : Int32) (pc_ : Int32) (pd : Int32)  : Nat → SX9 → Int32 → Option (Int64 × SX9)
  | 0, _, _ => none
  | fu + 1, xs, l6 =>
  (if (m_innerMany xs) ≤ l6 then
  (fX9_columnOf xs pa).bind fun o11 =>
  (fX9_det xs o11).bind fun o12 =>
  (fX9_det o12.2 (-1 : Int32)).bind fun o13 =>
  (fX9_partOf o12.1 o13.1 pd).bind fun o14 =>
  some (o14, o13.2)
  else
  ga 6 l6 fun j1 =>
  (fX9_between xs ((m_inner xs) j1) pc_).bind fun o15 =>
  ltt ((o15.toInt64)) fun v1 =>
  ga 6 l6 fun j2 =>
  ltt ((m_right_s xs (vp_updL (m_right xs) j2 v1))) fun xs1 =>
  ltt (l6 + (1 : Int32)) fun v2 =>
  qX9_ahead_139 pa pb pc_ pd  fu xs1 v2)
def qX9_ahead_120 (pa : Int32) (pb : Int32) (pc_ : Int32) (pd : Int32)  (xs : SX9) : Option (Int64 × SX9) :=
  some ((1 : Int64), xs)
def fX9_ahead (xs : SX9) (pa : Int32) (pb : Int32) (pc_ : Int32) (pd : Int32) : Option (Int64 × SX9) :=
  (fX9_isPoint xs pa).bind fun o1 =>
  (if o1 = (0 : Int32) then
  qX9_ahead_16 pa pb pc_ pd xs
  else
  (fX9_isPoint xs pc_).bind fun o3 =>
  (if o3 = (0 : Int32) then
  qX9_ahead_16 pa pb pc_ pd xs
  else
  (if (0 : Int32) ≤ pb then
  (if pb < ((1 : Int32) <<< ((m_points xs) &&& 31)) then
  (fX9_isIn (pd.toInt64) (0 : Int64) (1 : Int64)).bind fun o4 =>
  (if o4 = (0 : Int32) then
  (fX9_far xs (-2 : Int32)).bind fun o16 =>
  some (o16.1, o16.2)
  else
  (fX9_allThere xs).bind fun o5 =>
  (fX9_reach o5 pa).bind fun o6 =>
  (fX9_has pb pc_).bind fun o7 =>
  (if o7 = (0 : Int32) then
  qX9_ahead_94 pa pb pc_ pd o5
  else
  (if (o6 &&& pb) = (0 : Int32) then
  qX9_ahead_94 pa pb pc_ pd o5
  else
  (fX9_has pb pa).bind fun o9 =>
  (if o9 = (0 : Int32) then
  (fX9_within o5 (o6 &&& (pb ^^^ (-1 : Int32)))).bind fun o10 =>
  qX9_ahead_139 pa pb pc_ pd FU o10 (0 : Int32)
  else
  (if pd = (1 : Int32) then
  qX9_ahead_120 pa pb pc_ pd o5
  else
  (if pa = pc_ then
  qX9_ahead_120 pa pb pc_ pd o5
  else
  some ((0 : Int64), o5)))))))
  else
  (fX9_far xs (-6 : Int32)).bind fun o17 =>
  some (o17.1, o17.2))
  else
  (fX9_far xs (-4 : Int32)).bind fun o18 =>
  some (o18.1, o18.2))))
set_option maxHeartbeats 4000000 in
set_option maxRecDepth 100000 in
theorem pX9_ahead_16 {p : Program} {l : Launch} {e : Env} {s : State} {m : MethodId} {args : Array Value} {below : List Frame} {meth : Method} {c : Code} {g : GG} {w0 : va_W} {a : Nat → Nat} {i : Nat} {pa : Int32} {pb : Int32} {pc_ : Int32} {pd : Int32} {o : (Int64 × SX9)} (X : mX g yX9_ahead cX9_ahead 8 (some .long) p s m args meth c w0) :
  ∀ (xs : SX9) (H : Heap) (locs : List Loc) (ls : Array Slot), qX9_ahead_16 pa pb pc_ pd xs = some o → mH g s w0 (wX9 g a i xs) H locs → lv_has ls 8 [(0, .ref (a i)), (1, .int pa), (2, .int pb), (3, .int pc_), (4, .int pd)] → W p l e (rM 4 90) s m args below meth c H locs 0 0 (mZ g below args s w0 (wX9 g a i o.2) (some (.long o.1))) (F0 m 16 ls []) := by
  have hx := X.1
  have hb := X.2.1
  intro xs H locs ls h hH hl
  unfold qX9_ahead_16 at h
  refine lv_aload_n hx hb dX9_ahead_16 rfl (lv_at hl 0 rfl) ?_
  refine lv_iconst (v := (-1 : Int32)) hx hb dX9_ahead_17 (by decide) ?_
  obtain ⟨o2, ho2, h⟩ := bd_x h
  refine r_V X hH (ws1 := (wX9 g a i o2.2)) (As := [.int (-1 : Int32)]) (rest := []) (st1 := [.long o2.1]) (uX9_far (a := a) (i := i) ho2) kX9_far mX9_272 iX9_far vX9_far zX9 okX9_far ⟨Nat.le_of_ble_eq_true rfl, Nat.le_of_ble_eq_true rfl⟩ rfl rfl (q0 := 0) rfl rfl (pm_all _) (pm_all _) rfl hl.1 rfl (Nat.le_of_ble_eq_true rfl) ⟨Nat.le_refl 0, Nat.le_refl 0⟩ rfl dX9_ahead_18 (fun H locs hH => ?_)
  have h := Option.some.inj h
  subst h
  exact e_l X hH dX9_ahead_21
set_option maxHeartbeats 4000000 in
set_option maxRecDepth 100000 in
theorem pX9_ahead_94 {p : Program} {l : Launch} {e : Env} {s : State} {m : MethodId} {args : Array Value} {below : List Frame} {meth : Method} {c : Code} {g : GG} {w0 : va_W} {a : Nat → Nat} {i : Nat} {pa : Int32} {pb : Int32} {pc_ : Int32} {pd : Int32} {o : (Int64 × SX9)} (X : mX g yX9_ahead cX9_ahead 8 (some .long) p s m args meth c w0) :
  ∀ (xs : SX9) (H : Heap) (locs : List Loc) (ls : Array Slot), qX9_ahead_94 pa pb pc_ pd xs = some o → mH g s w0 (wX9 g a i xs) H locs → lv_has ls 8 [(0, .ref (a i)), (1, .int pa), (2, .int pb), (3, .int pc_), (4, .int pd)] → W p l e (rM 4 90) s m args below meth c H locs 0 0 (mZ g below args s w0 (wX9 g a i o.2) (some (.long o.1))) (F0 m 94 ls []) := by
  have hx := X.1
  have hb := X.2.1
  intro xs H locs ls h hH hl
  unfold qX9_ahead_94 at h
  refine lv_aload_n hx hb dX9_ahead_94 rfl (lv_at hl 0 rfl) ?_
  refine lv_bipush (v := (-3 : Int32)) hx hb dX9_ahead_95 (by decide) ?_
  obtain ⟨o8, ho8, h⟩ := bd_x h
  refine r_V X hH (ws1 := (wX9 g a i o8.2)) (As := [.int (-3 : Int32)]) (rest := []) (st1 := [.long o8.1]) (uX9_far (a := a) (i := i) ho8) kX9_far mX9_272 iX9_far vX9_far zX9 okX9_far ⟨Nat.le_of_ble_eq_true rfl, Nat.le_of_ble_eq_true rfl⟩ rfl rfl (q0 := 0) rfl rfl (pm_all _) (pm_all _) rfl hl.1 rfl (Nat.le_of_ble_eq_true rfl) ⟨Nat.le_refl 0, Nat.le_refl 0⟩ rfl dX9_ahead_97 (fun H locs hH => ?_)
  have h := Option.some.inj h
  subst h
  exact e_l X hH dX9_ahead_100
set_option maxHeartbeats 4000000 in
set_option maxRecDepth 100000 in
theorem pX9_ahead_139 {p : Program} {l : Launch} {e : Env} {s : State} {m : MethodId} {args : Array Value} {below : List Frame} {meth : Method} {c : Code} {g : GG} {w0 : va_W} {a : Nat → Nat} {i : Nat} {pa : Int32} {pb : Int32} {pc_ : Int32} {pd : Int32} {o : (Int64 × SX9)} (X : mX g yX9_ahead cX9_ahead 8 (some .long) p s m args meth c w0) :
  ∀ (fu : Nat) (xs : SX9) (l6 : Int32) (H : Heap) (locs : List Loc) (ls : Array Slot), qX9_ahead_139 pa pb pc_ pd fu xs l6 = some o → mH g s w0 (wX9 g a i xs) H locs → lv_has ls 8 [(0, .ref (a i)), (1, .int pa), (2, .int pb), (3, .int pc_), (4, .int pd), (6, .int l6)] → W p l e (rM 4 90) s m args below meth c H locs 0 0 (mZ g below args s w0 (wX9 g a i o.2) (some (.long o.1))) (F0 m 139 ls []) := by
  have hx := X.1
  have hb := X.2.1
  intro fu
  induction fu with
  | zero =>
    intro xs l6 H locs ls h
    unfold qX9_ahead_139 at h
    cases h
  | succ fu ih =>
    intro xs l6 H locs ls h hH hl
    unfold qX9_ahead_139 at h
    refine lv_iload hx hb dX9_ahead_139 (lv_at hl 5 rfl) ?_
    refine lv_aload_n hx hb dX9_ahead_141 rfl (lv_at hl 0 rfl) ?_
    refine f_get X hH 0 rfl rfl 22 (by decide) inX9 fX9_236 rfl dX9_ahead_142 ?_
    refine lv_icmp_ge (tgt := 174) hx hb dX9_ahead_145 (by decide) (fun c9 => ?_) (fun c9 => ?_)
    · have h := it_x h c9
      refine lv_aload_n hx hb dX9_ahead_174 rfl (lv_at hl 0 rfl) ?_
      refine lv_aload_n hx hb dX9_ahead_175 rfl (lv_at hl 0 rfl) ?_
      refine lv_iload_n hx hb dX9_ahead_176 rfl (lv_at hl 1 rfl) ?_
      obtain ⟨o11, ho11, h⟩ := bd_x h
      refine r_V X hH (ws1 := (wX9 g a i xs)) (As := [.int pa]) (rest := [.ref (a i)]) (st1 := [.int o11, .ref (a i)]) (uX9_columnOf (a := a) (i := i) ho11) kX9_columnOf mX9_262 iX9_columnOf vX9_columnOf zX9 okX9_columnOf ⟨Nat.le_of_ble_eq_true rfl, Nat.le_of_ble_eq_true rfl⟩ rfl rfl (q0 := 0) rfl rfl (pm_all _) (pm_all _) rfl hl.1 rfl (Nat.le_of_ble_eq_true rfl) ⟨Nat.le_refl 0, Nat.le_refl 0⟩ rfl dX9_ahead_177 (fun H locs hH => ?_)
      obtain ⟨o12, ho12, h⟩ := bd_x h
      refine r_V X hH (ws1 := (wX9 g a i o12.2)) (As := [.int o11]) (rest := []) (st1 := [.long o12.1]) (uX9_det (a := a) (i := i) ho12) kX9_det mX9_258 iX9_det vX9_det zX9 okX9_det ⟨Nat.le_of_ble_eq_true rfl, Nat.le_of_ble_eq_true rfl⟩ rfl rfl (q0 := 0) rfl rfl (pm_all _) (pm_all _) rfl hl.1 rfl (Nat.le_of_ble_eq_true rfl) ⟨Nat.le_refl 0, Nat.le_refl 0⟩ rfl dX9_ahead_180 (fun H locs hH => ?_)
      refine s_l X (lv' := [(6, .long o12.1), (0, .ref (a i)), (1, .int pa), (2, .int pb), (3, .int pc_), (4, .int pd)]) hl rfl dX9_ahead_183 (by decide) rfl (fun ls hl => ?_)
      refine lv_lload hx hb dX9_ahead_185 (lv_at hl 0 rfl) ?_
      refine lv_aload_n hx hb dX9_ahead_187 rfl (lv_at hl 1 rfl) ?_
      refine lv_iconst (v := (-1 : Int32)) hx hb dX9_ahead_188 (by decide) ?_
      obtain ⟨o13, ho13, h⟩ := bd_x h
      refine r_V X hH (ws1 := (wX9 g a i o13.2)) (As := [.int (-1 : Int32)]) (rest := [.long o12.1]) (st1 := [.long o13.1, .long o12.1]) (uX9_det (a := a) (i := i) ho13) kX9_det mX9_258 iX9_det vX9_det zX9 okX9_det ⟨Nat.le_of_ble_eq_true rfl, Nat.le_of_ble_eq_true rfl⟩ rfl rfl (q0 := 0) rfl rfl (pm_all _) (pm_all _) rfl hl.1 rfl (Nat.le_of_ble_eq_true rfl) ⟨Nat.le_refl 0, Nat.le_refl 0⟩ rfl dX9_ahead_189 (fun H locs hH => ?_)
      refine lv_iload hx hb dX9_ahead_192 (lv_at hl 5 rfl) ?_
      obtain ⟨o14, ho14, h⟩ := bd_x h
      refine r_S X hH (ws1 := (wX9 g a i o13.2)) (As := [.long o12.1, .long o13.1, .int pd]) (rest := []) (st1 := [.long o14]) (uX9_partOf  ho14) kX9_partOf mX9_279 sX9_partOf zX9 okX9_partOf ⟨Nat.le_of_ble_eq_true rfl, Nat.le_of_ble_eq_true rfl⟩ rfl rfl (pm_none _) (pm_none _) rfl hl.1 rfl (Nat.le_of_ble_eq_true rfl) ⟨Nat.le_refl 0, Nat.le_refl 0⟩ rfl dX9_ahead_194 (fun H locs hH => ?_)
      have h := Option.some.inj h
      subst h
      exact e_l X hH dX9_ahead_197
    · have h := ie_x h c9
      refine lv_aload_n hx hb dX9_ahead_148 rfl (lv_at hl 0 rfl) ?_
      refine f_get X hH 0 rfl rfl 24 (by decide) inX9 fX9_64 rfl dX9_ahead_149 ?_
      refine lv_iload hx hb dX9_ahead_152 (lv_at hl 5 rfl) ?_
      refine lv_aload_n hx hb dX9_ahead_154 rfl (lv_at hl 0 rfl) ?_
      refine lv_aload_n hx hb dX9_ahead_155 rfl (lv_at hl 0 rfl) ?_
      refine f_get X hH 0 rfl rfl 21 (by decide) inX9 fX9_57 rfl dX9_ahead_156 ?_
      refine lv_iload hx hb dX9_ahead_159 (lv_at hl 5 rfl) ?_
      obtain ⟨j1, ej1, hinj1, h⟩ := ga_x h
      refine a_il X hH 15 rfl hinj1 ej1 dX9_ahead_161 ?_
      refine lv_iload_n hx hb dX9_ahead_162 rfl (lv_at hl 3 rfl) ?_
      obtain ⟨o15, ho15, h⟩ := bd_x h
      refine r_V X hH (ws1 := (wX9 g a i xs)) (As := [.int ((m_inner xs) j1), .int pc_]) (rest := [.int l6, .ref (a (i + 17))]) (st1 := [.int o15, .int l6, .ref (a (i + 17))]) (uX9_between (a := a) (i := i) ho15) kX9_between mX9_242 iX9_between vX9_between zX9 okX9_between ⟨Nat.le_of_ble_eq_true rfl, Nat.le_of_ble_eq_true rfl⟩ rfl rfl (q0 := 0) rfl rfl (pm_all _) (pm_all _) rfl hl.1 rfl (Nat.le_of_ble_eq_true rfl) ⟨Nat.le_refl 0, Nat.le_refl 0⟩ rfl dX9_ahead_163 (fun H locs hH => ?_)
      refine lv_i2l hx hb dX9_ahead_166 rfl ?_
      obtain ⟨v1, ev1, h⟩ := ltt_x h
      refine lv_topl (fun y0 e0 => ?_)
      rw [← ev1] at e0
      subst y0
      obtain ⟨j2, ej2, hinj2, h⟩ := ga_x h
      obtain ⟨xs1, exs1, h⟩ := ltt_x h
      refine a_ls X hH (ws1 := (wX9 g a i xs1)) 17 rfl hinj2 ej2 (by rw [exs1]; rfl) dX9_ahead_167 (fun H locs hH => ?_)
      obtain ⟨v2, ev2, h⟩ := ltt_x h
      refine s_inc X (k := 5) (lv' := [(6, .int v2), (0, .ref (a i)), (1, .int pa), (2, .int pb), (3, .int pc_), (4, .int pd)]) hl rfl (by rw [ev2]; rfl) dX9_ahead_168 (by decide) rfl (fun ls hl => ?_)
      refine lv_goto (tgt := 139) hx hb dX9_ahead_171 (by decide) ?_
      exact ih xs1 v2 H locs ls h hH (lv_sub hl [1, 2, 3, 4, 5, 0] rfl)
set_option maxHeartbeats 4000000 in
set_option maxRecDepth 100000 in
theorem pX9_ahead_120 {p : Program} {l : Launch} {e : Env} {s : State} {m : MethodId} {args : Array Value} {below : List Frame} {meth : Method} {c : Code} {g : GG} {w0 : va_W} {a : Nat → Nat} {i : Nat} {pa : Int32} {pb : Int32} {pc_ : Int32} {pd : Int32} {o : (Int64 × SX9)} (X : mX g yX9_ahead cX9_ahead 8 (some .long) p s m args meth c w0) :
  ∀ (xs : SX9) (H : Heap) (locs : List Loc) (ls : Array Slot), qX9_ahead_120 pa pb pc_ pd xs = some o → mH g s w0 (wX9 g a i xs) H locs → lv_has ls 8 [(0, .ref (a i)), (1, .int pa), (2, .int pb), (3, .int pc_), (4, .int pd)] → W p l e (rM 4 90) s m args below meth c H locs 0 0 (mZ g below args s w0 (wX9 g a i o.2) (some (.long o.1))) (F0 m 120 ls []) := by
  have hx := X.1
  have hb := X.2.1
  intro xs H locs ls h hH hl
  unfold qX9_ahead_120 at h
  refine lv_lconst (v := (1 : Int64)) hx hb dX9_ahead_120 (by decide) ?_
  refine lv_goto (tgt := 125) hx hb dX9_ahead_121 (by decide) ?_
  have h := Option.some.inj h
  subst h
  exact e_l X hH dX9_ahead_125
set_option maxHeartbeats 4000000 in
set_option maxRecDepth 100000 in
theorem uX9_ahead {l : Launch} {g : GG} {a : Nat → Nat} {i : Nat} {xs : SX9} {pa : Int32} {pb : Int32} {pc_ : Int32} {pd : Int32} {o : (Int64 × SX9)} (h : fX9_ahead xs pa pb pc_ pd = some o) : mC l g yX9_ahead cX9_ahead 8 (some .long) (rM 4 90) [.ref (a i), .int pa, .int pb, .int pc_, .int pd] (wX9 g a i xs) (wX9 g a i o.2) (some (.long o.1)) := by
  refine mC.ofW (by decide) (fun p e s m below meth c X hH ls _ hl => ?_) (Nat.le_of_ble_eq_true rfl)
  have hx := X.1
  have hb := X.2.1
  have hl : lv_has ls 8 [(0, .ref (a i)), (1, .int pa), (2, .int pb), (3, .int pc_), (4, .int pd)] := hl
  unfold fX9_ahead at h
  suffices HH : ∀ (H : Heap) (locs : List Loc), mH g s (wX9 g a i xs) (wX9 g a i xs) H locs → W p l e (rM 4 90) s m _ below meth c H locs 0 0 (mZ g below _ s (wX9 g a i xs) (wX9 g a i o.2) (some (.long o.1))) (F0 m 0 ls []) from HH _ _ hH
  clear hH
  intro H locs hH
  refine lv_aload_n hx hb dX9_ahead_0 rfl (lv_at hl 0 rfl) ?_
  refine lv_iload_n hx hb dX9_ahead_1 rfl (lv_at hl 1 rfl) ?_
  obtain ⟨o1, ho1, h⟩ := bd_x h
  refine r_V X hH (ws1 := (wX9 g a i xs)) (As := [.int pa]) (rest := []) (st1 := [.int o1]) (uX9_isPoint (a := a) (i := i) ho1) kX9_isPoint mX9_141 iX9_isPoint vX9_isPoint zX9 okX9_isPoint ⟨Nat.le_of_ble_eq_true rfl, Nat.le_of_ble_eq_true rfl⟩ rfl rfl (q0 := 0) rfl rfl (pm_all _) (pm_all _) rfl hl.1 rfl (Nat.le_of_ble_eq_true rfl) ⟨Nat.le_refl 0, Nat.le_refl 0⟩ rfl dX9_ahead_2 (fun H locs hH => ?_)
  refine lv_if_eq (tgt := 16) hx hb dX9_ahead_5 (by decide) (fun c1 => ?_) (fun c1 => ?_)
  · have h := it_x h c1
    exact pX9_ahead_16 X  xs H locs ls h hH (lv_sub hl [0, 1, 2, 3, 4] rfl)
  · have h := ie_x h c1
    refine lv_aload_n hx hb dX9_ahead_8 rfl (lv_at hl 0 rfl) ?_
    refine lv_iload_n hx hb dX9_ahead_9 rfl (lv_at hl 3 rfl) ?_
    obtain ⟨o3, ho3, h⟩ := bd_x h
    refine r_V X hH (ws1 := (wX9 g a i xs)) (As := [.int pc_]) (rest := []) (st1 := [.int o3]) (uX9_isPoint (a := a) (i := i) ho3) kX9_isPoint mX9_141 iX9_isPoint vX9_isPoint zX9 okX9_isPoint ⟨Nat.le_of_ble_eq_true rfl, Nat.le_of_ble_eq_true rfl⟩ rfl rfl (q0 := 0) rfl rfl (pm_all _) (pm_all _) rfl hl.1 rfl (Nat.le_of_ble_eq_true rfl) ⟨Nat.le_refl 0, Nat.le_refl 0⟩ rfl dX9_ahead_10 (fun H locs hH => ?_)
    refine lv_if_ne (tgt := 22) hx hb dX9_ahead_13 (by decide) (fun c2 => ?_) (fun c2 => ?_)
    · have h := ie_x h c2
      refine lv_iload_n hx hb dX9_ahead_22 rfl (lv_at hl 2 rfl) ?_
      refine lv_if_ge (tgt := 33) hx hb dX9_ahead_23 (by decide) (fun c3 => ?_) (fun c3 => ?_)
      · have h := it_x h c3
        refine lv_iload_n hx hb dX9_ahead_33 rfl (lv_at hl 2 rfl) ?_
        refine lv_iconst (v := (1 : Int32)) hx hb dX9_ahead_34 (by decide) ?_
        refine lv_aload_n hx hb dX9_ahead_35 rfl (lv_at hl 0 rfl) ?_
        refine f_get X hH 0 rfl rfl 0 (by decide) inX9 fX9_7 rfl dX9_ahead_36 ?_
        refine lv_ishl hx hb dX9_ahead_39 ?_
        refine lv_icmp_lt (tgt := 50) hx hb dX9_ahead_40 (by decide) (fun c4 => ?_) (fun c4 => ?_)
        · have h := it_x h c4
          refine lv_iload hx hb dX9_ahead_50 (lv_at hl 4 rfl) ?_
          refine lv_i2l hx hb dX9_ahead_52 rfl ?_
          refine lv_lconst (v := (0 : Int64)) hx hb dX9_ahead_53 (by decide) ?_
          refine lv_lconst (v := (1 : Int64)) hx hb dX9_ahead_54 (by decide) ?_
          obtain ⟨o4, ho4, h⟩ := bd_x h
          refine r_S X hH (ws1 := (wX9 g a i xs)) (As := [.long (pd.toInt64), .long (0 : Int64), .long (1 : Int64)]) (rest := []) (st1 := [.int o4]) (uX9_isIn  ho4) kX9_isIn mX9_116 sX9_isIn zX9 okX9_isIn ⟨Nat.le_of_ble_eq_true rfl, Nat.le_of_ble_eq_true rfl⟩ rfl rfl (pm_none _) (pm_none _) rfl hl.1 rfl (Nat.le_of_ble_eq_true rfl) ⟨Nat.le_refl 0, Nat.le_refl 0⟩ rfl dX9_ahead_55 (fun H locs hH => ?_)
          refine lv_if_ne (tgt := 68) hx hb dX9_ahead_58 (by decide) (fun c5 => ?_) (fun c5 => ?_)
          · have h := ie_x h c5
            refine lv_aload_n hx hb dX9_ahead_68 rfl (lv_at hl 0 rfl) ?_
            obtain ⟨o5, ho5, h⟩ := bd_x h
            refine r_V X hH (ws1 := (wX9 g a i o5)) (As := []) (rest := []) (st1 := []) (uX9_allThere (a := a) (i := i) ho5) kX9_allThere mX9_230 iX9_allThere vX9_allThere zX9 okX9_allThere ⟨Nat.le_of_ble_eq_true rfl, Nat.le_of_ble_eq_true rfl⟩ rfl rfl (q0 := 0) rfl rfl (pm_all _) (pm_all _) rfl hl.1 rfl (Nat.le_of_ble_eq_true rfl) ⟨Nat.le_refl 0, Nat.le_refl 0⟩ rfl dX9_ahead_69 (fun H locs hH => ?_)
            refine lv_aload_n hx hb dX9_ahead_72 rfl (lv_at hl 0 rfl) ?_
            refine lv_iload_n hx hb dX9_ahead_73 rfl (lv_at hl 1 rfl) ?_
            obtain ⟨o6, ho6, h⟩ := bd_x h
            refine r_V X hH (ws1 := (wX9 g a i o5)) (As := [.int pa]) (rest := []) (st1 := [.int o6]) (uX9_reach (a := a) (i := i) ho6) kX9_reach mX9_233 iX9_reach vX9_reach zX9 okX9_reach ⟨Nat.le_of_ble_eq_true rfl, Nat.le_of_ble_eq_true rfl⟩ rfl rfl (q0 := 0) rfl rfl (pm_all _) (pm_all _) rfl hl.1 rfl (Nat.le_of_ble_eq_true rfl) ⟨Nat.le_refl 0, Nat.le_refl 0⟩ rfl dX9_ahead_74 (fun H locs hH => ?_)
            refine s_i X (lv' := [(5, .int o6), (0, .ref (a i)), (1, .int pa), (2, .int pb), (3, .int pc_), (4, .int pd)]) hl rfl dX9_ahead_77 (by decide) rfl (fun ls hl => ?_)
            refine lv_iload_n hx hb dX9_ahead_79 rfl (lv_at hl 3 rfl) ?_
            refine lv_iload_n hx hb dX9_ahead_80 rfl (lv_at hl 4 rfl) ?_
            obtain ⟨o7, ho7, h⟩ := bd_x h
            refine r_S X hH (ws1 := (wX9 g a i o5)) (As := [.int pb, .int pc_]) (rest := []) (st1 := [.int o7]) (uX9_has  ho7) kX9_has mX9_226 sX9_has zX9 okX9_has ⟨Nat.le_of_ble_eq_true rfl, Nat.le_of_ble_eq_true rfl⟩ rfl rfl (pm_none _) (pm_none _) rfl hl.1 rfl (Nat.le_of_ble_eq_true rfl) ⟨Nat.le_refl 0, Nat.le_refl 0⟩ rfl dX9_ahead_81 (fun H locs hH => ?_)
            refine lv_if_eq (tgt := 94) hx hb dX9_ahead_84 (by decide) (fun c6 => ?_) (fun c6 => ?_)
            · have h := it_x h c6
              exact pX9_ahead_94 X  o5 H locs ls h hH (lv_sub hl [1, 2, 3, 4, 5] rfl)
            · have h := ie_x h c6
              refine lv_iload hx hb dX9_ahead_87 (lv_at hl 0 rfl) ?_
              refine lv_iload_n hx hb dX9_ahead_89 rfl (lv_at hl 3 rfl) ?_
              refine lv_iand hx hb dX9_ahead_90 ?_
              refine lv_if_ne (tgt := 101) hx hb dX9_ahead_91 (by decide) (fun c7 => ?_) (fun c7 => ?_)
              · have h := ie_x h c7
                refine lv_iload_n hx hb dX9_ahead_101 rfl (lv_at hl 3 rfl) ?_
                refine lv_iload_n hx hb dX9_ahead_102 rfl (lv_at hl 2 rfl) ?_
                obtain ⟨o9, ho9, h⟩ := bd_x h
                refine r_S X hH (ws1 := (wX9 g a i o5)) (As := [.int pb, .int pa]) (rest := []) (st1 := [.int o9]) (uX9_has  ho9) kX9_has mX9_226 sX9_has zX9 okX9_has ⟨Nat.le_of_ble_eq_true rfl, Nat.le_of_ble_eq_true rfl⟩ rfl rfl (pm_none _) (pm_none _) rfl hl.1 rfl (Nat.le_of_ble_eq_true rfl) ⟨Nat.le_refl 0, Nat.le_refl 0⟩ rfl dX9_ahead_103 (fun H locs hH => ?_)
                refine lv_if_eq (tgt := 126) hx hb dX9_ahead_106 (by decide) (fun c8 => ?_) (fun c8 => ?_)
                · have h := it_x h c8
                  refine lv_aload_n hx hb dX9_ahead_126 rfl (lv_at hl 1 rfl) ?_
                  refine lv_iload hx hb dX9_ahead_127 (lv_at hl 0 rfl) ?_
                  refine lv_iload_n hx hb dX9_ahead_129 rfl (lv_at hl 3 rfl) ?_
                  refine lv_iconst (v := (-1 : Int32)) hx hb dX9_ahead_130 (by decide) ?_
                  refine lv_ixor hx hb dX9_ahead_131 ?_
                  refine lv_iand hx hb dX9_ahead_132 ?_
                  obtain ⟨o10, ho10, h⟩ := bd_x h
                  refine r_V X hH (ws1 := (wX9 g a i o10)) (As := [.int (o6 &&& (pb ^^^ (-1 : Int32)))]) (rest := []) (st1 := []) (uX9_within (a := a) (i := i) ho10) kX9_within mX9_255 iX9_within vX9_within zX9 okX9_within ⟨Nat.le_of_ble_eq_true rfl, Nat.le_of_ble_eq_true rfl⟩ rfl rfl (q0 := 0) rfl rfl (pm_all _) (pm_all _) rfl hl.1 rfl (Nat.le_of_ble_eq_true rfl) ⟨Nat.le_refl 0, Nat.le_refl 0⟩ rfl dX9_ahead_133 (fun H locs hH => ?_)
                  refine lv_iconst (v := (0 : Int32)) hx hb dX9_ahead_136 (by decide) ?_
                  refine s_i X (lv' := [(6, .int (0 : Int32)), (5, .int o6), (0, .ref (a i)), (1, .int pa), (2, .int pb), (3, .int pc_), (4, .int pd)]) hl rfl dX9_ahead_137 (by decide) rfl (fun ls hl => ?_)
                  exact pX9_ahead_139 X FU o10 (0 : Int32) H locs ls h hH (lv_sub hl [2, 3, 4, 5, 6, 0] rfl)
                · have h := ie_x h c8
                  refine lv_iload hx hb dX9_ahead_109 (lv_at hl 5 rfl) ?_
                  refine lv_iconst (v := (1 : Int32)) hx hb dX9_ahead_111 (by decide) ?_
                  refine lv_icmp_eq (tgt := 120) hx hb dX9_ahead_112 (by decide) (fun c10 => ?_) (fun c10 => ?_)
                  · have h := it_x h c10
                    exact pX9_ahead_120 X  o5 H locs ls h hH (lv_sub hl [1, 2, 3, 4, 5] rfl)
                  · have h := ie_x h c10
                    refine lv_iload_n hx hb dX9_ahead_115 rfl (lv_at hl 2 rfl) ?_
                    refine lv_iload_n hx hb dX9_ahead_116 rfl (lv_at hl 4 rfl) ?_
                    refine lv_icmp_ne (tgt := 124) hx hb dX9_ahead_117 (by decide) (fun c11 => ?_) (fun c11 => ?_)
                    · have h := ie_x h c11
                      refine lv_lconst (v := (0 : Int64)) hx hb dX9_ahead_124 (by decide) ?_
                      have h := Option.some.inj h
                      subst h
                      exact e_l X hH dX9_ahead_125
                    · have h := it_x h c11
                      exact pX9_ahead_120 X  o5 H locs ls h hH (lv_sub hl [1, 2, 3, 4, 5] rfl)
              · have h := it_x h c7
                exact pX9_ahead_94 X  o5 H locs ls h hH (lv_sub hl [1, 2, 3, 4, 5] rfl)
          · have h := it_x h c5
            refine lv_aload_n hx hb dX9_ahead_61 rfl (lv_at hl 0 rfl) ?_
            refine lv_bipush (v := (-2 : Int32)) hx hb dX9_ahead_62 (by decide) ?_
            obtain ⟨o16, ho16, h⟩ := bd_x h
            refine r_V X hH (ws1 := (wX9 g a i o16.2)) (As := [.int (-2 : Int32)]) (rest := []) (st1 := [.long o16.1]) (uX9_far (a := a) (i := i) ho16) kX9_far mX9_272 iX9_far vX9_far zX9 okX9_far ⟨Nat.le_of_ble_eq_true rfl, Nat.le_of_ble_eq_true rfl⟩ rfl rfl (q0 := 0) rfl rfl (pm_all _) (pm_all _) rfl hl.1 rfl (Nat.le_of_ble_eq_true rfl) ⟨Nat.le_refl 0, Nat.le_refl 0⟩ rfl dX9_ahead_64 (fun H locs hH => ?_)
            have h := Option.some.inj h
            subst h
            exact e_l X hH dX9_ahead_67
        · have h := ie_x h c4
          refine lv_aload_n hx hb dX9_ahead_43 rfl (lv_at hl 0 rfl) ?_
          refine lv_bipush (v := (-6 : Int32)) hx hb dX9_ahead_44 (by decide) ?_
          obtain ⟨o17, ho17, h⟩ := bd_x h
          refine r_V X hH (ws1 := (wX9 g a i o17.2)) (As := [.int (-6 : Int32)]) (rest := []) (st1 := [.long o17.1]) (uX9_far (a := a) (i := i) ho17) kX9_far mX9_272 iX9_far vX9_far zX9 okX9_far ⟨Nat.le_of_ble_eq_true rfl, Nat.le_of_ble_eq_true rfl⟩ rfl rfl (q0 := 0) rfl rfl (pm_all _) (pm_all _) rfl hl.1 rfl (Nat.le_of_ble_eq_true rfl) ⟨Nat.le_refl 0, Nat.le_refl 0⟩ rfl dX9_ahead_46 (fun H locs hH => ?_)
          have h := Option.some.inj h
          subst h
          exact e_l X hH dX9_ahead_49
      · have h := ie_x h c3
        refine lv_aload_n hx hb dX9_ahead_26 rfl (lv_at hl 0 rfl) ?_
        refine lv_bipush (v := (-4 : Int32)) hx hb dX9_ahead_27 (by decide) ?_
        obtain ⟨o18, ho18, h⟩ := bd_x h
        refine r_V X hH (ws1 := (wX9 g a i o18.2)) (As := [.int (-4 : Int32)]) (rest := []) (st1 := [.long o18.1]) (uX9_far (a := a) (i := i) ho18) kX9_far mX9_272 iX9_far vX9_far zX9 okX9_far ⟨Nat.le_of_ble_eq_true rfl, Nat.le_of_ble_eq_true rfl⟩ rfl rfl (q0 := 0) rfl rfl (pm_all _) (pm_all _) rfl hl.1 rfl (Nat.le_of_ble_eq_true rfl) ⟨Nat.le_refl 0, Nat.le_refl 0⟩ rfl dX9_ahead_29 (fun H locs hH => ?_)
        have h := Option.some.inj h
        subst h
        exact e_l X hH dX9_ahead_32
    · have h := it_x h c2
      exact pX9_ahead_16 X  xs H locs ls h hH (lv_sub hl [0, 1, 2, 3, 4] rfl)

def qX9_flow_29 (pa : Int32) (pb : Int32) (pc_ : Int32) (pd : Int32)  (xs : SX9) : Option (Int64 × SX9) :=
  (fX9_far xs (-1 : Int32)).bind fun o2 =>
  some (o2.1, o2.2)
def fX9_flow (xs : SX9) (pa : Int32) (pb : Int32) (pc_ : Int32) (pd : Int32) : Option (Int64 × SX9) :=
  (fX9_isWay xs pa).bind fun o1 =>
  (if o1 = (0 : Int32) then
  qX9_flow_29 pa pb pc_ pd xs
  else
  (fX9_isPoint xs pb).bind fun o3 =>
  (if o3 = (0 : Int32) then
  qX9_flow_29 pa pb pc_ pd xs
  else
  (fX9_isPoint xs pc_).bind fun o4 =>
  (if o4 = (0 : Int32) then
  qX9_flow_29 pa pb pc_ pd xs
  else
  (if pb = pc_ then
  qX9_flow_29 pa pb pc_ pd xs
  else
  (fX9_isIn (pd.toInt64) (0 : Int64) (1 : Int64)).bind fun o5 =>
  (if o5 = (0 : Int32) then
  (fX9_far xs (-2 : Int32)).bind fun o15 =>
  some (o15.1, o15.2)
  else
  (fX9_allThere xs).bind fun o6 =>
  (fX9_reach o6 pb).bind fun o7 =>
  (fX9_has o7 pc_).bind fun o8 =>
  (if o8 = (0 : Int32) then
  (fX9_far o6 (-3 : Int32)).bind fun o14 =>
  some (o14.1, o14.2)
  else
  ga 11 pa fun j1 =>
  (fX9_share o6 pb pc_ ((m_first o6) j1)).bind fun o9 =>
  ga 11 pa fun j2 =>
  (fX9_share o9.2 pb pc_ ((m_second o9.2) j2)).bind fun o10 =>
  ltt ((o9.1 - o10.1)) fun v1 =>
  (fX9_findDown o10.2 pc_).bind fun o11 =>
  (fX9_weight o11 pa).bind fun o12 =>
  (fX9_partOf (v1 * (o12.toInt64)) (m_down o11) pd).bind fun o13 =>
  some (o13, o11)))))))
set_option maxHeartbeats 4000000 in
set_option maxRecDepth 100000 in
theorem pX9_flow_29 {p : Program} {l : Launch} {e : Env} {s : State} {m : MethodId} {args : Array Value} {below : List Frame} {meth : Method} {c : Code} {g : GG} {w0 : va_W} {a : Nat → Nat} {i : Nat} {pa : Int32} {pb : Int32} {pc_ : Int32} {pd : Int32} {o : (Int64 × SX9)} (X : mX g yX9_flow cX9_flow 7 (some .long) p s m args meth c w0) :
  ∀ (xs : SX9) (H : Heap) (locs : List Loc) (ls : Array Slot), qX9_flow_29 pa pb pc_ pd xs = some o → mH g s w0 (wX9 g a i xs) H locs → lv_has ls 7 [(0, .ref (a i)), (1, .int pa), (2, .int pb), (3, .int pc_), (4, .int pd)] → W p l e (rM 5 114) s m args below meth c H locs 0 0 (mZ g below args s w0 (wX9 g a i o.2) (some (.long o.1))) (F0 m 29 ls []) := by
  have hx := X.1
  have hb := X.2.1
  intro xs H locs ls h hH hl
  unfold qX9_flow_29 at h
  refine lv_aload_n hx hb dX9_flow_29 rfl (lv_at hl 0 rfl) ?_
  refine lv_iconst (v := (-1 : Int32)) hx hb dX9_flow_30 (by decide) ?_
  obtain ⟨o2, ho2, h⟩ := bd_x h
  refine r_V X hH (ws1 := (wX9 g a i o2.2)) (As := [.int (-1 : Int32)]) (rest := []) (st1 := [.long o2.1]) (uX9_far (a := a) (i := i) ho2) kX9_far mX9_272 iX9_far vX9_far zX9 okX9_far ⟨Nat.le_of_ble_eq_true rfl, Nat.le_of_ble_eq_true rfl⟩ rfl rfl (q0 := 0) rfl rfl (pm_all _) (pm_all _) rfl hl.1 rfl (Nat.le_of_ble_eq_true rfl) ⟨Nat.le_refl 0, Nat.le_refl 0⟩ rfl dX9_flow_31 (fun H locs hH => ?_)
  have h := Option.some.inj h
  subst h
  exact e_l X hH dX9_flow_34
set_option maxHeartbeats 4000000 in
set_option maxRecDepth 100000 in
theorem uX9_flow {l : Launch} {g : GG} {a : Nat → Nat} {i : Nat} {xs : SX9} {pa : Int32} {pb : Int32} {pc_ : Int32} {pd : Int32} {o : (Int64 × SX9)} (h : fX9_flow xs pa pb pc_ pd = some o) : mC l g yX9_flow cX9_flow 7 (some .long) (rM 5 114) [.ref (a i), .int pa, .int pb, .int pc_, .int pd] (wX9 g a i xs) (wX9 g a i o.2) (some (.long o.1)) := by
  refine mC.ofW (by decide) (fun p e s m below meth c X hH ls _ hl => ?_) (Nat.le_of_ble_eq_true rfl)
  have hx := X.1
  have hb := X.2.1
  have hl : lv_has ls 7 [(0, .ref (a i)), (1, .int pa), (2, .int pb), (3, .int pc_), (4, .int pd)] := hl
  unfold fX9_flow at h
  suffices HH : ∀ (H : Heap) (locs : List Loc), mH g s (wX9 g a i xs) (wX9 g a i xs) H locs → W p l e (rM 5 114) s m _ below meth c H locs 0 0 (mZ g below _ s (wX9 g a i xs) (wX9 g a i o.2) (some (.long o.1))) (F0 m 0 ls []) from HH _ _ hH
  clear hH
  intro H locs hH
  refine lv_aload_n hx hb dX9_flow_0 rfl (lv_at hl 0 rfl) ?_
  refine lv_iload_n hx hb dX9_flow_1 rfl (lv_at hl 1 rfl) ?_
  obtain ⟨o1, ho1, h⟩ := bd_x h
  refine r_V X hH (ws1 := (wX9 g a i xs)) (As := [.int pa]) (rest := []) (st1 := [.int o1]) (uX9_isWay (a := a) (i := i) ho1) kX9_isWay mX9_145 iX9_isWay vX9_isWay zX9 okX9_isWay ⟨Nat.le_of_ble_eq_true rfl, Nat.le_of_ble_eq_true rfl⟩ rfl rfl (q0 := 0) rfl rfl (pm_all _) (pm_all _) rfl hl.1 rfl (Nat.le_of_ble_eq_true rfl) ⟨Nat.le_refl 0, Nat.le_refl 0⟩ rfl dX9_flow_2 (fun H locs hH => ?_)
  refine lv_if_eq (tgt := 29) hx hb dX9_flow_5 (by decide) (fun c1 => ?_) (fun c1 => ?_)
  · have h := it_x h c1
    exact pX9_flow_29 X  xs H locs ls h hH (lv_sub hl [0, 1, 2, 3, 4] rfl)
  · have h := ie_x h c1
    refine lv_aload_n hx hb dX9_flow_8 rfl (lv_at hl 0 rfl) ?_
    refine lv_iload_n hx hb dX9_flow_9 rfl (lv_at hl 2 rfl) ?_
    obtain ⟨o3, ho3, h⟩ := bd_x h
    refine r_V X hH (ws1 := (wX9 g a i xs)) (As := [.int pb]) (rest := []) (st1 := [.int o3]) (uX9_isPoint (a := a) (i := i) ho3) kX9_isPoint mX9_141 iX9_isPoint vX9_isPoint zX9 okX9_isPoint ⟨Nat.le_of_ble_eq_true rfl, Nat.le_of_ble_eq_true rfl⟩ rfl rfl (q0 := 0) rfl rfl (pm_all _) (pm_all _) rfl hl.1 rfl (Nat.le_of_ble_eq_true rfl) ⟨Nat.le_refl 0, Nat.le_refl 0⟩ rfl dX9_flow_10 (fun H locs hH => ?_)
    refine lv_if_eq (tgt := 29) hx hb dX9_flow_13 (by decide) (fun c2 => ?_) (fun c2 => ?_)
    · have h := it_x h c2
      exact pX9_flow_29 X  xs H locs ls h hH (lv_sub hl [0, 1, 2, 3, 4] rfl)
    · have h := ie_x h c2
      refine lv_aload_n hx hb dX9_flow_16 rfl (lv_at hl 0 rfl) ?_
      refine lv_iload_n hx hb dX9_flow_17 rfl (lv_at hl 3 rfl) ?_
      obtain ⟨o4, ho4, h⟩ := bd_x h
      refine r_V X hH (ws1 := (wX9 g a i xs)) (As := [.int pc_]) (rest := []) (st1 := [.int o4]) (uX9_isPoint (a := a) (i := i) ho4) kX9_isPoint mX9_141 iX9_isPoint vX9_isPoint zX9 okX9_isPoint ⟨Nat.le_of_ble_eq_true rfl, Nat.le_of_ble_eq_true rfl⟩ rfl rfl (q0 := 0) rfl rfl (pm_all _) (pm_all _) rfl hl.1 rfl (Nat.le_of_ble_eq_true rfl) ⟨Nat.le_refl 0, Nat.le_refl 0⟩ rfl dX9_flow_18 (fun H locs hH => ?_)
      refine lv_if_eq (tgt := 29) hx hb dX9_flow_21 (by decide) (fun c3 => ?_) (fun c3 => ?_)
      · have h := it_x h c3
        exact pX9_flow_29 X  xs H locs ls h hH (lv_sub hl [0, 1, 2, 3, 4] rfl)
      · have h := ie_x h c3
        refine lv_iload_n hx hb dX9_flow_24 rfl (lv_at hl 2 rfl) ?_
        refine lv_iload_n hx hb dX9_flow_25 rfl (lv_at hl 3 rfl) ?_
        refine lv_icmp_ne (tgt := 35) hx hb dX9_flow_26 (by decide) (fun c4 => ?_) (fun c4 => ?_)
        · have h := ie_x h c4
          refine lv_iload hx hb dX9_flow_35 (lv_at hl 4 rfl) ?_
          refine lv_i2l hx hb dX9_flow_37 rfl ?_
          refine lv_lconst (v := (0 : Int64)) hx hb dX9_flow_38 (by decide) ?_
          refine lv_lconst (v := (1 : Int64)) hx hb dX9_flow_39 (by decide) ?_
          obtain ⟨o5, ho5, h⟩ := bd_x h
          refine r_S X hH (ws1 := (wX9 g a i xs)) (As := [.long (pd.toInt64), .long (0 : Int64), .long (1 : Int64)]) (rest := []) (st1 := [.int o5]) (uX9_isIn  ho5) kX9_isIn mX9_116 sX9_isIn zX9 okX9_isIn ⟨Nat.le_of_ble_eq_true rfl, Nat.le_of_ble_eq_true rfl⟩ rfl rfl (pm_none _) (pm_none _) rfl hl.1 rfl (Nat.le_of_ble_eq_true rfl) ⟨Nat.le_refl 0, Nat.le_refl 0⟩ rfl dX9_flow_40 (fun H locs hH => ?_)
          refine lv_if_ne (tgt := 53) hx hb dX9_flow_43 (by decide) (fun c5 => ?_) (fun c5 => ?_)
          · have h := ie_x h c5
            refine lv_aload_n hx hb dX9_flow_53 rfl (lv_at hl 0 rfl) ?_
            obtain ⟨o6, ho6, h⟩ := bd_x h
            refine r_V X hH (ws1 := (wX9 g a i o6)) (As := []) (rest := []) (st1 := []) (uX9_allThere (a := a) (i := i) ho6) kX9_allThere mX9_230 iX9_allThere vX9_allThere zX9 okX9_allThere ⟨Nat.le_of_ble_eq_true rfl, Nat.le_of_ble_eq_true rfl⟩ rfl rfl (q0 := 0) rfl rfl (pm_all _) (pm_all _) rfl hl.1 rfl (Nat.le_of_ble_eq_true rfl) ⟨Nat.le_refl 0, Nat.le_refl 0⟩ rfl dX9_flow_54 (fun H locs hH => ?_)
            refine lv_aload_n hx hb dX9_flow_57 rfl (lv_at hl 0 rfl) ?_
            refine lv_iload_n hx hb dX9_flow_58 rfl (lv_at hl 2 rfl) ?_
            obtain ⟨o7, ho7, h⟩ := bd_x h
            refine r_V X hH (ws1 := (wX9 g a i o6)) (As := [.int pb]) (rest := []) (st1 := [.int o7]) (uX9_reach (a := a) (i := i) ho7) kX9_reach mX9_233 iX9_reach vX9_reach zX9 okX9_reach ⟨Nat.le_of_ble_eq_true rfl, Nat.le_of_ble_eq_true rfl⟩ rfl rfl (q0 := 0) rfl rfl (pm_all _) (pm_all _) rfl hl.1 rfl (Nat.le_of_ble_eq_true rfl) ⟨Nat.le_refl 0, Nat.le_refl 0⟩ rfl dX9_flow_59 (fun H locs hH => ?_)
            refine lv_iload_n hx hb dX9_flow_62 rfl (lv_at hl 3 rfl) ?_
            obtain ⟨o8, ho8, h⟩ := bd_x h
            refine r_S X hH (ws1 := (wX9 g a i o6)) (As := [.int o7, .int pc_]) (rest := []) (st1 := [.int o8]) (uX9_has  ho8) kX9_has mX9_226 sX9_has zX9 okX9_has ⟨Nat.le_of_ble_eq_true rfl, Nat.le_of_ble_eq_true rfl⟩ rfl rfl (pm_none _) (pm_none _) rfl hl.1 rfl (Nat.le_of_ble_eq_true rfl) ⟨Nat.le_refl 0, Nat.le_refl 0⟩ rfl dX9_flow_63 (fun H locs hH => ?_)
            refine lv_if_ne (tgt := 76) hx hb dX9_flow_66 (by decide) (fun c6 => ?_) (fun c6 => ?_)
            · have h := ie_x h c6
              refine lv_aload_n hx hb dX9_flow_76 rfl (lv_at hl 0 rfl) ?_
              refine lv_iload_n hx hb dX9_flow_77 rfl (lv_at hl 2 rfl) ?_
              refine lv_iload_n hx hb dX9_flow_78 rfl (lv_at hl 3 rfl) ?_
              refine lv_aload_n hx hb dX9_flow_79 rfl (lv_at hl 0 rfl) ?_
              refine f_get X hH 0 rfl rfl 2 (by decide) inX9 fX9_13 rfl dX9_flow_80 ?_
              refine lv_iload_n hx hb dX9_flow_83 rfl (lv_at hl 1 rfl) ?_
              obtain ⟨j1, ej1, hinj1, h⟩ := ga_x h
              refine a_il X hH 1 rfl hinj1 ej1 dX9_flow_84 ?_
              obtain ⟨o9, ho9, h⟩ := bd_x h
              refine r_V X hH (ws1 := (wX9 g a i o9.2)) (As := [.int pb, .int pc_, .int ((m_first o6) j1)]) (rest := []) (st1 := [.long o9.1]) (uX9_share (a := a) (i := i) ho9) kX9_share mX9_299 iX9_share vX9_share zX9 okX9_share ⟨Nat.le_of_ble_eq_true rfl, Nat.le_of_ble_eq_true rfl⟩ rfl rfl (q0 := 0) rfl rfl (pm_all _) (pm_all _) rfl hl.1 rfl (Nat.le_of_ble_eq_true rfl) ⟨Nat.le_refl 0, Nat.le_refl 0⟩ rfl dX9_flow_85 (fun H locs hH => ?_)
              refine lv_aload_n hx hb dX9_flow_88 rfl (lv_at hl 0 rfl) ?_
              refine lv_iload_n hx hb dX9_flow_89 rfl (lv_at hl 2 rfl) ?_
              refine lv_iload_n hx hb dX9_flow_90 rfl (lv_at hl 3 rfl) ?_
              refine lv_aload_n hx hb dX9_flow_91 rfl (lv_at hl 0 rfl) ?_
              refine f_get X hH 0 rfl rfl 3 (by decide) inX9 fX9_17 rfl dX9_flow_92 ?_
              refine lv_iload_n hx hb dX9_flow_95 rfl (lv_at hl 1 rfl) ?_
              obtain ⟨j2, ej2, hinj2, h⟩ := ga_x h
              refine a_il X hH 2 rfl hinj2 ej2 dX9_flow_96 ?_
              obtain ⟨o10, ho10, h⟩ := bd_x h
              refine r_V X hH (ws1 := (wX9 g a i o10.2)) (As := [.int pb, .int pc_, .int ((m_second o9.2) j2)]) (rest := [.long o9.1]) (st1 := [.long o10.1, .long o9.1]) (uX9_share (a := a) (i := i) ho10) kX9_share mX9_299 iX9_share vX9_share zX9 okX9_share ⟨Nat.le_of_ble_eq_true rfl, Nat.le_of_ble_eq_true rfl⟩ rfl rfl (q0 := 0) rfl rfl (pm_all _) (pm_all _) rfl hl.1 rfl (Nat.le_of_ble_eq_true rfl) ⟨Nat.le_refl 0, Nat.le_refl 0⟩ rfl dX9_flow_97 (fun H locs hH => ?_)
              refine lv_lsub hx hb dX9_flow_100 ?_
              obtain ⟨v1, ev1, h⟩ := ltt_x h
              refine s_l X (lv' := [(5, .long v1), (0, .ref (a i)), (1, .int pa), (2, .int pb), (3, .int pc_), (4, .int pd)]) hl ev1 dX9_flow_101 (by decide) rfl (fun ls hl => ?_)
              refine lv_aload_n hx hb dX9_flow_103 rfl (lv_at hl 1 rfl) ?_
              refine lv_iload_n hx hb dX9_flow_104 rfl (lv_at hl 4 rfl) ?_
              obtain ⟨o11, ho11, h⟩ := bd_x h
              refine r_V X hH (ws1 := (wX9 g a i o11)) (As := [.int pc_]) (rest := []) (st1 := []) (uX9_findDown (a := a) (i := i) ho11) kX9_findDown mX9_296 iX9_findDown vX9_findDown zX9 okX9_findDown ⟨Nat.le_of_ble_eq_true rfl, Nat.le_of_ble_eq_true rfl⟩ rfl rfl (q0 := 0) rfl rfl (pm_all _) (pm_all _) rfl hl.1 rfl (Nat.le_of_ble_eq_true rfl) ⟨Nat.le_refl 0, Nat.le_refl 0⟩ rfl dX9_flow_105 (fun H locs hH => ?_)
              refine lv_lload hx hb dX9_flow_108 (lv_at hl 0 rfl) ?_
              refine lv_aload_n hx hb dX9_flow_110 rfl (lv_at hl 1 rfl) ?_
              refine lv_iload_n hx hb dX9_flow_111 rfl (lv_at hl 2 rfl) ?_
              obtain ⟨o12, ho12, h⟩ := bd_x h
              refine r_V X hH (ws1 := (wX9 g a i o11)) (As := [.int pa]) (rest := [.long v1]) (st1 := [.int o12, .long v1]) (uX9_weight (a := a) (i := i) ho12) kX9_weight mX9_171 iX9_weight vX9_weight zX9 okX9_weight ⟨Nat.le_of_ble_eq_true rfl, Nat.le_of_ble_eq_true rfl⟩ rfl rfl (q0 := 0) rfl rfl (pm_all _) (pm_all _) rfl hl.1 rfl (Nat.le_of_ble_eq_true rfl) ⟨Nat.le_refl 0, Nat.le_refl 0⟩ rfl dX9_flow_112 (fun H locs hH => ?_)
              refine lv_i2l hx hb dX9_flow_115 rfl ?_
              refine lv_lmul hx hb dX9_flow_116 ?_
              refine lv_aload_n hx hb dX9_flow_117 rfl (lv_at hl 1 rfl) ?_
              refine f_get X hH 0 rfl rfl 27 (by decide) inX9 fX9_252 rfl dX9_flow_118 ?_
              refine lv_iload hx hb dX9_flow_121 (lv_at hl 5 rfl) ?_
              obtain ⟨o13, ho13, h⟩ := bd_x h
              refine r_S X hH (ws1 := (wX9 g a i o11)) (As := [.long (v1 * (o12.toInt64)), .long (m_down o11), .int pd]) (rest := []) (st1 := [.long o13]) (uX9_partOf  ho13) kX9_partOf mX9_279 sX9_partOf zX9 okX9_partOf ⟨Nat.le_of_ble_eq_true rfl, Nat.le_of_ble_eq_true rfl⟩ rfl rfl (pm_none _) (pm_none _) rfl hl.1 rfl (Nat.le_of_ble_eq_true rfl) ⟨Nat.le_refl 0, Nat.le_refl 0⟩ rfl dX9_flow_123 (fun H locs hH => ?_)
              have h := Option.some.inj h
              subst h
              exact e_l X hH dX9_flow_126
            · have h := it_x h c6
              refine lv_aload_n hx hb dX9_flow_69 rfl (lv_at hl 0 rfl) ?_
              refine lv_bipush (v := (-3 : Int32)) hx hb dX9_flow_70 (by decide) ?_
              obtain ⟨o14, ho14, h⟩ := bd_x h
              refine r_V X hH (ws1 := (wX9 g a i o14.2)) (As := [.int (-3 : Int32)]) (rest := []) (st1 := [.long o14.1]) (uX9_far (a := a) (i := i) ho14) kX9_far mX9_272 iX9_far vX9_far zX9 okX9_far ⟨Nat.le_of_ble_eq_true rfl, Nat.le_of_ble_eq_true rfl⟩ rfl rfl (q0 := 0) rfl rfl (pm_all _) (pm_all _) rfl hl.1 rfl (Nat.le_of_ble_eq_true rfl) ⟨Nat.le_refl 0, Nat.le_refl 0⟩ rfl dX9_flow_72 (fun H locs hH => ?_)
              have h := Option.some.inj h
              subst h
              exact e_l X hH dX9_flow_75
          · have h := it_x h c5
            refine lv_aload_n hx hb dX9_flow_46 rfl (lv_at hl 0 rfl) ?_
            refine lv_bipush (v := (-2 : Int32)) hx hb dX9_flow_47 (by decide) ?_
            obtain ⟨o15, ho15, h⟩ := bd_x h
            refine r_V X hH (ws1 := (wX9 g a i o15.2)) (As := [.int (-2 : Int32)]) (rest := []) (st1 := [.long o15.1]) (uX9_far (a := a) (i := i) ho15) kX9_far mX9_272 iX9_far vX9_far zX9 okX9_far ⟨Nat.le_of_ble_eq_true rfl, Nat.le_of_ble_eq_true rfl⟩ rfl rfl (q0 := 0) rfl rfl (pm_all _) (pm_all _) rfl hl.1 rfl (Nat.le_of_ble_eq_true rfl) ⟨Nat.le_refl 0, Nat.le_refl 0⟩ rfl dX9_flow_49 (fun H locs hH => ?_)
            have h := Option.some.inj h
            subst h
            exact e_l X hH dX9_flow_52
        · have h := it_x h c4
          exact pX9_flow_29 X  xs H locs ls h hH (lv_sub hl [0, 1, 2, 3, 4] rfl)
