def qX0_stepsTo_69 (xt : SX3) (pa : Int32) (pb : Int32) (k7 : SX0 → Int32 → Option SX0) (xs : SX0) (l4 : Int32) : Option SX0 :=
  ltt (l4 + (1 : Int32)) fun v1 =>
  k7 xs v1
def qX0_stepsTo_7 (xt : SX3) (pa : Int32) (pb : Int32)  : Nat → SX0 → Int32 → Option SX0
  | 0, _, _ => none
  | fu + 1, xs, l4 =>
  (if (n_ways xt) ≤ l4 then
  (fX0_solve xs xt pa ((1 : Int32) <<< (pb &&& 31))).bind fun o2 =>
  some o2
  else
  (fX8_has pa l4).bind fun o3 =>
  (if o3 = (0 : Int32) then
  qX0_stepsTo_69 xt pa pb (qX0_stepsTo_7 xt pa pb  fu) xs l4
  else
  ga 11 l4 fun j1 =>
  ga 6 ((n_first xt) j1) fun j2 =>
  (fX3_weight xt l4).bind fun o4 =>
  ltt ((((eq_due xs) j2) + (o4.toInt64))) fun v2 =>
  ga 6 ((n_first xt) j1) fun j3 =>
  ltt ((eq_due_s xs (vp_updL (eq_due xs) j3 v2))) fun xs1 =>
  ga 11 l4 fun j4 =>
  ga 6 ((n_second xt) j4) fun j5 =>
  (fX3_weight xt l4).bind fun o5 =>
  ltt ((((eq_due xs1) j5) + (o5.toInt64))) fun v3 =>
  ga 6 ((n_second xt) j4) fun j6 =>
  ltt ((eq_due_s xs1 (vp_updL (eq_due xs1) j6 v3))) fun xs2 =>
  qX0_stepsTo_69 xt pa pb (qX0_stepsTo_7 xt pa pb  fu) xs2 l4))
def fX0_stepsTo (xs : SX0) (xt : SX3) (pa : Int32) (pb : Int32) : Option SX0 :=
  (fX0_nothingIsDue xs).bind fun o1 =>
  qX0_stepsTo_7 xt pa pb FU o1 (0 : Int32)
set_option maxHeartbeats 4000000 in
set_option maxRecDepth 100000 in
theorem pX0_stepsTo_69 {p : Program} {l : Launch} {e : Env} {s : State} {m : MethodId} {args : Array Value} {below : List Frame} {meth : Method} {c : Code} {g : GG} {w0 : va_W} {a : Nat → Nat} {i : Nat} {b : Nat → Nat} {j : Nat} {xt : SX3} {pa : Int32} {pb : Int32} {o : SX0} (X : mX g yX0_stepsTo cX0_stepsTo 5 none p s m args meth c w0)
  {k7 : SX0 → Int32 → Option SX0} (K7 : ∀ (xs : SX0) (l4 : Int32) (H : Heap) (locs : List Loc) (ls : Array Slot), k7 xs l4 = some o → mH g s w0 ((wX0 g a i xs) ++ (wX3 g b j xt)) H locs → lv_has ls 5 [(0, .ref (a i)), (1, .ref (b j)), (2, .int pa), (3, .int pb), (4, .int l4)] → W p l e (rM 3 76) s m args below meth c H locs 0 0 (mZ g below args s w0 ((wX0 g a i o) ++ (wX3 g b j xt)) none) (F0 m 7 ls [])) :
  ∀ (xs : SX0) (l4 : Int32) (H : Heap) (locs : List Loc) (ls : Array Slot), qX0_stepsTo_69 xt pa pb k7 xs l4 = some o → mH g s w0 ((wX0 g a i xs) ++ (wX3 g b j xt)) H locs → lv_has ls 5 [(0, .ref (a i)), (1, .ref (b j)), (2, .int pa), (3, .int pb), (4, .int l4)] → W p l e (rM 3 76) s m args below meth c H locs 0 0 (mZ g below args s w0 ((wX0 g a i o) ++ (wX3 g b j xt)) none) (F0 m 69 ls []) := by
  have hx := X.1
  have hb := X.2.1
  intro xs l4 H locs ls h hH hl
  unfold qX0_stepsTo_69 at h
  obtain ⟨v1, ev1, h⟩ := ltt_x h
  refine s_inc X (k := 4) (lv' := [(4, .int v1), (0, .ref (a i)), (1, .ref (b j)), (2, .int pa), (3, .int pb)]) hl rfl (by rw [ev1]; rfl) dX0_stepsTo_69 (by decide) rfl (fun ls hl => ?_)
  refine lv_goto (tgt := 7) hx hb dX0_stepsTo_72 (by decide) ?_
  exact K7 xs v1 H locs ls h hH (lv_sub hl [1, 2, 3, 4, 0] rfl)
set_option maxHeartbeats 4000000 in
set_option maxRecDepth 100000 in
theorem pX0_stepsTo_7 {p : Program} {l : Launch} {e : Env} {s : State} {m : MethodId} {args : Array Value} {below : List Frame} {meth : Method} {c : Code} {g : GG} {w0 : va_W} {a : Nat → Nat} {i : Nat} {b : Nat → Nat} {j : Nat} {xt : SX3} {pa : Int32} {pb : Int32} {o : SX0} (X : mX g yX0_stepsTo cX0_stepsTo 5 none p s m args meth c w0) :
  ∀ (fu : Nat) (xs : SX0) (l4 : Int32) (H : Heap) (locs : List Loc) (ls : Array Slot), qX0_stepsTo_7 xt pa pb fu xs l4 = some o → mH g s w0 ((wX0 g a i xs) ++ (wX3 g b j xt)) H locs → lv_has ls 5 [(0, .ref (a i)), (1, .ref (b j)), (2, .int pa), (3, .int pb), (4, .int l4)] → W p l e (rM 3 76) s m args below meth c H locs 0 0 (mZ g below args s w0 ((wX0 g a i o) ++ (wX3 g b j xt)) none) (F0 m 7 ls []) := by
  have hx := X.1
  have hb := X.2.1
  intro fu
  induction fu with
  | zero =>
    intro xs l4 H locs ls h
    unfold qX0_stepsTo_7 at h
    cases h
  | succ fu ih =>
    intro xs l4 H locs ls h hH hl
    unfold qX0_stepsTo_7 at h
    refine lv_iload hx hb dX0_stepsTo_7 (lv_at hl 4 rfl) ?_
    refine lv_aload_n hx hb dX0_stepsTo_9 rfl (lv_at hl 1 rfl) ?_
    refine f_get X hH 11 rfl rfl 1 (by decide) inX3 fX0_38 rfl dX0_stepsTo_10 ?_
    refine lv_icmp_ge (tgt := 75) hx hb dX0_stepsTo_13 (by decide) (fun c1 => ?_) (fun c1 => ?_)
    · have h := it_x h c1
      refine lv_aload_n hx hb dX0_stepsTo_75 rfl (lv_at hl 0 rfl) ?_
      refine lv_aload_n hx hb dX0_stepsTo_76 rfl (lv_at hl 1 rfl) ?_
      refine lv_iload_n hx hb dX0_stepsTo_77 rfl (lv_at hl 2 rfl) ?_
      refine lv_iconst (v := (1 : Int32)) hx hb dX0_stepsTo_78 (by decide) ?_
      refine lv_iload_n hx hb dX0_stepsTo_79 rfl (lv_at hl 3 rfl) ?_
      refine lv_ishl hx hb dX0_stepsTo_80 ?_
      obtain ⟨o2, ho2, h⟩ := bd_x h
      refine r_V X hH (ws1 := ((wX0 g a i o2) ++ (wX3 g b j xt))) (As := [.ref (b j), .int pa, .int ((1 : Int32) <<< (pb &&& 31))]) (rest := []) (st1 := []) (uX0_solve (a := a) (i := i) (b := b) (j := j) ho2) kX0_solve mX0_60 iX0_solve vX0_solve zX0 okX0_solve ⟨Nat.le_of_ble_eq_true rfl, Nat.le_of_ble_eq_true rfl⟩ rfl rfl (q0 := 0) rfl rfl (pm_all _) (pm_all _) rfl hl.1 rfl (Nat.le_of_ble_eq_true rfl) ⟨Nat.le_refl 0, Nat.le_refl 0⟩ rfl dX0_stepsTo_81 (fun H locs hH => ?_)
      have h := Option.some.inj h
      subst h
      exact e_v X hH dX0_stepsTo_84
    · have h := ie_x h c1
      refine lv_iload_n hx hb dX0_stepsTo_16 rfl (lv_at hl 2 rfl) ?_
      refine lv_iload hx hb dX0_stepsTo_17 (lv_at hl 4 rfl) ?_
      obtain ⟨o3, ho3, h⟩ := bd_x h
      refine r_SN X hH (ws1 := ((wX0 g a i xs) ++ (wX3 g b j xt))) (As := [.int pa, .int l4]) (rest := []) (st1 := [.int o3]) (uX8_has  ho3) kX8_has nnX0_43 sX8_has zX8 okX8_has ⟨Nat.le_of_ble_eq_true rfl, Nat.le_of_ble_eq_true rfl⟩ rfl rfl (pm_none _) (pm_none _) rfl hl.1 rfl (Nat.le_of_ble_eq_true rfl) ⟨Nat.le_refl 0, Nat.le_refl 0⟩ rfl dX0_stepsTo_19 (fun H locs hH => ?_)
      refine lv_if_eq (tgt := 69) hx hb dX0_stepsTo_22 (by decide) (fun c2 => ?_) (fun c2 => ?_)
      · have h := it_x h c2
        exact pX0_stepsTo_69 X ih xs l4 H locs ls h hH (lv_sub hl [0, 1, 2, 3, 4] rfl)
      · have h := ie_x h c2
        refine lv_aload_n hx hb dX0_stepsTo_25 rfl (lv_at hl 0 rfl) ?_
        refine f_get X hH 0 rfl rfl 4 (by decide) inX0 fX0_28 rfl dX0_stepsTo_26 ?_
        refine lv_aload_n hx hb dX0_stepsTo_29 rfl (lv_at hl 1 rfl) ?_
        refine f_get X hH 11 rfl rfl 2 (by decide) inX3 fX0_54 rfl dX0_stepsTo_30 ?_
        refine lv_iload hx hb dX0_stepsTo_33 (lv_at hl 4 rfl) ?_
        obtain ⟨j1, ej1, hinj1, h⟩ := ga_x h
        refine a_il X hH 12 rfl hinj1 ej1 dX0_stepsTo_35 ?_
        refine lv_dup2_11 hx hb dX0_stepsTo_36 rfl rfl ?_
        obtain ⟨j2, ej2, hinj2, h⟩ := ga_x h
        refine a_ll X hH 10 rfl hinj2 ej2 dX0_stepsTo_37 ?_
        refine lv_aload_n hx hb dX0_stepsTo_38 rfl (lv_at hl 1 rfl) ?_
        refine lv_iload hx hb dX0_stepsTo_39 (lv_at hl 4 rfl) ?_
        obtain ⟨o4, ho4, h⟩ := bd_x h
        refine r_V X hH (ws1 := ((wX0 g a i xs) ++ (wX3 g b j xt))) (As := [.int l4]) (rest := [.long ((eq_due xs) j2), .int ((n_first xt) j1), .ref (a (i + 10))]) (st1 := [.int o4, .long ((eq_due xs) j2), .int ((n_first xt) j1), .ref (a (i + 10))]) (uX3_weight (a := b) (i := j) ho4) kX3_weight mX0_47 iX3_weight vX3_weight zX3 okX3_weight ⟨Nat.le_of_ble_eq_true rfl, Nat.le_of_ble_eq_true rfl⟩ rfl rfl (q0 := 11) rfl rfl (pm_s (pm_all _)) (pm_s (pm_all _)) rfl hl.1 rfl (Nat.le_of_ble_eq_true rfl) ⟨Nat.le_refl 0, Nat.le_refl 0⟩ rfl dX0_stepsTo_41 (fun H locs hH => ?_)
        refine lv_i2l hx hb dX0_stepsTo_44 rfl ?_
        refine lv_ladd hx hb dX0_stepsTo_45 ?_
        obtain ⟨v2, ev2, h⟩ := ltt_x h
        refine lv_topl (fun y0 e0 => ?_)
        rw [← ev2] at e0
        subst y0
        obtain ⟨j3, ej3, hinj3, h⟩ := ga_x h
        obtain ⟨xs1, exs1, h⟩ := ltt_x h
        refine a_ls X hH (ws1 := ((wX0 g a i xs1) ++ (wX3 g b j xt))) 10 rfl hinj3 ej3 (by rw [exs1]; rfl) dX0_stepsTo_46 (fun H locs hH => ?_)
        refine lv_aload_n hx hb dX0_stepsTo_47 rfl (lv_at hl 0 rfl) ?_
        refine f_get X hH 0 rfl rfl 4 (by decide) inX0 fX0_28 rfl dX0_stepsTo_48 ?_
        refine lv_aload_n hx hb dX0_stepsTo_51 rfl (lv_at hl 1 rfl) ?_
        refine f_get X hH 11 rfl rfl 3 (by decide) inX3 fX0_57 rfl dX0_stepsTo_52 ?_
        refine lv_iload hx hb dX0_stepsTo_55 (lv_at hl 4 rfl) ?_
        obtain ⟨j4, ej4, hinj4, h⟩ := ga_x h
        refine a_il X hH 13 rfl hinj4 ej4 dX0_stepsTo_57 ?_
        refine lv_dup2_11 hx hb dX0_stepsTo_58 rfl rfl ?_
        obtain ⟨j5, ej5, hinj5, h⟩ := ga_x h
        refine a_ll X hH 10 rfl hinj5 ej5 dX0_stepsTo_59 ?_
        refine lv_aload_n hx hb dX0_stepsTo_60 rfl (lv_at hl 1 rfl) ?_
        refine lv_iload hx hb dX0_stepsTo_61 (lv_at hl 4 rfl) ?_
        obtain ⟨o5, ho5, h⟩ := bd_x h
        refine r_V X hH (ws1 := ((wX0 g a i xs1) ++ (wX3 g b j xt))) (As := [.int l4]) (rest := [.long ((eq_due xs1) j5), .int ((n_second xt) j4), .ref (a (i + 10))]) (st1 := [.int o5, .long ((eq_due xs1) j5), .int ((n_second xt) j4), .ref (a (i + 10))]) (uX3_weight (a := b) (i := j) ho5) kX3_weight mX0_47 iX3_weight vX3_weight zX3 okX3_weight ⟨Nat.le_of_ble_eq_true rfl, Nat.le_of_ble_eq_true rfl⟩ rfl rfl (q0 := 11) rfl rfl (pm_s (pm_all _)) (pm_s (pm_all _)) rfl hl.1 rfl (Nat.le_of_ble_eq_true rfl) ⟨Nat.le_refl 0, Nat.le_refl 0⟩ rfl dX0_stepsTo_63 (fun H locs hH => ?_)
        refine lv_i2l hx hb dX0_stepsTo_66 rfl ?_
        refine lv_ladd hx hb dX0_stepsTo_67 ?_
        obtain ⟨v3, ev3, h⟩ := ltt_x h
        refine lv_topl (fun y0 e0 => ?_)
        rw [← ev3] at e0
        subst y0
        obtain ⟨j6, ej6, hinj6, h⟩ := ga_x h
        obtain ⟨xs2, exs2, h⟩ := ltt_x h
        refine a_ls X hH (ws1 := ((wX0 g a i xs2) ++ (wX3 g b j xt))) 10 rfl hinj6 ej6 (by rw [exs2]; rfl) dX0_stepsTo_68 (fun H locs hH => ?_)
        exact pX0_stepsTo_69 X ih xs2 l4 H locs ls h hH (lv_sub hl [0, 1, 2, 3, 4] rfl)
set_option maxHeartbeats 4000000 in
set_option maxRecDepth 100000 in
theorem uX0_stepsTo {l : Launch} {g : GG} {a : Nat → Nat} {i : Nat} {b : Nat → Nat} {j : Nat} {xs : SX0} {xt : SX3} {pa : Int32} {pb : Int32} {o : SX0} (h : fX0_stepsTo xs xt pa pb = some o) : mC l g yX0_stepsTo cX0_stepsTo 5 none (rM 3 76) [.ref (a i), .ref (b j), .int pa, .int pb] ((wX0 g a i xs) ++ (wX3 g b j xt)) ((wX0 g a i o) ++ (wX3 g b j xt)) none := by
  refine mC.ofW (by decide) (fun p e s m below meth c X hH ls _ hl => ?_) (Nat.le_of_ble_eq_true rfl)
  have hx := X.1
  have hb := X.2.1
  have hl : lv_has ls 5 [(0, .ref (a i)), (1, .ref (b j)), (2, .int pa), (3, .int pb)] := hl
  unfold fX0_stepsTo at h
  suffices HH : ∀ (H : Heap) (locs : List Loc), mH g s ((wX0 g a i xs) ++ (wX3 g b j xt)) ((wX0 g a i xs) ++ (wX3 g b j xt)) H locs → W p l e (rM 3 76) s m _ below meth c H locs 0 0 (mZ g below _ s ((wX0 g a i xs) ++ (wX3 g b j xt)) ((wX0 g a i o) ++ (wX3 g b j xt)) none) (F0 m 0 ls []) from HH _ _ hH
  clear hH
  intro H locs hH
  refine lv_aload_n hx hb dX0_stepsTo_0 rfl (lv_at hl 0 rfl) ?_
  obtain ⟨o1, ho1, h⟩ := bd_x h
  refine r_V X hH (ws1 := ((wX0 g a i o1) ++ (wX3 g b j xt))) (As := []) (rest := []) (st1 := []) (uX0_nothingIsDue (a := a) (i := i) ho1) kX0_nothingIsDue mX0_35 iX0_nothingIsDue vX0_nothingIsDue zX0 okX0_nothingIsDue ⟨Nat.le_of_ble_eq_true rfl, Nat.le_of_ble_eq_true rfl⟩ rfl rfl (q0 := 0) rfl rfl (pm_0 _ _) (pm_0 _ _) rfl hl.1 rfl (Nat.le_of_ble_eq_true rfl) ⟨Nat.le_refl 0, Nat.le_refl 0⟩ rfl dX0_stepsTo_1 (fun H locs hH => ?_)
  refine lv_iconst (v := (0 : Int32)) hx hb dX0_stepsTo_4 (by decide) ?_
  refine s_i X (lv' := [(4, .int (0 : Int32)), (0, .ref (a i)), (1, .ref (b j)), (2, .int pa), (3, .int pb)]) hl rfl dX0_stepsTo_5 (by decide) rfl (fun ls hl => ?_)
  exact pX0_stepsTo_7 X FU o1 (0 : Int32) H locs ls h hH (lv_sub hl [1, 2, 3, 4, 0] rfl)

def fX0_currentTo (xs : SX0) (xt : SX3) (pa : Int32) (pb : Int32) (pc_ : Int32) : Option SX0 :=
  (fX0_nothingIsDue xs).bind fun o1 =>
  ga 6 pb fun j1 =>
  ltt ((eq_due_s o1 (vp_updL (eq_due o1) j1 (1 : Int64)))) fun xs1 =>
  (fX0_solve xs1 xt pa ((1 : Int32) <<< (pc_ &&& 31))).bind fun o2 =>
  some o2
set_option maxHeartbeats 4000000 in
set_option maxRecDepth 100000 in
theorem uX0_currentTo {l : Launch} {g : GG} {a : Nat → Nat} {i : Nat} {b : Nat → Nat} {j : Nat} {xs : SX0} {xt : SX3} {pa : Int32} {pb : Int32} {pc_ : Int32} {o : SX0} (h : fX0_currentTo xs xt pa pb pc_ = some o) : mC l g yX0_currentTo cX0_currentTo 5 none (rM 3 76) [.ref (a i), .ref (b j), .int pa, .int pb, .int pc_] ((wX0 g a i xs) ++ (wX3 g b j xt)) ((wX0 g a i o) ++ (wX3 g b j xt)) none := by
  refine mC.ofW (by decide) (fun p e s m below meth c X hH ls _ hl => ?_) (Nat.le_of_ble_eq_true rfl)
  have hx := X.1
  have hb := X.2.1
  have hl : lv_has ls 5 [(0, .ref (a i)), (1, .ref (b j)), (2, .int pa), (3, .int pb), (4, .int pc_)] := hl
  unfold fX0_currentTo at h
  suffices HH : ∀ (H : Heap) (locs : List Loc), mH g s ((wX0 g a i xs) ++ (wX3 g b j xt)) ((wX0 g a i xs) ++ (wX3 g b j xt)) H locs → W p l e (rM 3 76) s m _ below meth c H locs 0 0 (mZ g below _ s ((wX0 g a i xs) ++ (wX3 g b j xt)) ((wX0 g a i o) ++ (wX3 g b j xt)) none) (F0 m 0 ls []) from HH _ _ hH
  clear hH
  intro H locs hH
  refine lv_aload_n hx hb dX0_currentTo_0 rfl (lv_at hl 0 rfl) ?_
  obtain ⟨o1, ho1, h⟩ := bd_x h
  refine r_V X hH (ws1 := ((wX0 g a i o1) ++ (wX3 g b j xt))) (As := []) (rest := []) (st1 := []) (uX0_nothingIsDue (a := a) (i := i) ho1) kX0_nothingIsDue mX0_35 iX0_nothingIsDue vX0_nothingIsDue zX0 okX0_nothingIsDue ⟨Nat.le_of_ble_eq_true rfl, Nat.le_of_ble_eq_true rfl⟩ rfl rfl (q0 := 0) rfl rfl (pm_0 _ _) (pm_0 _ _) rfl hl.1 rfl (Nat.le_of_ble_eq_true rfl) ⟨Nat.le_refl 0, Nat.le_refl 0⟩ rfl dX0_currentTo_1 (fun H locs hH => ?_)
  refine lv_aload_n hx hb dX0_currentTo_4 rfl (lv_at hl 0 rfl) ?_
  refine f_get X hH 0 rfl rfl 4 (by decide) inX0 fX0_28 rfl dX0_currentTo_5 ?_
  refine lv_iload_n hx hb dX0_currentTo_8 rfl (lv_at hl 3 rfl) ?_
  refine lv_lconst (v := (1 : Int64)) hx hb dX0_currentTo_9 (by decide) ?_
  obtain ⟨j1, ej1, hinj1, h⟩ := ga_x h
  obtain ⟨xs1, exs1, h⟩ := ltt_x h
  refine a_ls X hH (ws1 := ((wX0 g a i xs1) ++ (wX3 g b j xt))) 10 rfl hinj1 ej1 (by rw [exs1]; rfl) dX0_currentTo_10 (fun H locs hH => ?_)
  refine lv_aload_n hx hb dX0_currentTo_11 rfl (lv_at hl 0 rfl) ?_
  refine lv_aload_n hx hb dX0_currentTo_12 rfl (lv_at hl 1 rfl) ?_
  refine lv_iload_n hx hb dX0_currentTo_13 rfl (lv_at hl 2 rfl) ?_
  refine lv_iconst (v := (1 : Int32)) hx hb dX0_currentTo_14 (by decide) ?_
  refine lv_iload hx hb dX0_currentTo_15 (lv_at hl 4 rfl) ?_
  refine lv_ishl hx hb dX0_currentTo_17 ?_
  obtain ⟨o2, ho2, h⟩ := bd_x h
  refine r_V X hH (ws1 := ((wX0 g a i o2) ++ (wX3 g b j xt))) (As := [.ref (b j), .int pa, .int ((1 : Int32) <<< (pc_ &&& 31))]) (rest := []) (st1 := []) (uX0_solve (a := a) (i := i) (b := b) (j := j) ho2) kX0_solve mX0_60 iX0_solve vX0_solve zX0 okX0_solve ⟨Nat.le_of_ble_eq_true rfl, Nat.le_of_ble_eq_true rfl⟩ rfl rfl (q0 := 0) rfl rfl (pm_all _) (pm_all _) rfl hl.1 rfl (Nat.le_of_ble_eq_true rfl) ⟨Nat.le_refl 0, Nat.le_refl 0⟩ rfl dX0_currentTo_18 (fun H locs hH => ?_)
  have h := Option.some.inj h
  subst h
  exact e_v X hH dX0_currentTo_21

def qX3_touches_20 (xs : SX3) (pa : Int32) (pb : Int32)   : Option Int32 :=
  some (1 : Int32)
def fX3_touches (xs : SX3) (pa : Int32) (pb : Int32) : Option Int32 :=
  ga 11 pa fun j1 =>
  (if ((n_first xs) j1) = pb then
  qX3_touches_20 xs pa pb 
  else
  ga 11 pa fun j2 =>
  (if ((n_second xs) j2) = pb then
  qX3_touches_20 xs pa pb 
  else
  some (0 : Int32)))
set_option maxHeartbeats 4000000 in
set_option maxRecDepth 100000 in
theorem pX3_touches_20 {p : Program} {l : Launch} {e : Env} {s : State} {m : MethodId} {args : Array Value} {below : List Frame} {meth : Method} {c : Code} {g : GG} {w0 : va_W} {a : Nat → Nat} {i : Nat} {xs : SX3} {pa : Int32} {pb : Int32} {o : Int32} (X : mX g yX3_touches cX3_touches 3 (some .boolean) p s m args meth c w0) :
  ∀  (H : Heap) (locs : List Loc) (ls : Array Slot), qX3_touches_20 xs pa pb = some o → mH g s w0 (wX3 g a i xs) H locs → lv_has ls 3 [(0, .ref (a i)), (1, .int pa), (2, .int pb)] → W p l e (rM 0 0) s m args below meth c H locs 0 0 (mZ g below args s w0 (wX3 g a i xs) (some (.int o))) (F0 m 20 ls []) := by
  have hx := X.1
  have hb := X.2.1
  intro  H locs ls h hH hl
  unfold qX3_touches_20 at h
  refine lv_iconst (v := (1 : Int32)) hx hb dX3_touches_20 (by decide) ?_
  refine lv_goto (tgt := 25) hx hb dX3_touches_21 (by decide) ?_
  have h := Option.some.inj h
  subst h
  exact e_z X hH (Or.inr rfl) dX3_touches_25
set_option maxHeartbeats 4000000 in
set_option maxRecDepth 100000 in
theorem uX3_touches {l : Launch} {g : GG} {a : Nat → Nat} {i : Nat} {xs : SX3} {pa : Int32} {pb : Int32} {o : Int32} (h : fX3_touches xs pa pb = some o) : mC l g yX3_touches cX3_touches 3 (some .boolean) (rM 0 0) [.ref (a i), .int pa, .int pb] (wX3 g a i xs) (wX3 g a i xs) (some (.int o)) := by
  refine mC.ofW (by decide) (fun p e s m below meth c X hH ls _ hl => ?_) (Nat.le_of_ble_eq_true rfl)
  have hx := X.1
  have hb := X.2.1
  have hl : lv_has ls 3 [(0, .ref (a i)), (1, .int pa), (2, .int pb)] := hl
  unfold fX3_touches at h
  suffices HH : ∀ (H : Heap) (locs : List Loc), mH g s (wX3 g a i xs) (wX3 g a i xs) H locs → W p l e (rM 0 0) s m _ below meth c H locs 0 0 (mZ g below _ s (wX3 g a i xs) (wX3 g a i xs) (some (.int o))) (F0 m 0 ls []) from HH _ _ hH
  clear hH
  intro H locs hH
  refine lv_aload_n hx hb dX3_touches_0 rfl (lv_at hl 0 rfl) ?_
  refine f_get X hH 0 rfl rfl 2 (by decide) inX3 fX3_18 rfl dX3_touches_1 ?_
  refine lv_iload_n hx hb dX3_touches_4 rfl (lv_at hl 1 rfl) ?_
  obtain ⟨j1, ej1, hinj1, h⟩ := ga_x h
  refine a_il X hH 1 rfl hinj1 ej1 dX3_touches_5 ?_
  refine lv_iload_n hx hb dX3_touches_6 rfl (lv_at hl 2 rfl) ?_
  refine lv_icmp_eq (tgt := 20) hx hb dX3_touches_7 (by decide) (fun c1 => ?_) (fun c1 => ?_)
  · have h := it_x h c1
    exact pX3_touches_20 X   H locs ls h hH (lv_sub hl [0, 1, 2] rfl)
  · have h := ie_x h c1
    refine lv_aload_n hx hb dX3_touches_10 rfl (lv_at hl 0 rfl) ?_
    refine f_get X hH 0 rfl rfl 3 (by decide) inX3 fX3_22 rfl dX3_touches_11 ?_
    refine lv_iload_n hx hb dX3_touches_14 rfl (lv_at hl 1 rfl) ?_
    obtain ⟨j2, ej2, hinj2, h⟩ := ga_x h
    refine a_il X hH 2 rfl hinj2 ej2 dX3_touches_15 ?_
    refine lv_iload_n hx hb dX3_touches_16 rfl (lv_at hl 2 rfl) ?_
    refine lv_icmp_ne (tgt := 24) hx hb dX3_touches_17 (by decide) (fun c2 => ?_) (fun c2 => ?_)
    · have h := ie_x h c2
      refine lv_iconst (v := (0 : Int32)) hx hb dX3_touches_24 (by decide) ?_
      have h := Option.some.inj h
      subst h
      exact e_z X hH (Or.inl rfl) dX3_touches_25
    · have h := it_x h c2
      exact pX3_touches_20 X   H locs ls h hH (lv_sub hl [0, 1, 2] rfl)

def fX3_otherEnd (xs : SX3) (pa : Int32) (pb : Int32) : Option Int32 :=
  ga 11 pa fun j1 =>
  (if ((n_first xs) j1) = pb then
  ga 11 pa fun j3 =>
  some ((n_second xs) j3)
  else
  ga 11 pa fun j2 =>
  some ((n_first xs) j2))
set_option maxHeartbeats 4000000 in
set_option maxRecDepth 100000 in
theorem uX3_otherEnd {l : Launch} {g : GG} {a : Nat → Nat} {i : Nat} {xs : SX3} {pa : Int32} {pb : Int32} {o : Int32} (h : fX3_otherEnd xs pa pb = some o) : mC l g yX3_otherEnd cX3_otherEnd 3 (some .int) (rM 0 0) [.ref (a i), .int pa, .int pb] (wX3 g a i xs) (wX3 g a i xs) (some (.int o)) := by
  refine mC.ofW (by decide) (fun p e s m below meth c X hH ls _ hl => ?_) (Nat.le_of_ble_eq_true rfl)
  have hx := X.1
  have hb := X.2.1
  have hl : lv_has ls 3 [(0, .ref (a i)), (1, .int pa), (2, .int pb)] := hl
  unfold fX3_otherEnd at h
  suffices HH : ∀ (H : Heap) (locs : List Loc), mH g s (wX3 g a i xs) (wX3 g a i xs) H locs → W p l e (rM 0 0) s m _ below meth c H locs 0 0 (mZ g below _ s (wX3 g a i xs) (wX3 g a i xs) (some (.int o))) (F0 m 0 ls []) from HH _ _ hH
  clear hH
  intro H locs hH
  refine lv_aload_n hx hb dX3_otherEnd_0 rfl (lv_at hl 0 rfl) ?_
  refine f_get X hH 0 rfl rfl 2 (by decide) inX3 fX3_18 rfl dX3_otherEnd_1 ?_
  refine lv_iload_n hx hb dX3_otherEnd_4 rfl (lv_at hl 1 rfl) ?_
  obtain ⟨j1, ej1, hinj1, h⟩ := ga_x h
  refine a_il X hH 1 rfl hinj1 ej1 dX3_otherEnd_5 ?_
  refine lv_iload_n hx hb dX3_otherEnd_6 rfl (lv_at hl 2 rfl) ?_
  refine lv_icmp_ne (tgt := 19) hx hb dX3_otherEnd_7 (by decide) (fun c1 => ?_) (fun c1 => ?_)
  · have h := ie_x h c1
    refine lv_aload_n hx hb dX3_otherEnd_19 rfl (lv_at hl 0 rfl) ?_
    refine f_get X hH 0 rfl rfl 2 (by decide) inX3 fX3_18 rfl dX3_otherEnd_20 ?_
    refine lv_iload_n hx hb dX3_otherEnd_23 rfl (lv_at hl 1 rfl) ?_
    obtain ⟨j2, ej2, hinj2, h⟩ := ga_x h
    refine a_il X hH 1 rfl hinj2 ej2 dX3_otherEnd_24 ?_
    have h := Option.some.inj h
    subst h
    exact e_i X hH dX3_otherEnd_25
  · have h := it_x h c1
    refine lv_aload_n hx hb dX3_otherEnd_10 rfl (lv_at hl 0 rfl) ?_
    refine f_get X hH 0 rfl rfl 3 (by decide) inX3 fX3_22 rfl dX3_otherEnd_11 ?_
    refine lv_iload_n hx hb dX3_otherEnd_14 rfl (lv_at hl 1 rfl) ?_
    obtain ⟨j3, ej3, hinj3, h⟩ := ga_x h
    refine a_il X hH 2 rfl hinj3 ej3 dX3_otherEnd_15 ?_
    refine lv_goto (tgt := 25) hx hb dX3_otherEnd_16 (by decide) ?_
    have h := Option.some.inj h
    subst h
    exact e_i X hH dX3_otherEnd_25

def qX0_aheadOf_59 (xt : SX3) (pa : Int32) (pb : Int32) (pc_ : Int32) (k7 : SX0 → Int32 → Option SX0) (xs : SX0) (l5 : Int32) : Option SX0 :=
  ltt (l5 + (1 : Int32)) fun v1 =>
  k7 xs v1
def qX0_aheadOf_7 (xt : SX3) (pa : Int32) (pb : Int32) (pc_ : Int32)  : Nat → SX0 → Int32 → Option SX0
  | 0, _, _ => none
  | fu + 1, xs, l5 =>
  (if (n_ways xt) ≤ l5 then
  (fX0_solve xs xt pa pb).bind fun o2 =>
  some o2
  else
  (fX8_has pa l5).bind fun o3 =>
  (if o3 = (0 : Int32) then
  qX0_aheadOf_59 xt pa pb pc_ (qX0_aheadOf_7 xt pa pb pc_  fu) xs l5
  else
  (fX3_touches xt l5 pc_).bind fun o4 =>
  (if o4 = (0 : Int32) then
  qX0_aheadOf_59 xt pa pb pc_ (qX0_aheadOf_7 xt pa pb pc_  fu) xs l5
  else
  (fX3_otherEnd xt l5 pc_).bind fun o5 =>
  ga 6 o5 fun j1 =>
  (fX3_weight xt l5).bind fun o6 =>
  ltt ((((eq_due xs) j1) + (o6.toInt64))) fun v2 =>
  ga 6 o5 fun j2 =>
  ltt ((eq_due_s xs (vp_updL (eq_due xs) j2 v2))) fun xs1 =>
  qX0_aheadOf_59 xt pa pb pc_ (qX0_aheadOf_7 xt pa pb pc_  fu) xs1 l5)))
def fX0_aheadOf (xs : SX0) (xt : SX3) (pa : Int32) (pb : Int32) (pc_ : Int32) : Option SX0 :=
  (fX0_nothingIsDue xs).bind fun o1 =>
  qX0_aheadOf_7 xt pa pb pc_ FU o1 (0 : Int32)
set_option maxHeartbeats 4000000 in
set_option maxRecDepth 100000 in
theorem pX0_aheadOf_59 {p : Program} {l : Launch} {e : Env} {s : State} {m : MethodId} {args : Array Value} {below : List Frame} {meth : Method} {c : Code} {g : GG} {w0 : va_W} {a : Nat → Nat} {i : Nat} {b : Nat → Nat} {j : Nat} {xt : SX3} {pa : Int32} {pb : Int32} {pc_ : Int32} {o : SX0} (X : mX g yX0_aheadOf cX0_aheadOf 6 none p s m args meth c w0)
  {k7 : SX0 → Int32 → Option SX0} (K7 : ∀ (xs : SX0) (l5 : Int32) (H : Heap) (locs : List Loc) (ls : Array Slot), k7 xs l5 = some o → mH g s w0 ((wX0 g a i xs) ++ (wX3 g b j xt)) H locs → lv_has ls 6 [(0, .ref (a i)), (1, .ref (b j)), (2, .int pa), (3, .int pb), (4, .int pc_), (5, .int l5)] → W p l e (rM 3 76) s m args below meth c H locs 0 0 (mZ g below args s w0 ((wX0 g a i o) ++ (wX3 g b j xt)) none) (F0 m 7 ls [])) :
  ∀ (xs : SX0) (l5 : Int32) (H : Heap) (locs : List Loc) (ls : Array Slot), qX0_aheadOf_59 xt pa pb pc_ k7 xs l5 = some o → mH g s w0 ((wX0 g a i xs) ++ (wX3 g b j xt)) H locs → lv_has ls 6 [(0, .ref (a i)), (1, .ref (b j)), (2, .int pa), (3, .int pb), (4, .int pc_), (5, .int l5)] → W p l e (rM 3 76) s m args below meth c H locs 0 0 (mZ g below args s w0 ((wX0 g a i o) ++ (wX3 g b j xt)) none) (F0 m 59 ls []) := by
  have hx := X.1
  have hb := X.2.1
  intro xs l5 H locs ls h hH hl
  unfold qX0_aheadOf_59 at h
  obtain ⟨v1, ev1, h⟩ := ltt_x h
  refine s_inc X (k := 5) (lv' := [(5, .int v1), (0, .ref (a i)), (1, .ref (b j)), (2, .int pa), (3, .int pb), (4, .int pc_)]) hl rfl (by rw [ev1]; rfl) dX0_aheadOf_59 (by decide) rfl (fun ls hl => ?_)
  refine lv_goto (tgt := 7) hx hb dX0_aheadOf_62 (by decide) ?_
  exact K7 xs v1 H locs ls h hH (lv_sub hl [1, 2, 3, 4, 5, 0] rfl)
set_option maxHeartbeats 4000000 in
set_option maxRecDepth 100000 in
theorem pX0_aheadOf_7 {p : Program} {l : Launch} {e : Env} {s : State} {m : MethodId} {args : Array Value} {below : List Frame} {meth : Method} {c : Code} {g : GG} {w0 : va_W} {a : Nat → Nat} {i : Nat} {b : Nat → Nat} {j : Nat} {xt : SX3} {pa : Int32} {pb : Int32} {pc_ : Int32} {o : SX0} (X : mX g yX0_aheadOf cX0_aheadOf 6 none p s m args meth c w0) :
  ∀ (fu : Nat) (xs : SX0) (l5 : Int32) (H : Heap) (locs : List Loc) (ls : Array Slot), qX0_aheadOf_7 xt pa pb pc_ fu xs l5 = some o → mH g s w0 ((wX0 g a i xs) ++ (wX3 g b j xt)) H locs → lv_has ls 6 [(0, .ref (a i)), (1, .ref (b j)), (2, .int pa), (3, .int pb), (4, .int pc_), (5, .int l5)] → W p l e (rM 3 76) s m args below meth c H locs 0 0 (mZ g below args s w0 ((wX0 g a i o) ++ (wX3 g b j xt)) none) (F0 m 7 ls []) := by
  have hx := X.1
  have hb := X.2.1
  intro fu
  induction fu with
  | zero =>
    intro xs l5 H locs ls h
    unfold qX0_aheadOf_7 at h
    cases h
  | succ fu ih =>
    intro xs l5 H locs ls h hH hl
    unfold qX0_aheadOf_7 at h
    refine lv_iload hx hb dX0_aheadOf_7 (lv_at hl 5 rfl) ?_
    refine lv_aload_n hx hb dX0_aheadOf_9 rfl (lv_at hl 1 rfl) ?_
    refine f_get X hH 11 rfl rfl 1 (by decide) inX3 fX0_38 rfl dX0_aheadOf_10 ?_
    refine lv_icmp_ge (tgt := 65) hx hb dX0_aheadOf_13 (by decide) (fun c1 => ?_) (fun c1 => ?_)
    · have h := it_x h c1
      refine lv_aload_n hx hb dX0_aheadOf_65 rfl (lv_at hl 0 rfl) ?_
      refine lv_aload_n hx hb dX0_aheadOf_66 rfl (lv_at hl 1 rfl) ?_
      refine lv_iload_n hx hb dX0_aheadOf_67 rfl (lv_at hl 2 rfl) ?_
      refine lv_iload_n hx hb dX0_aheadOf_68 rfl (lv_at hl 3 rfl) ?_
      obtain ⟨o2, ho2, h⟩ := bd_x h
      refine r_V X hH (ws1 := ((wX0 g a i o2) ++ (wX3 g b j xt))) (As := [.ref (b j), .int pa, .int pb]) (rest := []) (st1 := []) (uX0_solve (a := a) (i := i) (b := b) (j := j) ho2) kX0_solve mX0_60 iX0_solve vX0_solve zX0 okX0_solve ⟨Nat.le_of_ble_eq_true rfl, Nat.le_of_ble_eq_true rfl⟩ rfl rfl (q0 := 0) rfl rfl (pm_all _) (pm_all _) rfl hl.1 rfl (Nat.le_of_ble_eq_true rfl) ⟨Nat.le_refl 0, Nat.le_refl 0⟩ rfl dX0_aheadOf_69 (fun H locs hH => ?_)
      have h := Option.some.inj h
      subst h
      exact e_v X hH dX0_aheadOf_72
    · have h := ie_x h c1
      refine lv_iload_n hx hb dX0_aheadOf_16 rfl (lv_at hl 2 rfl) ?_
      refine lv_iload hx hb dX0_aheadOf_17 (lv_at hl 5 rfl) ?_
      obtain ⟨o3, ho3, h⟩ := bd_x h
      refine r_SN X hH (ws1 := ((wX0 g a i xs) ++ (wX3 g b j xt))) (As := [.int pa, .int l5]) (rest := []) (st1 := [.int o3]) (uX8_has  ho3) kX8_has nnX0_43 sX8_has zX8 okX8_has ⟨Nat.le_of_ble_eq_true rfl, Nat.le_of_ble_eq_true rfl⟩ rfl rfl (pm_none _) (pm_none _) rfl hl.1 rfl (Nat.le_of_ble_eq_true rfl) ⟨Nat.le_refl 0, Nat.le_refl 0⟩ rfl dX0_aheadOf_19 (fun H locs hH => ?_)
      refine lv_if_eq (tgt := 59) hx hb dX0_aheadOf_22 (by decide) (fun c2 => ?_) (fun c2 => ?_)
      · have h := it_x h c2
        exact pX0_aheadOf_59 X ih xs l5 H locs ls h hH (lv_sub hl [0, 1, 2, 3, 4, 5] rfl)
      · have h := ie_x h c2
        refine lv_aload_n hx hb dX0_aheadOf_25 rfl (lv_at hl 1 rfl) ?_
        refine lv_iload hx hb dX0_aheadOf_26 (lv_at hl 5 rfl) ?_
        refine lv_iload hx hb dX0_aheadOf_28 (lv_at hl 4 rfl) ?_
        obtain ⟨o4, ho4, h⟩ := bd_x h
        refine r_V X hH (ws1 := ((wX0 g a i xs) ++ (wX3 g b j xt))) (As := [.int l5, .int pc_]) (rest := []) (st1 := [.int o4]) (uX3_touches (a := b) (i := j) ho4) kX3_touches mX0_64 iX3_touches vX3_touches zX3 okX3_touches ⟨Nat.le_of_ble_eq_true rfl, Nat.le_of_ble_eq_true rfl⟩ rfl rfl (q0 := 11) rfl rfl (pm_s (pm_all _)) (pm_s (pm_all _)) rfl hl.1 rfl (Nat.le_of_ble_eq_true rfl) ⟨Nat.le_refl 0, Nat.le_refl 0⟩ rfl dX0_aheadOf_30 (fun H locs hH => ?_)
        refine lv_if_eq (tgt := 59) hx hb dX0_aheadOf_33 (by decide) (fun c3 => ?_) (fun c3 => ?_)
        · have h := it_x h c3
          exact pX0_aheadOf_59 X ih xs l5 H locs ls h hH (lv_sub hl [0, 1, 2, 3, 4, 5] rfl)
        · have h := ie_x h c3
          refine lv_aload_n hx hb dX0_aheadOf_36 rfl (lv_at hl 0 rfl) ?_
          refine f_get X hH 0 rfl rfl 4 (by decide) inX0 fX0_28 rfl dX0_aheadOf_37 ?_
          refine lv_aload_n hx hb dX0_aheadOf_40 rfl (lv_at hl 1 rfl) ?_
          refine lv_iload hx hb dX0_aheadOf_41 (lv_at hl 5 rfl) ?_
          refine lv_iload hx hb dX0_aheadOf_43 (lv_at hl 4 rfl) ?_
          obtain ⟨o5, ho5, h⟩ := bd_x h
          refine r_V X hH (ws1 := ((wX0 g a i xs) ++ (wX3 g b j xt))) (As := [.int l5, .int pc_]) (rest := [.ref (a (i + 10))]) (st1 := [.int o5, .ref (a (i + 10))]) (uX3_otherEnd (a := b) (i := j) ho5) kX3_otherEnd mX0_67 iX3_otherEnd vX3_otherEnd zX3 okX3_otherEnd ⟨Nat.le_of_ble_eq_true rfl, Nat.le_of_ble_eq_true rfl⟩ rfl rfl (q0 := 11) rfl rfl (pm_s (pm_all _)) (pm_s (pm_all _)) rfl hl.1 rfl (Nat.le_of_ble_eq_true rfl) ⟨Nat.le_refl 0, Nat.le_refl 0⟩ rfl dX0_aheadOf_45 (fun H locs hH => ?_)
          refine lv_dup2_11 hx hb dX0_aheadOf_48 rfl rfl ?_
          obtain ⟨j1, ej1, hinj1, h⟩ := ga_x h
          refine a_ll X hH 10 rfl hinj1 ej1 dX0_aheadOf_49 ?_
          refine lv_aload_n hx hb dX0_aheadOf_50 rfl (lv_at hl 1 rfl) ?_
          refine lv_iload hx hb dX0_aheadOf_51 (lv_at hl 5 rfl) ?_
          obtain ⟨o6, ho6, h⟩ := bd_x h
          refine r_V X hH (ws1 := ((wX0 g a i xs) ++ (wX3 g b j xt))) (As := [.int l5]) (rest := [.long ((eq_due xs) j1), .int o5, .ref (a (i + 10))]) (st1 := [.int o6, .long ((eq_due xs) j1), .int o5, .ref (a (i + 10))]) (uX3_weight (a := b) (i := j) ho6) kX3_weight mX0_47 iX3_weight vX3_weight zX3 okX3_weight ⟨Nat.le_of_ble_eq_true rfl, Nat.le_of_ble_eq_true rfl⟩ rfl rfl (q0 := 11) rfl rfl (pm_s (pm_all _)) (pm_s (pm_all _)) rfl hl.1 rfl (Nat.le_of_ble_eq_true rfl) ⟨Nat.le_refl 0, Nat.le_refl 0⟩ rfl dX0_aheadOf_53 (fun H locs hH => ?_)
          refine lv_i2l hx hb dX0_aheadOf_56 rfl ?_
          refine lv_ladd hx hb dX0_aheadOf_57 ?_
          obtain ⟨v2, ev2, h⟩ := ltt_x h
          refine lv_topl (fun y0 e0 => ?_)
          rw [← ev2] at e0
          subst y0
          obtain ⟨j2, ej2, hinj2, h⟩ := ga_x h
          obtain ⟨xs1, exs1, h⟩ := ltt_x h
          refine a_ls X hH (ws1 := ((wX0 g a i xs1) ++ (wX3 g b j xt))) 10 rfl hinj2 ej2 (by rw [exs1]; rfl) dX0_aheadOf_58 (fun H locs hH => ?_)
          exact pX0_aheadOf_59 X ih xs1 l5 H locs ls h hH (lv_sub hl [0, 1, 2, 3, 4, 5] rfl)
set_option maxHeartbeats 4000000 in
set_option maxRecDepth 100000 in
theorem uX0_aheadOf {l : Launch} {g : GG} {a : Nat → Nat} {i : Nat} {b : Nat → Nat} {j : Nat} {xs : SX0} {xt : SX3} {pa : Int32} {pb : Int32} {pc_ : Int32} {o : SX0} (h : fX0_aheadOf xs xt pa pb pc_ = some o) : mC l g yX0_aheadOf cX0_aheadOf 6 none (rM 3 76) [.ref (a i), .ref (b j), .int pa, .int pb, .int pc_] ((wX0 g a i xs) ++ (wX3 g b j xt)) ((wX0 g a i o) ++ (wX3 g b j xt)) none := by
  refine mC.ofW (by decide) (fun p e s m below meth c X hH ls _ hl => ?_) (Nat.le_of_ble_eq_true rfl)
  have hx := X.1
  have hb := X.2.1
  have hl : lv_has ls 6 [(0, .ref (a i)), (1, .ref (b j)), (2, .int pa), (3, .int pb), (4, .int pc_)] := hl
  unfold fX0_aheadOf at h
  suffices HH : ∀ (H : Heap) (locs : List Loc), mH g s ((wX0 g a i xs) ++ (wX3 g b j xt)) ((wX0 g a i xs) ++ (wX3 g b j xt)) H locs → W p l e (rM 3 76) s m _ below meth c H locs 0 0 (mZ g below _ s ((wX0 g a i xs) ++ (wX3 g b j xt)) ((wX0 g a i o) ++ (wX3 g b j xt)) none) (F0 m 0 ls []) from HH _ _ hH
  clear hH
  intro H locs hH
  refine lv_aload_n hx hb dX0_aheadOf_0 rfl (lv_at hl 0 rfl) ?_
  obtain ⟨o1, ho1, h⟩ := bd_x h
  refine r_V X hH (ws1 := ((wX0 g a i o1) ++ (wX3 g b j xt))) (As := []) (rest := []) (st1 := []) (uX0_nothingIsDue (a := a) (i := i) ho1) kX0_nothingIsDue mX0_35 iX0_nothingIsDue vX0_nothingIsDue zX0 okX0_nothingIsDue ⟨Nat.le_of_ble_eq_true rfl, Nat.le_of_ble_eq_true rfl⟩ rfl rfl (q0 := 0) rfl rfl (pm_0 _ _) (pm_0 _ _) rfl hl.1 rfl (Nat.le_of_ble_eq_true rfl) ⟨Nat.le_refl 0, Nat.le_refl 0⟩ rfl dX0_aheadOf_1 (fun H locs hH => ?_)
  refine lv_iconst (v := (0 : Int32)) hx hb dX0_aheadOf_4 (by decide) ?_
  refine s_i X (lv' := [(5, .int (0 : Int32)), (0, .ref (a i)), (1, .ref (b j)), (2, .int pa), (3, .int pb), (4, .int pc_)]) hl rfl dX0_aheadOf_5 (by decide) rfl (fun ls hl => ?_)
  exact pX0_aheadOf_7 X FU o1 (0 : Int32) H locs ls h hH (lv_sub hl [1, 2, 3, 4, 5, 0] rfl)

def qX1_make_29 (pa : Int32) (pb : Int32)  : Nat → SX1 → Int32 → Option (Int32 × SX1)
  | 0, _, _ => none
  | fu + 1, xs, l3 =>
  (if pb ≤ l3 then
  ga 3 pa fun j1 =>
  ltt ((li_sizes_s xs (upd (li_sizes xs) j1 pb))) fun xs1 =>
  some ((1 : Int32), xs1)
  else
  ga 3 pa fun j2 =>
  ga 20 l3 fun j3 =>
  ltt ((li_rows_s xs (va_up (li_rows xs) j2 (vp_updL ((li_rows xs) j2) j3 (0 : Int64))))) fun xs2 =>
  ltt (l3 + (1 : Int32)) fun v1 =>
  qX1_make_29 pa pb  fu xs2 v1)
def fX1_make (xs : SX1) (pa : Int32) (pb : Int32) : Option (Int32 × SX1) :=
  (if pa < (0 : Int32) then
  some ((-1 : Int32), xs)
  else
  (if pa < (3 : Int32) then
  (if pb ≤ (20 : Int32) then
  (if (0 : Int32) ≤ pb then
  qX1_make_29 pa pb FU xs (0 : Int32)
  else
  some ((-14 : Int32), xs))
  else
  some ((-6 : Int32), xs))
  else
  some ((-1 : Int32), xs)))
set_option maxHeartbeats 4000000 in
set_option maxRecDepth 100000 in
theorem pX1_make_29 {p : Program} {l : Launch} {e : Env} {s : State} {m : MethodId} {args : Array Value} {below : List Frame} {meth : Method} {c : Code} {g : GG} {w0 : va_W} {a : Nat → Nat} {i : Nat} {pa : Int32} {pb : Int32} {o : (Int32 × SX1)} (X : mX g yX1_make cX1_make 4 (some .int) p s m args meth c w0) :
  ∀ (fu : Nat) (xs : SX1) (l3 : Int32) (H : Heap) (locs : List Loc) (ls : Array Slot), qX1_make_29 pa pb fu xs l3 = some o → mH g s w0 (wX1 g a i xs) H locs → lv_has ls 4 [(0, .ref (a i)), (1, .int pa), (2, .int pb), (3, .int l3)] → W p l e (rM 0 0) s m args below meth c H locs 0 0 (mZ g below args s w0 (wX1 g a i o.2) (some (.int o.1))) (F0 m 29 ls []) := by
  have hx := X.1
  have hb := X.2.1
  intro fu
  induction fu with
  | zero =>
    intro xs l3 H locs ls h
    unfold qX1_make_29 at h
    cases h
  | succ fu ih =>
    intro xs l3 H locs ls h hH hl
    unfold qX1_make_29 at h
    refine lv_iload_n hx hb dX1_make_29 rfl (lv_at hl 3 rfl) ?_
    refine lv_iload_n hx hb dX1_make_30 rfl (lv_at hl 2 rfl) ?_
    refine lv_icmp_ge (tgt := 49) hx hb dX1_make_31 (by decide) (fun c5 => ?_) (fun c5 => ?_)
    · have h := it_x h c5
      refine lv_aload_n hx hb dX1_make_49 rfl (lv_at hl 0 rfl) ?_
      refine f_get X hH 0 rfl rfl 1 (by decide) inX1 fX1_16 rfl dX1_make_50 ?_
      refine lv_iload_n hx hb dX1_make_53 rfl (lv_at hl 1 rfl) ?_
      refine lv_iload_n hx hb dX1_make_54 rfl (lv_at hl 2 rfl) ?_
      obtain ⟨j1, ej1, hinj1, h⟩ := ga_x h
      obtain ⟨xs1, exs1, h⟩ := ltt_x h
      refine a_is X hH (ws1 := (wX1 g a i xs1)) 5 rfl hinj1 ej1 (by rw [exs1]; rfl) dX1_make_55 (fun H locs hH => ?_)
      refine lv_iconst (v := (1 : Int32)) hx hb dX1_make_56 (by decide) ?_
      have h := Option.some.inj h
      subst h
      exact e_i X hH dX1_make_57
    · have h := ie_x h c5
      refine lv_aload_n hx hb dX1_make_34 rfl (lv_at hl 0 rfl) ?_
      refine f_get X hH 0 rfl rfl 0 (by decide) inX1 fX1_11 rfl dX1_make_35 ?_
      refine lv_iload_n hx hb dX1_make_38 rfl (lv_at hl 1 rfl) ?_
      obtain ⟨j2, ej2, hinj2, h⟩ := ga_x h
      have hltj2 : j2 < 3 := by rw [ej2]; exact vp_lt hinj2
      refine a_al X hH (v := .ref (a (i + 2 + j2))) 1 4 rfl rfl hinj2 ej2 (rf_in hltj2) dX1_make_39 ?_
      refine lv_iload_n hx hb dX1_make_40 rfl (lv_at hl 3 rfl) ?_
      refine lv_lconst (v := (0 : Int64)) hx hb dX1_make_41 (by decide) ?_
      obtain ⟨j3, ej3, hinj3, h⟩ := ga_x h
      obtain ⟨xs2, exs2, h⟩ := ltt_x h
      have hwxs2 := co_3 (P := fun jj => ((wX1 g a i xs)).set (2 + jj) (a (i + 2 + jj), .inl (g.2.1 1, 20, .inr (.inl (vp_updL ((li_rows xs) jj) j3 (0 : Int64))))) = (wX1 g a i (li_rows_s xs (va_up (li_rows xs) jj (vp_updL ((li_rows xs) jj) j3 (0 : Int64)))))) rfl rfl rfl hltj2
      refine a_ls X hH (ws1 := (wX1 g a i xs2)) (2 + j2) (co_3 (P := fun jj => ((wX1 g a i xs))[2 + jj]? = some (a (i + 2 + jj), .inl (g.2.1 1, 20, .inr (.inl ((li_rows xs) jj))))) rfl rfl rfl hltj2) hinj3 ej3 (hwxs2.trans (by rw [exs2])) dX1_make_42 (fun H locs hH => ?_)
      obtain ⟨v1, ev1, h⟩ := ltt_x h
      refine s_inc X (k := 3) (lv' := [(3, .int v1), (0, .ref (a i)), (1, .int pa), (2, .int pb)]) hl rfl (by rw [ev1]; rfl) dX1_make_43 (by decide) rfl (fun ls hl => ?_)
      refine lv_goto (tgt := 29) hx hb dX1_make_46 (by decide) ?_
      exact ih xs2 v1 H locs ls h hH (lv_sub hl [1, 2, 3, 0] rfl)
set_option maxHeartbeats 4000000 in
set_option maxRecDepth 100000 in
theorem uX1_make {l : Launch} {g : GG} {a : Nat → Nat} {i : Nat} {xs : SX1} {pa : Int32} {pb : Int32} {o : (Int32 × SX1)} (h : fX1_make xs pa pb = some o) : mC l g yX1_make cX1_make 4 (some .int) (rM 0 0) [.ref (a i), .int pa, .int pb] (wX1 g a i xs) (wX1 g a i o.2) (some (.int o.1)) := by
  refine mC.ofW (by decide) (fun p e s m below meth c X hH ls _ hl => ?_) (Nat.le_of_ble_eq_true rfl)
  have hx := X.1
  have hb := X.2.1
  have hl : lv_has ls 4 [(0, .ref (a i)), (1, .int pa), (2, .int pb)] := hl
  unfold fX1_make at h
  suffices HH : ∀ (H : Heap) (locs : List Loc), mH g s (wX1 g a i xs) (wX1 g a i xs) H locs → W p l e (rM 0 0) s m _ below meth c H locs 0 0 (mZ g below _ s (wX1 g a i xs) (wX1 g a i o.2) (some (.int o.1))) (F0 m 0 ls []) from HH _ _ hH
  clear hH
  intro H locs hH
  refine lv_iload_n hx hb dX1_make_0 rfl (lv_at hl 1 rfl) ?_
  refine lv_if_lt (tgt := 9) hx hb dX1_make_1 (by decide) (fun c1 => ?_) (fun c1 => ?_)
  · have h := it_x h c1
    refine lv_iconst (v := (-1 : Int32)) hx hb dX1_make_9 (by decide) ?_
    have h := Option.some.inj h
    subst h
    exact e_i X hH dX1_make_10
  · have h := ie_x h c1
    refine lv_iload_n hx hb dX1_make_4 rfl (lv_at hl 1 rfl) ?_
    refine lv_iconst (v := (3 : Int32)) hx hb dX1_make_5 (by decide) ?_
    refine lv_icmp_lt (tgt := 11) hx hb dX1_make_6 (by decide) (fun c2 => ?_) (fun c2 => ?_)
    · have h := it_x h c2
      refine lv_iload_n hx hb dX1_make_11 rfl (lv_at hl 2 rfl) ?_
      refine lv_bipush (v := (20 : Int32)) hx hb dX1_make_12 (by decide) ?_
      refine lv_icmp_le (tgt := 20) hx hb dX1_make_14 (by decide) (fun c3 => ?_) (fun c3 => ?_)
      · have h := it_x h c3
        refine lv_iload_n hx hb dX1_make_20 rfl (lv_at hl 2 rfl) ?_
        refine lv_if_ge (tgt := 27) hx hb dX1_make_21 (by decide) (fun c4 => ?_) (fun c4 => ?_)
        · have h := it_x h c4
          refine lv_iconst (v := (0 : Int32)) hx hb dX1_make_27 (by decide) ?_
          refine s_in X (lv' := [(3, .int (0 : Int32)), (0, .ref (a i)), (1, .int pa), (2, .int pb)]) hl rfl dX1_make_28 rfl (by decide) rfl (fun ls hl => ?_)
          exact pX1_make_29 X FU xs (0 : Int32) H locs ls h hH (lv_sub hl [1, 2, 3, 0] rfl)
        · have h := ie_x h c4
          refine lv_bipush (v := (-14 : Int32)) hx hb dX1_make_24 (by decide) ?_
          have h := Option.some.inj h
          subst h
          exact e_i X hH dX1_make_26
      · have h := ie_x h c3
        refine lv_bipush (v := (-6 : Int32)) hx hb dX1_make_17 (by decide) ?_
        have h := Option.some.inj h
        subst h
        exact e_i X hH dX1_make_19
    · have h := ie_x h c2
      refine lv_iconst (v := (-1 : Int32)) hx hb dX1_make_9 (by decide) ?_
      have h := Option.some.inj h
      subst h
      exact e_i X hH dX1_make_10

def fX1_refusalOf (xs : SX1) (pa : Int32) : Option Int32 :=
  (if pa < (0 : Int32) then
  some (-1 : Int32)
  else
  (if pa < (3 : Int32) then
  ga 3 pa fun j1 =>
  (if (0 : Int32) ≤ ((li_sizes xs) j1) then
  some (0 : Int32)
  else
  some (-11 : Int32))
  else
  some (-1 : Int32)))
set_option maxHeartbeats 4000000 in
set_option maxRecDepth 100000 in
theorem uX1_refusalOf {l : Launch} {g : GG} {a : Nat → Nat} {i : Nat} {xs : SX1} {pa : Int32} {o : Int32} (h : fX1_refusalOf xs pa = some o) : mC l g yX1_refusalOf cX1_refusalOf 2 (some .int) (rM 0 0) [.ref (a i), .int pa] (wX1 g a i xs) (wX1 g a i xs) (some (.int o)) := by
  refine mC.ofW (by decide) (fun p e s m below meth c X hH ls _ hl => ?_) (Nat.le_of_ble_eq_true rfl)
  have hx := X.1
  have hb := X.2.1
  have hl : lv_has ls 2 [(0, .ref (a i)), (1, .int pa)] := hl
  unfold fX1_refusalOf at h
  suffices HH : ∀ (H : Heap) (locs : List Loc), mH g s (wX1 g a i xs) (wX1 g a i xs) H locs → W p l e (rM 0 0) s m _ below meth c H locs 0 0 (mZ g below _ s (wX1 g a i xs) (wX1 g a i xs) (some (.int o))) (F0 m 0 ls []) from HH _ _ hH
  clear hH
  intro H locs hH
  refine lv_iload_n hx hb dX1_refusalOf_0 rfl (lv_at hl 1 rfl) ?_
  refine lv_if_lt (tgt := 9) hx hb dX1_refusalOf_1 (by decide) (fun c1 => ?_) (fun c1 => ?_)
  · have h := it_x h c1
    refine lv_iconst (v := (-1 : Int32)) hx hb dX1_refusalOf_9 (by decide) ?_
    have h := Option.some.inj h
    subst h
    exact e_i X hH dX1_refusalOf_10
  · have h := ie_x h c1
    refine lv_iload_n hx hb dX1_refusalOf_4 rfl (lv_at hl 1 rfl) ?_
    refine lv_iconst (v := (3 : Int32)) hx hb dX1_refusalOf_5 (by decide) ?_
    refine lv_icmp_lt (tgt := 11) hx hb dX1_refusalOf_6 (by decide) (fun c2 => ?_) (fun c2 => ?_)
    · have h := it_x h c2
      refine lv_aload_n hx hb dX1_refusalOf_11 rfl (lv_at hl 0 rfl) ?_
      refine f_get X hH 0 rfl rfl 1 (by decide) inX1 fX1_16 rfl dX1_refusalOf_12 ?_
      refine lv_iload_n hx hb dX1_refusalOf_15 rfl (lv_at hl 1 rfl) ?_
      obtain ⟨j1, ej1, hinj1, h⟩ := ga_x h
      refine a_il X hH 5 rfl hinj1 ej1 dX1_refusalOf_16 ?_
      refine lv_if_ge (tgt := 25) hx hb dX1_refusalOf_17 (by decide) (fun c3 => ?_) (fun c3 => ?_)
      · have h := it_x h c3
        refine lv_iconst (v := (0 : Int32)) hx hb dX1_refusalOf_25 (by decide) ?_
        have h := Option.some.inj h
        subst h
        exact e_i X hH dX1_refusalOf_26
      · have h := ie_x h c3
        refine lv_bipush (v := (-11 : Int32)) hx hb dX1_refusalOf_20 (by decide) ?_
        refine lv_goto (tgt := 26) hx hb dX1_refusalOf_22 (by decide) ?_
        have h := Option.some.inj h
        subst h
        exact e_i X hH dX1_refusalOf_26
    · have h := ie_x h c2
      refine lv_iconst (v := (-1 : Int32)) hx hb dX1_refusalOf_9 (by decide) ?_
      have h := Option.some.inj h
      subst h
      exact e_i X hH dX1_refusalOf_10

def fX1_hasPlace (xs : SX1) (pa : Int32) (pb : Int32) : Option Int32 :=
  (if pb < (0 : Int32) then
  some (0 : Int32)
  else
  ga 3 pa fun j1 =>
  (if ((li_sizes xs) j1) ≤ pb then
  some (0 : Int32)
  else
  some (1 : Int32)))
set_option maxHeartbeats 4000000 in
set_option maxRecDepth 100000 in
theorem uX1_hasPlace {l : Launch} {g : GG} {a : Nat → Nat} {i : Nat} {xs : SX1} {pa : Int32} {pb : Int32} {o : Int32} (h : fX1_hasPlace xs pa pb = some o) : mC l g yX1_hasPlace cX1_hasPlace 3 (some .boolean) (rM 0 0) [.ref (a i), .int pa, .int pb] (wX1 g a i xs) (wX1 g a i xs) (some (.int o)) := by
  refine mC.ofW (by decide) (fun p e s m below meth c X hH ls _ hl => ?_) (Nat.le_of_ble_eq_true rfl)
  have hx := X.1
  have hb := X.2.1
  have hl : lv_has ls 3 [(0, .ref (a i)), (1, .int pa), (2, .int pb)] := hl
  unfold fX1_hasPlace at h
  suffices HH : ∀ (H : Heap) (locs : List Loc), mH g s (wX1 g a i xs) (wX1 g a i xs) H locs → W p l e (rM 0 0) s m _ below meth c H locs 0 0 (mZ g below _ s (wX1 g a i xs) (wX1 g a i xs) (some (.int o))) (F0 m 0 ls []) from HH _ _ hH
  clear hH
  intro H locs hH
  refine lv_iload_n hx hb dX1_hasPlace_0 rfl (lv_at hl 2 rfl) ?_
  refine lv_if_lt (tgt := 18) hx hb dX1_hasPlace_1 (by decide) (fun c1 => ?_) (fun c1 => ?_)
  · have h := it_x h c1
    refine lv_iconst (v := (0 : Int32)) hx hb dX1_hasPlace_18 (by decide) ?_
    have h := Option.some.inj h
    subst h
    exact e_z X hH (Or.inl rfl) dX1_hasPlace_19
  · have h := ie_x h c1
    refine lv_iload_n hx hb dX1_hasPlace_4 rfl (lv_at hl 2 rfl) ?_
    refine lv_aload_n hx hb dX1_hasPlace_5 rfl (lv_at hl 0 rfl) ?_
    refine f_get X hH 0 rfl rfl 1 (by decide) inX1 fX1_16 rfl dX1_hasPlace_6 ?_
    refine lv_iload_n hx hb dX1_hasPlace_9 rfl (lv_at hl 1 rfl) ?_
    obtain ⟨j1, ej1, hinj1, h⟩ := ga_x h
    refine a_il X hH 5 rfl hinj1 ej1 dX1_hasPlace_10 ?_
    refine lv_icmp_ge (tgt := 18) hx hb dX1_hasPlace_11 (by decide) (fun c2 => ?_) (fun c2 => ?_)
    · have h := it_x h c2
      refine lv_iconst (v := (0 : Int32)) hx hb dX1_hasPlace_18 (by decide) ?_
      have h := Option.some.inj h
      subst h
      exact e_z X hH (Or.inl rfl) dX1_hasPlace_19
    · have h := ie_x h c2
      refine lv_iconst (v := (1 : Int32)) hx hb dX1_hasPlace_14 (by decide) ?_
      refine lv_goto (tgt := 19) hx hb dX1_hasPlace_15 (by decide) ?_
      have h := Option.some.inj h
      subst h
      exact e_z X hH (Or.inr rfl) dX1_hasPlace_19

def fX1_refusalOf_ (xs : SX1) (pa : Int32) (pb : Int32) : Option Int32 :=
  (fX1_refusalOf xs pa).bind fun o1 =>
  (if o1 = (0 : Int32) then
  (fX1_hasPlace xs pa pb).bind fun o2 =>
  (if o2 = (0 : Int32) then
  some (-13 : Int32)
  else
  some (0 : Int32))
  else
  some o1)
set_option maxHeartbeats 4000000 in
set_option maxRecDepth 100000 in
theorem uX1_refusalOf_ {l : Launch} {g : GG} {a : Nat → Nat} {i : Nat} {xs : SX1} {pa : Int32} {pb : Int32} {o : Int32} (h : fX1_refusalOf_ xs pa pb = some o) : mC l g yX1_refusalOf_ cX1_refusalOf_ 4 (some .int) (rM 1 22) [.ref (a i), .int pa, .int pb] (wX1 g a i xs) (wX1 g a i xs) (some (.int o)) := by
  refine mC.ofW (by decide) (fun p e s m below meth c X hH ls _ hl => ?_) (Nat.le_of_ble_eq_true rfl)
  have hx := X.1
  have hb := X.2.1
  have hl : lv_has ls 4 [(0, .ref (a i)), (1, .int pa), (2, .int pb)] := hl
  unfold fX1_refusalOf_ at h
  suffices HH : ∀ (H : Heap) (locs : List Loc), mH g s (wX1 g a i xs) (wX1 g a i xs) H locs → W p l e (rM 1 22) s m _ below meth c H locs 0 0 (mZ g below _ s (wX1 g a i xs) (wX1 g a i xs) (some (.int o))) (F0 m 0 ls []) from HH _ _ hH
  clear hH
  intro H locs hH
  refine lv_aload_n hx hb dX1_refusalOf__0 rfl (lv_at hl 0 rfl) ?_
  refine lv_iload_n hx hb dX1_refusalOf__1 rfl (lv_at hl 1 rfl) ?_
  obtain ⟨o1, ho1, h⟩ := bd_x h
  refine r_V X hH (ws1 := (wX1 g a i xs)) (As := [.int pa]) (rest := []) (st1 := [.int o1]) (uX1_refusalOf (a := a) (i := i) ho1) kX1_refusalOf mX1_20 iX1_refusalOf vX1_refusalOf zX1 okX1_refusalOf ⟨Nat.le_of_ble_eq_true rfl, Nat.le_of_ble_eq_true rfl⟩ rfl rfl (q0 := 0) rfl rfl (pm_all _) (pm_all _) rfl hl.1 rfl (Nat.le_of_ble_eq_true rfl) ⟨Nat.le_refl 0, Nat.le_refl 0⟩ rfl dX1_refusalOf__2 (fun H locs hH => ?_)
  refine s_in X (lv' := [(3, .int o1), (0, .ref (a i)), (1, .int pa), (2, .int pb)]) hl rfl dX1_refusalOf__5 rfl (by decide) rfl (fun ls hl => ?_)
  refine lv_iload_n hx hb dX1_refusalOf__6 rfl (lv_at hl 0 rfl) ?_
  refine lv_if_eq (tgt := 12) hx hb dX1_refusalOf__7 (by decide) (fun c1 => ?_) (fun c1 => ?_)
  · have h := it_x h c1
    refine lv_aload_n hx hb dX1_refusalOf__12 rfl (lv_at hl 1 rfl) ?_
    refine lv_iload_n hx hb dX1_refusalOf__13 rfl (lv_at hl 2 rfl) ?_
    refine lv_iload_n hx hb dX1_refusalOf__14 rfl (lv_at hl 3 rfl) ?_
    obtain ⟨o2, ho2, h⟩ := bd_x h
    refine r_V X hH (ws1 := (wX1 g a i xs)) (As := [.int pa, .int pb]) (rest := []) (st1 := [.int o2]) (uX1_hasPlace (a := a) (i := i) ho2) kX1_hasPlace mX1_24 iX1_hasPlace vX1_hasPlace zX1 okX1_hasPlace ⟨Nat.le_of_ble_eq_true rfl, Nat.le_of_ble_eq_true rfl⟩ rfl rfl (q0 := 0) rfl rfl (pm_all _) (pm_all _) rfl hl.1 rfl (Nat.le_of_ble_eq_true rfl) ⟨Nat.le_refl 0, Nat.le_refl 0⟩ rfl dX1_refusalOf__15 (fun H locs hH => ?_)
    refine lv_if_eq (tgt := 25) hx hb dX1_refusalOf__18 (by decide) (fun c2 => ?_) (fun c2 => ?_)
    · have h := it_x h c2
      refine lv_bipush (v := (-13 : Int32)) hx hb dX1_refusalOf__25 (by decide) ?_
      have h := Option.some.inj h
      subst h
      exact e_i X hH dX1_refusalOf__27
    · have h := ie_x h c2
      refine lv_iconst (v := (0 : Int32)) hx hb dX1_refusalOf__21 (by decide) ?_
      refine lv_goto (tgt := 27) hx hb dX1_refusalOf__22 (by decide) ?_
      have h := Option.some.inj h
      subst h
      exact e_i X hH dX1_refusalOf__27
  · have h := ie_x h c1
    refine lv_iload_n hx hb dX1_refusalOf__10 rfl (lv_at hl 0 rfl) ?_
    have h := Option.some.inj h
    subst h
    exact e_i X hH dX1_refusalOf__11

def qX3_weightsAt_29 (xs : SX3) (pa : Int32) (k4 : Int32 → Int32 → Option Int32) (l2 : Int32) (l3 : Int32) : Option Int32 :=
  ltt (l3 + (1 : Int32)) fun v1 =>
  k4 l2 v1
def qX3_weightsAt_4 (xs : SX3) (pa : Int32)  : Nat → Int32 → Int32 → Option Int32
  | 0, _, _ => none
  | fu + 1, l2, l3 =>
  (if (n_ways xs) ≤ l3 then
  some l2
  else
  (fX3_touches xs l3 pa).bind fun o1 =>
  (if o1 = (0 : Int32) then
  qX3_weightsAt_29 xs pa (qX3_weightsAt_4 xs pa  fu) l2 l3
  else
  (fX3_weight xs l3).bind fun o2 =>
  ltt ((l2 + o2)) fun v2 =>
  qX3_weightsAt_29 xs pa (qX3_weightsAt_4 xs pa  fu) v2 l3))
def fX3_weightsAt (xs : SX3) (pa : Int32) : Option Int32 :=
  qX3_weightsAt_4 xs pa FU (0 : Int32) (0 : Int32)
set_option maxHeartbeats 4000000 in
set_option maxRecDepth 100000 in
theorem pX3_weightsAt_29 {p : Program} {l : Launch} {e : Env} {s : State} {m : MethodId} {args : Array Value} {below : List Frame} {meth : Method} {c : Code} {g : GG} {w0 : va_W} {a : Nat → Nat} {i : Nat} {xs : SX3} {pa : Int32} {o : Int32} (X : mX g yX3_weightsAt cX3_weightsAt 4 (some .int) p s m args meth c w0)
  {k4 : Int32 → Int32 → Option Int32} (K4 : ∀ (l2 : Int32) (l3 : Int32) (H : Heap) (locs : List Loc) (ls : Array Slot), k4 l2 l3 = some o → mH g s w0 (wX3 g a i xs) H locs → lv_has ls 4 [(0, .ref (a i)), (1, .int pa), (2, .int l2), (3, .int l3)] → W p l e (rM 2 43) s m args below meth c H locs 0 0 (mZ g below args s w0 (wX3 g a i xs) (some (.int o))) (F0 m 4 ls [])) :
  ∀ (l2 : Int32) (l3 : Int32) (H : Heap) (locs : List Loc) (ls : Array Slot), qX3_weightsAt_29 xs pa k4 l2 l3 = some o → mH g s w0 (wX3 g a i xs) H locs → lv_has ls 4 [(0, .ref (a i)), (1, .int pa), (2, .int l2), (3, .int l3)] → W p l e (rM 2 43) s m args below meth c H locs 0 0 (mZ g below args s w0 (wX3 g a i xs) (some (.int o))) (F0 m 29 ls []) := by
  have hx := X.1
  have hb := X.2.1
  intro l2 l3 H locs ls h hH hl
  unfold qX3_weightsAt_29 at h
  obtain ⟨v1, ev1, h⟩ := ltt_x h
  refine s_inc X (k := 3) (lv' := [(3, .int v1), (0, .ref (a i)), (1, .int pa), (2, .int l2)]) hl rfl (by rw [ev1]; rfl) dX3_weightsAt_29 (by decide) rfl (fun ls hl => ?_)
  refine lv_goto (tgt := 4) hx hb dX3_weightsAt_32 (by decide) ?_
  exact K4 l2 v1 H locs ls h hH (lv_sub hl [1, 2, 3, 0] rfl)
set_option maxHeartbeats 4000000 in
set_option maxRecDepth 100000 in
theorem pX3_weightsAt_4 {p : Program} {l : Launch} {e : Env} {s : State} {m : MethodId} {args : Array Value} {below : List Frame} {meth : Method} {c : Code} {g : GG} {w0 : va_W} {a : Nat → Nat} {i : Nat} {xs : SX3} {pa : Int32} {o : Int32} (X : mX g yX3_weightsAt cX3_weightsAt 4 (some .int) p s m args meth c w0) :
  ∀ (fu : Nat) (l2 : Int32) (l3 : Int32) (H : Heap) (locs : List Loc) (ls : Array Slot), qX3_weightsAt_4 xs pa fu l2 l3 = some o → mH g s w0 (wX3 g a i xs) H locs → lv_has ls 4 [(0, .ref (a i)), (1, .int pa), (2, .int l2), (3, .int l3)] → W p l e (rM 2 43) s m args below meth c H locs 0 0 (mZ g below args s w0 (wX3 g a i xs) (some (.int o))) (F0 m 4 ls []) := by
  have hx := X.1
  have hb := X.2.1
  intro fu
  induction fu with
  | zero =>
    intro l2 l3 H locs ls h
    unfold qX3_weightsAt_4 at h
    cases h
  | succ fu ih =>
    intro l2 l3 H locs ls h hH hl
    unfold qX3_weightsAt_4 at h
    refine lv_iload_n hx hb dX3_weightsAt_4 rfl (lv_at hl 3 rfl) ?_
    refine lv_aload_n hx hb dX3_weightsAt_5 rfl (lv_at hl 0 rfl) ?_
    refine f_get X hH 0 rfl rfl 1 (by decide) inX3 fX3_15 rfl dX3_weightsAt_6 ?_
    refine lv_icmp_ge (tgt := 35) hx hb dX3_weightsAt_9 (by decide) (fun c1 => ?_) (fun c1 => ?_)
    · have h := it_x h c1
      refine lv_iload_n hx hb dX3_weightsAt_35 rfl (lv_at hl 2 rfl) ?_
      have h := Option.some.inj h
      subst h
      exact e_i X hH dX3_weightsAt_36
    · have h := ie_x h c1
      refine lv_aload_n hx hb dX3_weightsAt_12 rfl (lv_at hl 0 rfl) ?_
      refine lv_iload_n hx hb dX3_weightsAt_13 rfl (lv_at hl 3 rfl) ?_
      refine lv_iload_n hx hb dX3_weightsAt_14 rfl (lv_at hl 1 rfl) ?_
      obtain ⟨o1, ho1, h⟩ := bd_x h
      refine r_V X hH (ws1 := (wX3 g a i xs)) (As := [.int l3, .int pa]) (rest := []) (st1 := [.int o1]) (uX3_touches (a := a) (i := i) ho1) kX3_touches mX3_44 iX3_touches vX3_touches zX3 okX3_touches ⟨Nat.le_of_ble_eq_true rfl, Nat.le_of_ble_eq_true rfl⟩ rfl rfl (q0 := 0) rfl rfl (pm_all _) (pm_all _) rfl hl.1 rfl (Nat.le_of_ble_eq_true rfl) ⟨Nat.le_refl 0, Nat.le_refl 0⟩ rfl dX3_weightsAt_15 (fun H locs hH => ?_)
      refine lv_if_eq (tgt := 29) hx hb dX3_weightsAt_18 (by decide) (fun c2 => ?_) (fun c2 => ?_)
      · have h := it_x h c2
        exact pX3_weightsAt_29 X ih l2 l3 H locs ls h hH (lv_sub hl [0, 1, 2, 3] rfl)
      · have h := ie_x h c2
        refine lv_iload_n hx hb dX3_weightsAt_21 rfl (lv_at hl 2 rfl) ?_
        refine lv_aload_n hx hb dX3_weightsAt_22 rfl (lv_at hl 0 rfl) ?_
        refine lv_iload_n hx hb dX3_weightsAt_23 rfl (lv_at hl 3 rfl) ?_
        obtain ⟨o2, ho2, h⟩ := bd_x h
        refine r_V X hH (ws1 := (wX3 g a i xs)) (As := [.int l3]) (rest := [.int l2]) (st1 := [.int o2, .int l2]) (uX3_weight (a := a) (i := i) ho2) kX3_weight mX3_48 iX3_weight vX3_weight zX3 okX3_weight ⟨Nat.le_of_ble_eq_true rfl, Nat.le_of_ble_eq_true rfl⟩ rfl rfl (q0 := 0) rfl rfl (pm_all _) (pm_all _) rfl hl.1 rfl (Nat.le_of_ble_eq_true rfl) ⟨Nat.le_refl 0, Nat.le_refl 0⟩ rfl dX3_weightsAt_24 (fun H locs hH => ?_)
        refine lv_iadd hx hb dX3_weightsAt_27 ?_
        obtain ⟨v2, ev2, h⟩ := ltt_x h
        refine s_in X (lv' := [(2, .int v2), (0, .ref (a i)), (1, .int pa), (3, .int l3)]) hl ev2 dX3_weightsAt_28 rfl (by decide) rfl (fun ls hl => ?_)
        exact pX3_weightsAt_29 X ih v2 l3 H locs ls h hH (lv_sub hl [1, 2, 0, 3] rfl)
set_option maxHeartbeats 4000000 in
set_option maxRecDepth 100000 in
theorem uX3_weightsAt {l : Launch} {g : GG} {a : Nat → Nat} {i : Nat} {xs : SX3} {pa : Int32} {o : Int32} (h : fX3_weightsAt xs pa = some o) : mC l g yX3_weightsAt cX3_weightsAt 4 (some .int) (rM 2 43) [.ref (a i), .int pa] (wX3 g a i xs) (wX3 g a i xs) (some (.int o)) := by
  refine mC.ofW (by decide) (fun p e s m below meth c X hH ls _ hl => ?_) (Nat.le_of_ble_eq_true rfl)
  have hx := X.1
  have hb := X.2.1
  have hl : lv_has ls 4 [(0, .ref (a i)), (1, .int pa)] := hl
  unfold fX3_weightsAt at h
  suffices HH : ∀ (H : Heap) (locs : List Loc), mH g s (wX3 g a i xs) (wX3 g a i xs) H locs → W p l e (rM 2 43) s m _ below meth c H locs 0 0 (mZ g below _ s (wX3 g a i xs) (wX3 g a i xs) (some (.int o))) (F0 m 0 ls []) from HH _ _ hH
  clear hH
  intro H locs hH
  refine lv_iconst (v := (0 : Int32)) hx hb dX3_weightsAt_0 (by decide) ?_
  refine s_in X (lv' := [(2, .int (0 : Int32)), (0, .ref (a i)), (1, .int pa)]) hl rfl dX3_weightsAt_1 rfl (by decide) rfl (fun ls hl => ?_)
  refine lv_iconst (v := (0 : Int32)) hx hb dX3_weightsAt_2 (by decide) ?_
  refine s_in X (lv' := [(3, .int (0 : Int32)), (2, .int (0 : Int32)), (0, .ref (a i)), (1, .int pa)]) hl rfl dX3_weightsAt_3 rfl (by decide) rfl (fun ls hl => ?_)
  exact pX3_weightsAt_4 X FU (0 : Int32) (0 : Int32) H locs ls h hH (lv_sub hl [2, 3, 1, 0] rfl)

def qX3_layWeights_2 (xs : SX3)  : Nat → (Nat → Int32) → Int32 → Option ((Nat → Int32))
  | 0, _, _ => none
  | fu + 1, xt, l2 =>
  (if (n_points xs) ≤ l2 then
  some xt
  else
  (if (6 : Int32) ≤ l2 then
  some xt
  else
  (fX3_weightsAt xs l2).bind fun o1 =>
  ga 6 l2 fun j1 =>
  ltt ((upd xt j1 o1)) fun xt1 =>
  ltt (l2 + (1 : Int32)) fun v1 =>
  qX3_layWeights_2 xs  fu xt1 v1))
def fX3_layWeights (xs : SX3) (xt : Nat → Int32) : Option ((Nat → Int32)) :=
  qX3_layWeights_2 xs FU xt (0 : Int32)
set_option maxHeartbeats 4000000 in
set_option maxRecDepth 100000 in
theorem pX3_layWeights_2 {p : Program} {l : Launch} {e : Env} {s : State} {m : MethodId} {args : Array Value} {below : List Frame} {meth : Method} {c : Code} {g : GG} {w0 : va_W} {a : Nat → Nat} {i : Nat} {b : Nat → Nat} {xs : SX3} {o : ((Nat → Int32))} (X : mX g yX3_layWeights cX3_layWeights 3 none p s m args meth c w0) :
  ∀ (fu : Nat) (xt : Nat → Int32) (l2 : Int32) (H : Heap) (locs : List Loc) (ls : Array Slot), qX3_layWeights_2 xs fu xt l2 = some o → mH g s w0 ((wX3 g a i xs) ++ [(b 0, .inl (g.2.1 0, 6, .inl (xt)))]) H locs → lv_has ls 3 [(0, .ref (a i)), (1, .ref (b 0)), (2, .int l2)] → W p l e (rM 3 66) s m args below meth c H locs 0 0 (mZ g below args s w0 ((wX3 g a i xs) ++ [(b 0, .inl (g.2.1 0, 6, .inl (o)))]) none) (F0 m 2 ls []) := by
  have hx := X.1
  have hb := X.2.1
  intro fu
  induction fu with
  | zero =>
    intro xt l2 H locs ls h
    unfold qX3_layWeights_2 at h
    cases h
  | succ fu ih =>
    intro xt l2 H locs ls h hH hl
    unfold qX3_layWeights_2 at h
    refine lv_iload_n hx hb dX3_layWeights_2 rfl (lv_at hl 2 rfl) ?_
    refine lv_aload_n hx hb dX3_layWeights_3 rfl (lv_at hl 0 rfl) ?_
    refine f_get X hH 0 rfl rfl 0 (by decide) inX3 fX3_9 rfl dX3_layWeights_4 ?_
    refine lv_icmp_ge (tgt := 30) hx hb dX3_layWeights_7 (by decide) (fun c1 => ?_) (fun c1 => ?_)
    · have h := it_x h c1
      have h := Option.some.inj h
      subst h
      exact e_v X hH dX3_layWeights_30
    · have h := ie_x h c1
      refine lv_iload_n hx hb dX3_layWeights_10 rfl (lv_at hl 2 rfl) ?_
      refine lv_aload_n hx hb dX3_layWeights_11 rfl (lv_at hl 1 rfl) ?_
      refine a_len X hH (v := (6 : Int32)) 7 0 rfl rfl rfl dX3_layWeights_12 ?_
      refine lv_icmp_ge (tgt := 30) hx hb dX3_layWeights_13 (by decide) (fun c2 => ?_) (fun c2 => ?_)
      · have h := it_x h c2
        have h := Option.some.inj h
        subst h
        exact e_v X hH dX3_layWeights_30
      · have h := ie_x h c2
        refine lv_aload_n hx hb dX3_layWeights_16 rfl (lv_at hl 1 rfl) ?_
        refine lv_iload_n hx hb dX3_layWeights_17 rfl (lv_at hl 2 rfl) ?_
        refine lv_aload_n hx hb dX3_layWeights_18 rfl (lv_at hl 0 rfl) ?_
        refine lv_iload_n hx hb dX3_layWeights_19 rfl (lv_at hl 2 rfl) ?_
        obtain ⟨o1, ho1, h⟩ := bd_x h
        refine r_V X hH (ws1 := ((wX3 g a i xs) ++ [(b 0, .inl (g.2.1 0, 6, .inl (xt)))])) (As := [.int l2]) (rest := [.int l2, .ref (b 0)]) (st1 := [.int o1, .int l2, .ref (b 0)]) (uX3_weightsAt (a := a) (i := i) ho1) kX3_weightsAt mX3_52 iX3_weightsAt vX3_weightsAt zX3 okX3_weightsAt ⟨Nat.le_of_ble_eq_true rfl, Nat.le_of_ble_eq_true rfl⟩ rfl rfl (q0 := 0) rfl rfl (pm_0 _ _) (pm_0 _ _) rfl hl.1 rfl (Nat.le_of_ble_eq_true rfl) ⟨Nat.le_refl 0, Nat.le_refl 0⟩ rfl dX3_layWeights_20 (fun H locs hH => ?_)
        obtain ⟨j1, ej1, hinj1, h⟩ := ga_x h
        obtain ⟨xt1, ext1, h⟩ := ltt_x h
        refine a_is X hH (ws1 := ((wX3 g a i xs) ++ [(b 0, .inl (g.2.1 0, 6, .inl (xt1)))])) 7 rfl hinj1 ej1 (by rw [ext1]; rfl) dX3_layWeights_23 (fun H locs hH => ?_)
        obtain ⟨v1, ev1, h⟩ := ltt_x h
        refine s_inc X (k := 2) (lv' := [(2, .int v1), (0, .ref (a i)), (1, .ref (b 0))]) hl rfl (by rw [ev1]; rfl) dX3_layWeights_24 (by decide) rfl (fun ls hl => ?_)
        refine lv_goto (tgt := 2) hx hb dX3_layWeights_27 (by decide) ?_
        exact ih xt1 v1 H locs ls h hH (lv_sub hl [1, 2, 0] rfl)
set_option maxHeartbeats 4000000 in
set_option maxRecDepth 100000 in
theorem uX3_layWeights {l : Launch} {g : GG} {a : Nat → Nat} {i : Nat} {b : Nat → Nat} {xs : SX3} {xt : Nat → Int32} {o : ((Nat → Int32))} (h : fX3_layWeights xs xt = some o) : mC l g yX3_layWeights cX3_layWeights 3 none (rM 3 66) [.ref (a i), .ref (b 0)] ((wX3 g a i xs) ++ [(b 0, .inl (g.2.1 0, 6, .inl (xt)))]) ((wX3 g a i xs) ++ [(b 0, .inl (g.2.1 0, 6, .inl (o)))]) none := by
  refine mC.ofW (by decide) (fun p e s m below meth c X hH ls _ hl => ?_) (Nat.le_of_ble_eq_true rfl)
  have hx := X.1
  have hb := X.2.1
  have hl : lv_has ls 3 [(0, .ref (a i)), (1, .ref (b 0))] := hl
  unfold fX3_layWeights at h
  suffices HH : ∀ (H : Heap) (locs : List Loc), mH g s ((wX3 g a i xs) ++ [(b 0, .inl (g.2.1 0, 6, .inl (xt)))]) ((wX3 g a i xs) ++ [(b 0, .inl (g.2.1 0, 6, .inl (xt)))]) H locs → W p l e (rM 3 66) s m _ below meth c H locs 0 0 (mZ g below _ s ((wX3 g a i xs) ++ [(b 0, .inl (g.2.1 0, 6, .inl (xt)))]) ((wX3 g a i xs) ++ [(b 0, .inl (g.2.1 0, 6, .inl (o)))]) none) (F0 m 0 ls []) from HH _ _ hH
  clear hH
  intro H locs hH
  refine lv_iconst (v := (0 : Int32)) hx hb dX3_layWeights_0 (by decide) ?_
  refine s_in X (lv' := [(2, .int (0 : Int32)), (0, .ref (a i)), (1, .ref (b 0))]) hl rfl dX3_layWeights_1 rfl (by decide) rfl (fun ls hl => ?_)
  exact pX3_layWeights_2 X FU xt (0 : Int32) H locs ls h hH (lv_sub hl [1, 2, 0] rfl)

def fX2_begin (xs : SX2) (xt : SX3) (pa : Int32) : Option SX2 :=
  ltt ((lo_seed_s xs pa)) fun xs1 =>
  (fX3_layWeights xt (lo_weights xs1)).bind fun o1 =>
  ltt ((lo_weights_s xs1 o1)) fun xs2 =>
  some xs2
set_option maxHeartbeats 4000000 in
set_option maxRecDepth 100000 in
theorem uX2_begin {l : Launch} {g : GG} {a : Nat → Nat} {i : Nat} {b : Nat → Nat} {j : Nat} {xs : SX2} {xt : SX3} {pa : Int32} {o : SX2} (h : fX2_begin xs xt pa = some o) : mC l g yX2_begin cX2_begin 3 none (rM 4 88) [.ref (a i), .ref (b j), .int pa] ((wX2 g a i xs) ++ (wX3 g b j xt)) ((wX2 g a i o) ++ (wX3 g b j xt)) none := by
  refine mC.ofW (by decide) (fun p e s m below meth c X hH ls _ hl => ?_) (Nat.le_of_ble_eq_true rfl)
  have hx := X.1
  have hb := X.2.1
  have hl : lv_has ls 3 [(0, .ref (a i)), (1, .ref (b j)), (2, .int pa)] := hl
  unfold fX2_begin at h
  suffices HH : ∀ (H : Heap) (locs : List Loc), mH g s ((wX2 g a i xs) ++ (wX3 g b j xt)) ((wX2 g a i xs) ++ (wX3 g b j xt)) H locs → W p l e (rM 4 88) s m _ below meth c H locs 0 0 (mZ g below _ s ((wX2 g a i xs) ++ (wX3 g b j xt)) ((wX2 g a i o) ++ (wX3 g b j xt)) none) (F0 m 0 ls []) from HH _ _ hH
  clear hH
  intro H locs hH
  refine lv_aload_n hx hb dX2_begin_0 rfl (lv_at hl 0 rfl) ?_
  refine lv_iload_n hx hb dX2_begin_1 rfl (lv_at hl 2 rfl) ?_
  obtain ⟨xs1, exs1, h⟩ := ltt_x h
  refine f_put X hH (ws1 := ((wX2 g a i xs1) ++ (wX3 g b j xt))) 0 rfl rfl 0 (by decide) inX2 tyX2 tyX2_ok nmX2 fX2_9 rfl rfl rfl (Nat.le_of_ble_eq_true rfl) (by rw [exs1]; rfl) dX2_begin_2 (fun H locs hH => ?_)
  refine lv_aload_n hx hb dX2_begin_5 rfl (lv_at hl 1 rfl) ?_
  refine lv_aload_n hx hb dX2_begin_6 rfl (lv_at hl 0 rfl) ?_
  refine f_get X hH 0 rfl rfl 1 (by decide) inX2 fX2_15 rfl dX2_begin_7 ?_
  obtain ⟨o1, ho1, h⟩ := bd_x h
  obtain ⟨xs2, exs2, h⟩ := ltt_x h
  refine r_V X hH (ws1 := ((wX2 g a i xs2) ++ (wX3 g b j xt))) (As := [.ref (a (i + 1))]) (rest := []) (st1 := []) (uX3_layWeights (a := b) (i := j) (b := (fun _ => (a (i + 1)))) ho1) kX3_layWeights mX2_19 iX3_layWeights vX3_layWeights zX3 okX3_layWeights ⟨Nat.le_of_ble_eq_true rfl, Nat.le_of_ble_eq_true rfl⟩ rfl rfl (q0 := 2) rfl rfl (pm_2 (pm_s (pm_all _)) (pm_in (pm_0 _ _) bX2_1)) (by rw [exs2]; exact (pm_2 (pm_s (pm_all _)) (pm_in (pm_0 _ _) bX2_1))) rfl hl.1 rfl (Nat.le_of_ble_eq_true rfl) ⟨Nat.le_refl 0, Nat.le_refl 0⟩ rfl dX2_begin_10 (fun H locs hH => ?_)
  have h := Option.some.inj h
  subst h
  exact e_v X hH dX2_begin_13

def fX2_draw (xs : SX2) (pa : Int32) : Option (Int32 × SX2) :=
  ltt ((((lo_seed xs) * (1664525 : Int32)) + (1013904223 : Int32))) fun v1 =>
  ltt ((lo_seed_s xs v1)) fun xs1 =>
  ltt ((((lo_seed xs1) &&& (2147483647 : Int32)) / (256 : Int32))) fun v2 =>
  (if (0 : Int32) < pa then
  gz (pa) <|
  some ((v2 - v2 / pa * pa), xs1)
  else
  some ((0 : Int32), xs1))
set_option maxHeartbeats 4000000 in
set_option maxRecDepth 100000 in
theorem uX2_draw {l : Launch} {g : GG} {a : Nat → Nat} {i : Nat} {xs : SX2} {pa : Int32} {o : (Int32 × SX2)} (h : fX2_draw xs pa = some o) : mC l g yX2_draw cX2_draw 3 (some .int) (rM 0 0) [.ref (a i), .int pa] (wX2 g a i xs) (wX2 g a i o.2) (some (.int o.1)) := by
  refine mC.ofW (by decide) (fun p e s m below meth c X hH ls _ hl => ?_) (Nat.le_of_ble_eq_true rfl)
  have hx := X.1
  have hb := X.2.1
  have hl : lv_has ls 3 [(0, .ref (a i)), (1, .int pa)] := hl
  unfold fX2_draw at h
  suffices HH : ∀ (H : Heap) (locs : List Loc), mH g s (wX2 g a i xs) (wX2 g a i xs) H locs → W p l e (rM 0 0) s m _ below meth c H locs 0 0 (mZ g below _ s (wX2 g a i xs) (wX2 g a i o.2) (some (.int o.1))) (F0 m 0 ls []) from HH _ _ hH
  clear hH
  intro H locs hH
  refine lv_aload_n hx hb dX2_draw_0 rfl (lv_at hl 0 rfl) ?_
  refine lv_aload_n hx hb dX2_draw_1 rfl (lv_at hl 0 rfl) ?_
  refine f_get X hH 0 rfl rfl 0 (by decide) inX2 fX2_9 rfl dX2_draw_2 ?_
  refine lv_ldc hx hb X.2.2.2.2.1 (X.2.2.2.2.2.1 _ nX2_40) dX2_draw_5 ?_
  refine lv_imul hx hb dX2_draw_7 ?_
  refine lv_ldc hx hb X.2.2.2.2.1 (X.2.2.2.2.2.1 _ nX2_41) dX2_draw_8 ?_
  refine lv_iadd hx hb dX2_draw_10 ?_
  obtain ⟨v1, ev1, h⟩ := ltt_x h
  refine lv_topi (fun y0 e0 => ?_)
  rw [← ev1] at e0
  subst y0
  obtain ⟨xs1, exs1, h⟩ := ltt_x h
  refine f_put X hH (ws1 := (wX2 g a i xs1)) 0 rfl rfl 0 (by decide) inX2 tyX2 tyX2_ok nmX2 fX2_9 rfl rfl rfl (Nat.le_of_ble_eq_true rfl) (by rw [exs1]; rfl) dX2_draw_11 (fun H locs hH => ?_)
  refine lv_aload_n hx hb dX2_draw_14 rfl (lv_at hl 0 rfl) ?_
  refine f_get X hH 0 rfl rfl 0 (by decide) inX2 fX2_9 rfl dX2_draw_15 ?_
  refine lv_ldc hx hb X.2.2.2.2.1 (X.2.2.2.2.2.1 _ nX2_42) dX2_draw_18 ?_
  refine lv_iand hx hb dX2_draw_20 ?_
  refine lv_sipush (v := (256 : Int32)) hx hb dX2_draw_21 (by decide) ?_
  refine lv_idiv hx hb dX2_draw_24 (by decide) ?_
  obtain ⟨v2, ev2, h⟩ := ltt_x h
  refine s_in X (lv' := [(2, .int v2), (0, .ref (a i)), (1, .int pa)]) hl ev2 dX2_draw_25 rfl (by decide) rfl (fun ls hl => ?_)
  refine lv_iload_n hx hb dX2_draw_26 rfl (lv_at hl 2 rfl) ?_
  refine lv_if_gt (tgt := 34) hx hb dX2_draw_27 (by decide) (fun c1 => ?_) (fun c1 => ?_)
  · have h := it_x h c1
    refine lv_iload_n hx hb dX2_draw_34 rfl (lv_at hl 0 rfl) ?_
    refine lv_iload_n hx hb dX2_draw_35 rfl (lv_at hl 2 rfl) ?_
    obtain ⟨z1, h⟩ := gz_x h
    refine lv_irem hx hb dX2_draw_36 z1 ?_
    have h := Option.some.inj h
    subst h
    exact e_i X hH dX2_draw_37
  · have h := ie_x h c1
    refine lv_iconst (v := (0 : Int32)) hx hb dX2_draw_30 (by decide) ?_
    refine lv_goto (tgt := 37) hx hb dX2_draw_31 (by decide) ?_
    have h := Option.some.inj h
    subst h
    exact e_i X hH dX2_draw_37

def qX2_wayBy_41 (xs : SX3) (pa : Int32) (pb : Int32) (k5 : Int32 → Int32 → Option Int32) (l3 : Int32) (l4 : Int32) : Option Int32 :=
  ltt (l4 + (1 : Int32)) fun v1 =>
  k5 l3 v1
def qX2_wayBy_5 (xs : SX3) (pa : Int32) (pb : Int32)  : Nat → Int32 → Int32 → Option Int32
  | 0, _, _ => none
  | fu + 1, l3, l4 =>
  (if (n_ways xs) ≤ l4 then
  some (0 : Int32)
  else
  (fX3_touches xs l4 pa).bind fun o1 =>
  (if o1 = (0 : Int32) then
  qX2_wayBy_41 xs pa pb (qX2_wayBy_5 xs pa pb  fu) l3 l4
  else
  (fX3_weight xs l4).bind fun o2 =>
  ltt ((l3 + o2)) fun v2 =>
  (if v2 ≤ pb then
  qX2_wayBy_41 xs pa pb (qX2_wayBy_5 xs pa pb  fu) v2 l4
  else
  some l4)))
def fX2_wayBy (xs : SX3) (pa : Int32) (pb : Int32) : Option Int32 :=
  qX2_wayBy_5 xs pa pb FU (0 : Int32) (0 : Int32)
set_option maxHeartbeats 4000000 in
set_option maxRecDepth 100000 in
theorem pX2_wayBy_41 {p : Program} {l : Launch} {e : Env} {s : State} {m : MethodId} {args : Array Value} {below : List Frame} {meth : Method} {c : Code} {g : GG} {w0 : va_W} {a : Nat → Nat} {i : Nat} {xs : SX3} {pa : Int32} {pb : Int32} {o : Int32} (X : mX g yX2_wayBy cX2_wayBy 5 (some .int) p s m args meth c w0)
  {k5 : Int32 → Int32 → Option Int32} (K5 : ∀ (l3 : Int32) (l4 : Int32) (H : Heap) (locs : List Loc) (ls : Array Slot), k5 l3 l4 = some o → mH g s w0 (wX3 g a i xs) H locs → lv_has ls 5 [(0, .ref (a i)), (1, .int pa), (2, .int pb), (3, .int l3), (4, .int l4)] → W p l e (rM 2 43) s m args below meth c H locs 0 0 (mZ g below args s w0 (wX3 g a i xs) (some (.int o))) (F0 m 5 ls [])) :
  ∀ (l3 : Int32) (l4 : Int32) (H : Heap) (locs : List Loc) (ls : Array Slot), qX2_wayBy_41 xs pa pb k5 l3 l4 = some o → mH g s w0 (wX3 g a i xs) H locs → lv_has ls 5 [(0, .ref (a i)), (1, .int pa), (2, .int pb), (3, .int l3), (4, .int l4)] → W p l e (rM 2 43) s m args below meth c H locs 0 0 (mZ g below args s w0 (wX3 g a i xs) (some (.int o))) (F0 m 41 ls []) := by
  have hx := X.1
  have hb := X.2.1
  intro l3 l4 H locs ls h hH hl
  unfold qX2_wayBy_41 at h
  obtain ⟨v1, ev1, h⟩ := ltt_x h
  refine s_inc X (k := 4) (lv' := [(4, .int v1), (0, .ref (a i)), (1, .int pa), (2, .int pb), (3, .int l3)]) hl rfl (by rw [ev1]; rfl) dX2_wayBy_41 (by decide) rfl (fun ls hl => ?_)
  refine lv_goto (tgt := 5) hx hb dX2_wayBy_44 (by decide) ?_
  exact K5 l3 v1 H locs ls h hH (lv_sub hl [1, 2, 3, 4, 0] rfl)
set_option maxHeartbeats 4000000 in
set_option maxRecDepth 100000 in
theorem pX2_wayBy_5 {p : Program} {l : Launch} {e : Env} {s : State} {m : MethodId} {args : Array Value} {below : List Frame} {meth : Method} {c : Code} {g : GG} {w0 : va_W} {a : Nat → Nat} {i : Nat} {xs : SX3} {pa : Int32} {pb : Int32} {o : Int32} (X : mX g yX2_wayBy cX2_wayBy 5 (some .int) p s m args meth c w0) :
  ∀ (fu : Nat) (l3 : Int32) (l4 : Int32) (H : Heap) (locs : List Loc) (ls : Array Slot), qX2_wayBy_5 xs pa pb fu l3 l4 = some o → mH g s w0 (wX3 g a i xs) H locs → lv_has ls 5 [(0, .ref (a i)), (1, .int pa), (2, .int pb), (3, .int l3), (4, .int l4)] → W p l e (rM 2 43) s m args below meth c H locs 0 0 (mZ g below args s w0 (wX3 g a i xs) (some (.int o))) (F0 m 5 ls []) := by
  have hx := X.1
  have hb := X.2.1
  intro fu
  induction fu with
  | zero =>
    intro l3 l4 H locs ls h
    unfold qX2_wayBy_5 at h
    cases h
  | succ fu ih =>
    intro l3 l4 H locs ls h hH hl
    unfold qX2_wayBy_5 at h
    refine lv_iload hx hb dX2_wayBy_5 (lv_at hl 4 rfl) ?_
    refine lv_aload_n hx hb dX2_wayBy_7 rfl (lv_at hl 0 rfl) ?_
    refine f_get X hH 0 rfl rfl 1 (by decide) inX3 fX2_43 rfl dX2_wayBy_8 ?_
    refine lv_icmp_ge (tgt := 47) hx hb dX2_wayBy_11 (by decide) (fun c1 => ?_) (fun c1 => ?_)
    · have h := it_x h c1
      refine lv_iconst (v := (0 : Int32)) hx hb dX2_wayBy_47 (by decide) ?_
      have h := Option.some.inj h
      subst h
      exact e_i X hH dX2_wayBy_48
    · have h := ie_x h c1
      refine lv_aload_n hx hb dX2_wayBy_14 rfl (lv_at hl 0 rfl) ?_
      refine lv_iload hx hb dX2_wayBy_15 (lv_at hl 4 rfl) ?_
      refine lv_iload_n hx hb dX2_wayBy_17 rfl (lv_at hl 1 rfl) ?_
      obtain ⟨o1, ho1, h⟩ := bd_x h
      refine r_V X hH (ws1 := (wX3 g a i xs)) (As := [.int l4, .int pa]) (rest := []) (st1 := [.int o1]) (uX3_touches (a := a) (i := i) ho1) kX3_touches mX2_46 iX3_touches vX3_touches zX3 okX3_touches ⟨Nat.le_of_ble_eq_true rfl, Nat.le_of_ble_eq_true rfl⟩ rfl rfl (q0 := 0) rfl rfl (pm_all _) (pm_all _) rfl hl.1 rfl (Nat.le_of_ble_eq_true rfl) ⟨Nat.le_refl 0, Nat.le_refl 0⟩ rfl dX2_wayBy_18 (fun H locs hH => ?_)
      refine lv_if_eq (tgt := 41) hx hb dX2_wayBy_21 (by decide) (fun c2 => ?_) (fun c2 => ?_)
      · have h := it_x h c2
        exact pX2_wayBy_41 X ih l3 l4 H locs ls h hH (lv_sub hl [0, 1, 2, 3, 4] rfl)
      · have h := ie_x h c2
        refine lv_iload_n hx hb dX2_wayBy_24 rfl (lv_at hl 3 rfl) ?_
        refine lv_aload_n hx hb dX2_wayBy_25 rfl (lv_at hl 0 rfl) ?_
        refine lv_iload hx hb dX2_wayBy_26 (lv_at hl 4 rfl) ?_
        obtain ⟨o2, ho2, h⟩ := bd_x h
        refine r_V X hH (ws1 := (wX3 g a i xs)) (As := [.int l4]) (rest := [.int l3]) (st1 := [.int o2, .int l3]) (uX3_weight (a := a) (i := i) ho2) kX3_weight mX2_50 iX3_weight vX3_weight zX3 okX3_weight ⟨Nat.le_of_ble_eq_true rfl, Nat.le_of_ble_eq_true rfl⟩ rfl rfl (q0 := 0) rfl rfl (pm_all _) (pm_all _) rfl hl.1 rfl (Nat.le_of_ble_eq_true rfl) ⟨Nat.le_refl 0, Nat.le_refl 0⟩ rfl dX2_wayBy_28 (fun H locs hH => ?_)
        refine lv_iadd hx hb dX2_wayBy_31 ?_
        obtain ⟨v2, ev2, h⟩ := ltt_x h
        refine s_in X (lv' := [(3, .int v2), (0, .ref (a i)), (1, .int pa), (2, .int pb), (4, .int l4)]) hl ev2 dX2_wayBy_32 rfl (by decide) rfl (fun ls hl => ?_)
        refine lv_iload_n hx hb dX2_wayBy_33 rfl (lv_at hl 3 rfl) ?_
        refine lv_iload_n hx hb dX2_wayBy_34 rfl (lv_at hl 0 rfl) ?_
        refine lv_icmp_ge (tgt := 41) hx hb dX2_wayBy_35 (by decide) (fun c3 => ?_) (fun c3 => ?_)
        · have h := it_x h c3
          exact pX2_wayBy_41 X ih v2 l4 H locs ls h hH (lv_sub hl [1, 2, 3, 0, 4] rfl)
        · have h := ie_x h c3
          refine lv_iload hx hb dX2_wayBy_38 (lv_at hl 4 rfl) ?_
          have h := Option.some.inj h
          subst h
          exact e_i X hH dX2_wayBy_40
set_option maxHeartbeats 4000000 in
set_option maxRecDepth 100000 in
theorem uX2_wayBy {l : Launch} {g : GG} {a : Nat → Nat} {i : Nat} {xs : SX3} {pa : Int32} {pb : Int32} {o : Int32} (h : fX2_wayBy xs pa pb = some o) : mC l g yX2_wayBy cX2_wayBy 5 (some .int) (rM 2 43) [.ref (a i), .int pa, .int pb] (wX3 g a i xs) (wX3 g a i xs) (some (.int o)) := by
  refine mC.ofW (by decide) (fun p e s m below meth c X hH ls _ hl => ?_) (Nat.le_of_ble_eq_true rfl)
  have hx := X.1
  have hb := X.2.1
  have hl : lv_has ls 5 [(0, .ref (a i)), (1, .int pa), (2, .int pb)] := hl
  unfold fX2_wayBy at h
  suffices HH : ∀ (H : Heap) (locs : List Loc), mH g s (wX3 g a i xs) (wX3 g a i xs) H locs → W p l e (rM 2 43) s m _ below meth c H locs 0 0 (mZ g below _ s (wX3 g a i xs) (wX3 g a i xs) (some (.int o))) (F0 m 0 ls []) from HH _ _ hH
  clear hH
  intro H locs hH
  refine lv_iconst (v := (0 : Int32)) hx hb dX2_wayBy_0 (by decide) ?_
  refine s_in X (lv' := [(3, .int (0 : Int32)), (0, .ref (a i)), (1, .int pa), (2, .int pb)]) hl rfl dX2_wayBy_1 rfl (by decide) rfl (fun ls hl => ?_)
  refine lv_iconst (v := (0 : Int32)) hx hb dX2_wayBy_2 (by decide) ?_
  refine s_i X (lv' := [(4, .int (0 : Int32)), (3, .int (0 : Int32)), (0, .ref (a i)), (1, .int pa), (2, .int pb)]) hl rfl dX2_wayBy_3 (by decide) rfl (fun ls hl => ?_)
  exact pX2_wayBy_5 X FU (0 : Int32) (0 : Int32) H locs ls h hH (lv_sub hl [2, 3, 4, 1, 0] rfl)

def qX2_walk_9 (xt : SX3) (pa : Int32) (pb : Int32)  : Nat → SX2 → Int32 → Int32 → Int32 → Option (Int32 × SX2)
  | 0, _, _, _, _ => none
  | fu + 1, xs, l4, l5, l6 =>
  (if (60 : Int32) ≤ l6 then
  some ((-1 : Int32), xs)
  else
  ga 6 l4 fun j1 =>
  (if (0 : Int32) < ((lo_weights xs) j1) then
  ga 6 l4 fun j2 =>
  (fX2_draw xs ((lo_weights xs) j2)).bind fun o1 =>
  (fX2_wayBy xt l4 o1.1).bind fun o2 =>
  (fX3_minutes xt o2).bind fun o3 =>
  ltt ((l5 + o3)) fun v1 =>
  (fX3_otherEnd xt o2 l4).bind fun o4 =>
  (if o4 = pb then
  some (v1, o1.2)
  else
  ltt (l6 + (1 : Int32)) fun v2 =>
  qX2_walk_9 xt pa pb  fu o1.2 o4 v1 v2)
  else
  some ((-1 : Int32), xs)))
def fX2_walk (xs : SX2) (xt : SX3) (pa : Int32) (pb : Int32) : Option (Int32 × SX2) :=
  qX2_walk_9 xt pa pb FU xs pa (0 : Int32) (0 : Int32)
set_option maxHeartbeats 4000000 in
set_option maxRecDepth 100000 in
theorem pX2_walk_9 {p : Program} {l : Launch} {e : Env} {s : State} {m : MethodId} {args : Array Value} {below : List Frame} {meth : Method} {c : Code} {g : GG} {w0 : va_W} {a : Nat → Nat} {i : Nat} {b : Nat → Nat} {j : Nat} {xt : SX3} {pa : Int32} {pb : Int32} {o : (Int32 × SX2)} (X : mX g yX2_walk cX2_walk 8 (some .int) p s m args meth c w0) :
  ∀ (fu : Nat) (xs : SX2) (l4 : Int32) (l5 : Int32) (l6 : Int32) (H : Heap) (locs : List Loc) (ls : Array Slot), qX2_walk_9 xt pa pb fu xs l4 l5 l6 = some o → mH g s w0 ((wX2 g a i xs) ++ (wX3 g b j xt)) H locs → lv_has ls 8 [(0, .ref (a i)), (1, .ref (b j)), (2, .int pa), (3, .int pb), (4, .int l4), (5, .int l5), (6, .int l6)] → W p l e (rM 3 67) s m args below meth c H locs 0 0 (mZ g below args s w0 ((wX2 g a i o.2) ++ (wX3 g b j xt)) (some (.int o.1))) (F0 m 9 ls []) := by
  have hx := X.1
  have hb := X.2.1
  intro fu
  induction fu with
  | zero =>
    intro xs l4 l5 l6 H locs ls h
    unfold qX2_walk_9 at h
    cases h
  | succ fu ih =>
    intro xs l4 l5 l6 H locs ls h hH hl
    unfold qX2_walk_9 at h
    refine lv_iload hx hb dX2_walk_9 (lv_at hl 6 rfl) ?_
    refine lv_bipush (v := (60 : Int32)) hx hb dX2_walk_11 (by decide) ?_
    refine lv_icmp_ge (tgt := 83) hx hb dX2_walk_13 (by decide) (fun c1 => ?_) (fun c1 => ?_)
    · have h := it_x h c1
      refine lv_iconst (v := (-1 : Int32)) hx hb dX2_walk_83 (by decide) ?_
      have h := Option.some.inj h
      subst h
      exact e_i X hH dX2_walk_84
    · have h := ie_x h c1
      refine lv_aload_n hx hb dX2_walk_16 rfl (lv_at hl 0 rfl) ?_
      refine f_get X hH 0 rfl rfl 1 (by decide) inX2 fX2_15 rfl dX2_walk_17 ?_
      refine lv_iload hx hb dX2_walk_20 (lv_at hl 4 rfl) ?_
      obtain ⟨j1, ej1, hinj1, h⟩ := ga_x h
      refine a_il X hH 1 rfl hinj1 ej1 dX2_walk_22 ?_
      refine lv_if_gt (tgt := 28) hx hb dX2_walk_23 (by decide) (fun c2 => ?_) (fun c2 => ?_)
      · have h := it_x h c2
        refine lv_aload_n hx hb dX2_walk_28 rfl (lv_at hl 1 rfl) ?_
        refine lv_iload hx hb dX2_walk_29 (lv_at hl 4 rfl) ?_
        refine lv_aload_n hx hb dX2_walk_31 rfl (lv_at hl 0 rfl) ?_
        refine lv_aload_n hx hb dX2_walk_32 rfl (lv_at hl 0 rfl) ?_
        refine f_get X hH 0 rfl rfl 1 (by decide) inX2 fX2_15 rfl dX2_walk_33 ?_
        refine lv_iload hx hb dX2_walk_36 (lv_at hl 4 rfl) ?_
        obtain ⟨j2, ej2, hinj2, h⟩ := ga_x h
        refine a_il X hH 1 rfl hinj2 ej2 dX2_walk_38 ?_
        obtain ⟨o1, ho1, h⟩ := bd_x h
        refine r_V X hH (ws1 := ((wX2 g a i o1.2) ++ (wX3 g b j xt))) (As := [.int ((lo_weights xs) j2)]) (rest := [.int l4, .ref (b j)]) (st1 := [.int o1.1, .int l4, .ref (b j)]) (uX2_draw (a := a) (i := i) ho1) kX2_draw mX2_25 iX2_draw vX2_draw zX2 okX2_draw ⟨Nat.le_of_ble_eq_true rfl, Nat.le_of_ble_eq_true rfl⟩ rfl rfl (q0 := 0) rfl rfl (pm_0 _ _) (pm_0 _ _) rfl hl.1 rfl (Nat.le_of_ble_eq_true rfl) ⟨Nat.le_refl 0, Nat.le_refl 0⟩ rfl dX2_walk_39 (fun H locs hH => ?_)
        obtain ⟨o2, ho2, h⟩ := bd_x h
        refine r_S X hH (ws1 := ((wX2 g a i o1.2) ++ (wX3 g b j xt))) (As := [.ref (b j), .int l4, .int o1.1]) (rest := []) (st1 := [.int o2]) (uX2_wayBy (a := b) (i := j) ho2) kX2_wayBy mX2_29 sX2_wayBy zX2 okX2_wayBy ⟨Nat.le_of_ble_eq_true rfl, Nat.le_of_ble_eq_true rfl⟩ rfl rfl (pm_s (pm_all _)) (pm_s (pm_all _)) rfl hl.1 rfl (Nat.le_of_ble_eq_true rfl) ⟨Nat.le_refl 0, Nat.le_refl 0⟩ rfl dX2_walk_42 (fun H locs hH => ?_)
        refine s_i X (lv' := [(7, .int o2), (0, .ref (a i)), (1, .ref (b j)), (2, .int pa), (3, .int pb), (4, .int l4), (5, .int l5), (6, .int l6)]) hl rfl dX2_walk_45 (by decide) rfl (fun ls hl => ?_)
        refine lv_iload hx hb dX2_walk_47 (lv_at hl 6 rfl) ?_
        refine lv_aload_n hx hb dX2_walk_49 rfl (lv_at hl 2 rfl) ?_
        refine lv_iload hx hb dX2_walk_50 (lv_at hl 0 rfl) ?_
        obtain ⟨o3, ho3, h⟩ := bd_x h
        refine r_V X hH (ws1 := ((wX2 g a i o1.2) ++ (wX3 g b j xt))) (As := [.int o2]) (rest := [.int l5]) (st1 := [.int o3, .int l5]) (uX3_minutes (a := b) (i := j) ho3) kX3_minutes mX2_33 iX3_minutes vX3_minutes zX3 okX3_minutes ⟨Nat.le_of_ble_eq_true rfl, Nat.le_of_ble_eq_true rfl⟩ rfl rfl (q0 := 2) rfl rfl (pm_s (pm_all _)) (pm_s (pm_all _)) rfl hl.1 rfl (Nat.le_of_ble_eq_true rfl) ⟨Nat.le_refl 0, Nat.le_refl 0⟩ rfl dX2_walk_52 (fun H locs hH => ?_)
        refine lv_iadd hx hb dX2_walk_55 ?_
        obtain ⟨v1, ev1, h⟩ := ltt_x h
        refine s_i X (lv' := [(5, .int v1), (7, .int o2), (0, .ref (a i)), (1, .ref (b j)), (2, .int pa), (3, .int pb), (4, .int l4), (6, .int l6)]) hl ev1 dX2_walk_56 (by decide) rfl (fun ls hl => ?_)
        refine lv_aload_n hx hb dX2_walk_58 rfl (lv_at hl 3 rfl) ?_
        refine lv_iload hx hb dX2_walk_59 (lv_at hl 1 rfl) ?_
        refine lv_iload hx hb dX2_walk_61 (lv_at hl 6 rfl) ?_
        obtain ⟨o4, ho4, h⟩ := bd_x h
        refine r_V X hH (ws1 := ((wX2 g a i o1.2) ++ (wX3 g b j xt))) (As := [.int o2, .int l4]) (rest := []) (st1 := [.int o4]) (uX3_otherEnd (a := b) (i := j) ho4) kX3_otherEnd mX2_36 iX3_otherEnd vX3_otherEnd zX3 okX3_otherEnd ⟨Nat.le_of_ble_eq_true rfl, Nat.le_of_ble_eq_true rfl⟩ rfl rfl (q0 := 2) rfl rfl (pm_s (pm_all _)) (pm_s (pm_all _)) rfl hl.1 rfl (Nat.le_of_ble_eq_true rfl) ⟨Nat.le_refl 0, Nat.le_refl 0⟩ rfl dX2_walk_63 (fun H locs hH => ?_)
        refine s_i X (lv' := [(4, .int o4), (5, .int v1), (7, .int o2), (0, .ref (a i)), (1, .ref (b j)), (2, .int pa), (3, .int pb), (6, .int l6)]) hl rfl dX2_walk_66 (by decide) rfl (fun ls hl => ?_)
        refine lv_iload hx hb dX2_walk_68 (lv_at hl 0 rfl) ?_
        refine lv_iload_n hx hb dX2_walk_70 rfl (lv_at hl 6 rfl) ?_
        refine lv_icmp_ne (tgt := 77) hx hb dX2_walk_71 (by decide) (fun c3 => ?_) (fun c3 => ?_)
        · have h := ie_x h c3
          obtain ⟨v2, ev2, h⟩ := ltt_x h
          refine s_inc X (k := 7) (lv' := [(6, .int v2), (4, .int o4), (5, .int v1), (7, .int o2), (0, .ref (a i)), (1, .ref (b j)), (2, .int pa), (3, .int pb)]) hl rfl (by rw [ev2]; rfl) dX2_walk_77 (by decide) rfl (fun ls hl => ?_)
          refine lv_goto (tgt := 9) hx hb dX2_walk_80 (by decide) ?_
          exact ih o1.2 o4 v1 v2 H locs ls h hH (lv_sub hl [4, 5, 6, 7, 1, 2, 0] rfl)
        · have h := it_x h c3
          refine lv_iload hx hb dX2_walk_74 (lv_at hl 1 rfl) ?_
          have h := Option.some.inj h
          subst h
          exact e_i X hH dX2_walk_76
      · have h := ie_x h c2
        refine lv_iconst (v := (-1 : Int32)) hx hb dX2_walk_26 (by decide) ?_
        have h := Option.some.inj h
        subst h
        exact e_i X hH dX2_walk_27
set_option maxHeartbeats 4000000 in
set_option maxRecDepth 100000 in
theorem uX2_walk {l : Launch} {g : GG} {a : Nat → Nat} {i : Nat} {b : Nat → Nat} {j : Nat} {xs : SX2} {xt : SX3} {pa : Int32} {pb : Int32} {o : (Int32 × SX2)} (h : fX2_walk xs xt pa pb = some o) : mC l g yX2_walk cX2_walk 8 (some .int) (rM 3 67) [.ref (a i), .ref (b j), .int pa, .int pb] ((wX2 g a i xs) ++ (wX3 g b j xt)) ((wX2 g a i o.2) ++ (wX3 g b j xt)) (some (.int o.1)) := by
  refine mC.ofW (by decide) (fun p e s m below meth c X hH ls _ hl => ?_) (Nat.le_of_ble_eq_true rfl)
  have hx := X.1
  have hb := X.2.1
  have hl : lv_has ls 8 [(0, .ref (a i)), (1, .ref (b j)), (2, .int pa), (3, .int pb)] := hl
  unfold fX2_walk at h
  suffices HH : ∀ (H : Heap) (locs : List Loc), mH g s ((wX2 g a i xs) ++ (wX3 g b j xt)) ((wX2 g a i xs) ++ (wX3 g b j xt)) H locs → W p l e (rM 3 67) s m _ below meth c H locs 0 0 (mZ g below _ s ((wX2 g a i xs) ++ (wX3 g b j xt)) ((wX2 g a i o.2) ++ (wX3 g b j xt)) (some (.int o.1))) (F0 m 0 ls []) from HH _ _ hH
  clear hH
  intro H locs hH
  refine lv_iload_n hx hb dX2_walk_0 rfl (lv_at hl 2 rfl) ?_
  refine s_i X (lv' := [(4, .int pa), (0, .ref (a i)), (1, .ref (b j)), (2, .int pa), (3, .int pb)]) hl rfl dX2_walk_1 (by decide) rfl (fun ls hl => ?_)
  refine lv_iconst (v := (0 : Int32)) hx hb dX2_walk_3 (by decide) ?_
  refine s_i X (lv' := [(5, .int (0 : Int32)), (4, .int pa), (0, .ref (a i)), (1, .ref (b j)), (2, .int pa), (3, .int pb)]) hl rfl dX2_walk_4 (by decide) rfl (fun ls hl => ?_)
  refine lv_iconst (v := (0 : Int32)) hx hb dX2_walk_6 (by decide) ?_
  refine s_i X (lv' := [(6, .int (0 : Int32)), (5, .int (0 : Int32)), (4, .int pa), (0, .ref (a i)), (1, .ref (b j)), (2, .int pa), (3, .int pb)]) hl rfl dX2_walk_7 (by decide) rfl (fun ls hl => ?_)
  exact pX2_walk_9 X FU xs pa (0 : Int32) (0 : Int32) H locs ls h hH (lv_sub hl [3, 4, 5, 6, 2, 1, 0] rfl)

def fX3_isPoint (xs : SX3) (pa : Int32) : Option Int32 :=
  (if pa < (0 : Int32) then
  some (0 : Int32)
  else
  (if (n_points xs) ≤ pa then
  some (0 : Int32)
  else
  some (1 : Int32)))
set_option maxHeartbeats 4000000 in
set_option maxRecDepth 100000 in
theorem uX3_isPoint {l : Launch} {g : GG} {a : Nat → Nat} {i : Nat} {xs : SX3} {pa : Int32} {o : Int32} (h : fX3_isPoint xs pa = some o) : mC l g yX3_isPoint cX3_isPoint 2 (some .boolean) (rM 0 0) [.ref (a i), .int pa] (wX3 g a i xs) (wX3 g a i xs) (some (.int o)) := by
  refine mC.ofW (by decide) (fun p e s m below meth c X hH ls _ hl => ?_) (Nat.le_of_ble_eq_true rfl)
  have hx := X.1
  have hb := X.2.1
  have hl : lv_has ls 2 [(0, .ref (a i)), (1, .int pa)] := hl
  unfold fX3_isPoint at h
  suffices HH : ∀ (H : Heap) (locs : List Loc), mH g s (wX3 g a i xs) (wX3 g a i xs) H locs → W p l e (rM 0 0) s m _ below meth c H locs 0 0 (mZ g below _ s (wX3 g a i xs) (wX3 g a i xs) (some (.int o))) (F0 m 0 ls []) from HH _ _ hH
  clear hH
  intro H locs hH
  refine lv_iload_n hx hb dX3_isPoint_0 rfl (lv_at hl 1 rfl) ?_
  refine lv_if_lt (tgt := 16) hx hb dX3_isPoint_1 (by decide) (fun c1 => ?_) (fun c1 => ?_)
  · have h := it_x h c1
    refine lv_iconst (v := (0 : Int32)) hx hb dX3_isPoint_16 (by decide) ?_
    have h := Option.some.inj h
    subst h
    exact e_z X hH (Or.inl rfl) dX3_isPoint_17
  · have h := ie_x h c1
    refine lv_iload_n hx hb dX3_isPoint_4 rfl (lv_at hl 1 rfl) ?_
    refine lv_aload_n hx hb dX3_isPoint_5 rfl (lv_at hl 0 rfl) ?_
    refine f_get X hH 0 rfl rfl 0 (by decide) inX3 fX3_9 rfl dX3_isPoint_6 ?_
    refine lv_icmp_ge (tgt := 16) hx hb dX3_isPoint_9 (by decide) (fun c2 => ?_) (fun c2 => ?_)
    · have h := it_x h c2
      refine lv_iconst (v := (0 : Int32)) hx hb dX3_isPoint_16 (by decide) ?_
      have h := Option.some.inj h
      subst h
      exact e_z X hH (Or.inl rfl) dX3_isPoint_17
    · have h := ie_x h c2
      refine lv_iconst (v := (1 : Int32)) hx hb dX3_isPoint_12 (by decide) ?_
      refine lv_goto (tgt := 17) hx hb dX3_isPoint_13 (by decide) ?_
      have h := Option.some.inj h
      subst h
      exact e_z X hH (Or.inr rfl) dX3_isPoint_17

def fX3_isWay (xs : SX3) (pa : Int32) : Option Int32 :=
  (if pa < (0 : Int32) then
  some (0 : Int32)
  else
  (if (n_ways xs) ≤ pa then
  some (0 : Int32)
  else
  some (1 : Int32)))
set_option maxHeartbeats 4000000 in
set_option maxRecDepth 100000 in
theorem uX3_isWay {l : Launch} {g : GG} {a : Nat → Nat} {i : Nat} {xs : SX3} {pa : Int32} {o : Int32} (h : fX3_isWay xs pa = some o) : mC l g yX3_isWay cX3_isWay 2 (some .boolean) (rM 0 0) [.ref (a i), .int pa] (wX3 g a i xs) (wX3 g a i xs) (some (.int o)) := by
  refine mC.ofW (by decide) (fun p e s m below meth c X hH ls _ hl => ?_) (Nat.le_of_ble_eq_true rfl)
  have hx := X.1
  have hb := X.2.1
  have hl : lv_has ls 2 [(0, .ref (a i)), (1, .int pa)] := hl
  unfold fX3_isWay at h
  suffices HH : ∀ (H : Heap) (locs : List Loc), mH g s (wX3 g a i xs) (wX3 g a i xs) H locs → W p l e (rM 0 0) s m _ below meth c H locs 0 0 (mZ g below _ s (wX3 g a i xs) (wX3 g a i xs) (some (.int o))) (F0 m 0 ls []) from HH _ _ hH
  clear hH
  intro H locs hH
  refine lv_iload_n hx hb dX3_isWay_0 rfl (lv_at hl 1 rfl) ?_
  refine lv_if_lt (tgt := 16) hx hb dX3_isWay_1 (by decide) (fun c1 => ?_) (fun c1 => ?_)
  · have h := it_x h c1
    refine lv_iconst (v := (0 : Int32)) hx hb dX3_isWay_16 (by decide) ?_
    have h := Option.some.inj h
    subst h
    exact e_z X hH (Or.inl rfl) dX3_isWay_17
  · have h := ie_x h c1
    refine lv_iload_n hx hb dX3_isWay_4 rfl (lv_at hl 1 rfl) ?_
    refine lv_aload_n hx hb dX3_isWay_5 rfl (lv_at hl 0 rfl) ?_
    refine f_get X hH 0 rfl rfl 1 (by decide) inX3 fX3_15 rfl dX3_isWay_6 ?_
    refine lv_icmp_ge (tgt := 16) hx hb dX3_isWay_9 (by decide) (fun c2 => ?_) (fun c2 => ?_)
    · have h := it_x h c2
      refine lv_iconst (v := (0 : Int32)) hx hb dX3_isWay_16 (by decide) ?_
      have h := Option.some.inj h
      subst h
      exact e_z X hH (Or.inl rfl) dX3_isWay_17
    · have h := ie_x h c2
      refine lv_iconst (v := (1 : Int32)) hx hb dX3_isWay_12 (by decide) ?_
      refine lv_goto (tgt := 17) hx hb dX3_isWay_13 (by decide) ?_
      have h := Option.some.inj h
      subst h
      exact e_z X hH (Or.inr rfl) dX3_isWay_17

def fX3_allPoints (xs : SX3) : Option Int32 :=
  some (((1 : Int32) <<< ((n_points xs) &&& 31)) - (1 : Int32))
set_option maxHeartbeats 4000000 in
set_option maxRecDepth 100000 in
theorem uX3_allPoints {l : Launch} {g : GG} {a : Nat → Nat} {i : Nat} {xs : SX3} {o : Int32} (h : fX3_allPoints xs = some o) : mC l g yX3_allPoints cX3_allPoints 1 (some .int) (rM 0 0) [.ref (a i)] (wX3 g a i xs) (wX3 g a i xs) (some (.int o)) := by
  refine mC.ofW (by decide) (fun p e s m below meth c X hH ls _ hl => ?_) (Nat.le_of_ble_eq_true rfl)
  have hx := X.1
  have hb := X.2.1
  have hl : lv_has ls 1 [(0, .ref (a i))] := hl
  unfold fX3_allPoints at h
  suffices HH : ∀ (H : Heap) (locs : List Loc), mH g s (wX3 g a i xs) (wX3 g a i xs) H locs → W p l e (rM 0 0) s m _ below meth c H locs 0 0 (mZ g below _ s (wX3 g a i xs) (wX3 g a i xs) (some (.int o))) (F0 m 0 ls []) from HH _ _ hH
  clear hH
  intro H locs hH
  refine lv_iconst (v := (1 : Int32)) hx hb dX3_allPoints_0 (by decide) ?_
  refine lv_aload_n hx hb dX3_allPoints_1 rfl (lv_at hl 0 rfl) ?_
  refine f_get X hH 0 rfl rfl 0 (by decide) inX3 fX3_9 rfl dX3_allPoints_2 ?_
  refine lv_ishl hx hb dX3_allPoints_5 ?_
  refine lv_iconst (v := (1 : Int32)) hx hb dX3_allPoints_6 (by decide) ?_
  refine lv_isub hx hb dX3_allPoints_7 ?_
  have h := Option.some.inj h
  subst h
  exact e_i X hH dX3_allPoints_8

def fX3_allWays (xs : SX3) : Option Int32 :=
  some (((1 : Int32) <<< ((n_ways xs) &&& 31)) - (1 : Int32))
set_option maxHeartbeats 4000000 in
set_option maxRecDepth 100000 in
theorem uX3_allWays {l : Launch} {g : GG} {a : Nat → Nat} {i : Nat} {xs : SX3} {o : Int32} (h : fX3_allWays xs = some o) : mC l g yX3_allWays cX3_allWays 1 (some .int) (rM 0 0) [.ref (a i)] (wX3 g a i xs) (wX3 g a i xs) (some (.int o)) := by
  refine mC.ofW (by decide) (fun p e s m below meth c X hH ls _ hl => ?_) (Nat.le_of_ble_eq_true rfl)
  have hx := X.1
  have hb := X.2.1
  have hl : lv_has ls 1 [(0, .ref (a i))] := hl
  unfold fX3_allWays at h
  suffices HH : ∀ (H : Heap) (locs : List Loc), mH g s (wX3 g a i xs) (wX3 g a i xs) H locs → W p l e (rM 0 0) s m _ below meth c H locs 0 0 (mZ g below _ s (wX3 g a i xs) (wX3 g a i xs) (some (.int o))) (F0 m 0 ls []) from HH _ _ hH
  clear hH
  intro H locs hH
  refine lv_iconst (v := (1 : Int32)) hx hb dX3_allWays_0 (by decide) ?_
  refine lv_aload_n hx hb dX3_allWays_1 rfl (lv_at hl 0 rfl) ?_
  refine f_get X hH 0 rfl rfl 1 (by decide) inX3 fX3_15 rfl dX3_allWays_2 ?_
  refine lv_ishl hx hb dX3_allWays_5 ?_
  refine lv_iconst (v := (1 : Int32)) hx hb dX3_allWays_6 (by decide) ?_
  refine lv_isub hx hb dX3_allWays_7 ?_
  have h := Option.some.inj h
  subst h
  exact e_i X hH dX3_allWays_8

def qX3_weightsOfAll_4 (xs : SX3)  : Nat → Int32 → Int32 → Option Int32
  | 0, _, _ => none
  | fu + 1, l1, l2 =>
  (if (n_ways xs) ≤ l2 then
  some l1
  else
  (fX3_weight xs l2).bind fun o1 =>
  ltt ((l1 + o1)) fun v1 =>
  ltt (l2 + (1 : Int32)) fun v2 =>
  qX3_weightsOfAll_4 xs  fu v1 v2)
def fX3_weightsOfAll (xs : SX3) : Option Int32 :=
  qX3_weightsOfAll_4 xs FU (0 : Int32) (0 : Int32)
set_option maxHeartbeats 4000000 in
set_option maxRecDepth 100000 in
theorem pX3_weightsOfAll_4 {p : Program} {l : Launch} {e : Env} {s : State} {m : MethodId} {args : Array Value} {below : List Frame} {meth : Method} {c : Code} {g : GG} {w0 : va_W} {a : Nat → Nat} {i : Nat} {xs : SX3} {o : Int32} (X : mX g yX3_weightsOfAll cX3_weightsOfAll 3 (some .int) p s m args meth c w0) :
  ∀ (fu : Nat) (l1 : Int32) (l2 : Int32) (H : Heap) (locs : List Loc) (ls : Array Slot), qX3_weightsOfAll_4 xs fu l1 l2 = some o → mH g s w0 (wX3 g a i xs) H locs → lv_has ls 3 [(0, .ref (a i)), (1, .int l1), (2, .int l2)] → W p l e (rM 2 43) s m args below meth c H locs 0 0 (mZ g below args s w0 (wX3 g a i xs) (some (.int o))) (F0 m 4 ls []) := by
  have hx := X.1
  have hb := X.2.1
  intro fu
  induction fu with
  | zero =>
    intro l1 l2 H locs ls h
    unfold qX3_weightsOfAll_4 at h
    cases h
  | succ fu ih =>
    intro l1 l2 H locs ls h hH hl
    unfold qX3_weightsOfAll_4 at h
    refine lv_iload_n hx hb dX3_weightsOfAll_4 rfl (lv_at hl 2 rfl) ?_
    refine lv_aload_n hx hb dX3_weightsOfAll_5 rfl (lv_at hl 0 rfl) ?_
    refine f_get X hH 0 rfl rfl 1 (by decide) inX3 fX3_15 rfl dX3_weightsOfAll_6 ?_
    refine lv_icmp_ge (tgt := 26) hx hb dX3_weightsOfAll_9 (by decide) (fun c1 => ?_) (fun c1 => ?_)
    · have h := it_x h c1
      refine lv_iload_n hx hb dX3_weightsOfAll_26 rfl (lv_at hl 1 rfl) ?_
      have h := Option.some.inj h
      subst h
      exact e_i X hH dX3_weightsOfAll_27
    · have h := ie_x h c1
      refine lv_iload_n hx hb dX3_weightsOfAll_12 rfl (lv_at hl 1 rfl) ?_
      refine lv_aload_n hx hb dX3_weightsOfAll_13 rfl (lv_at hl 0 rfl) ?_
      refine lv_iload_n hx hb dX3_weightsOfAll_14 rfl (lv_at hl 2 rfl) ?_
      obtain ⟨o1, ho1, h⟩ := bd_x h
      refine r_V X hH (ws1 := (wX3 g a i xs)) (As := [.int l2]) (rest := [.int l1]) (st1 := [.int o1, .int l1]) (uX3_weight (a := a) (i := i) ho1) kX3_weight mX3_48 iX3_weight vX3_weight zX3 okX3_weight ⟨Nat.le_of_ble_eq_true rfl, Nat.le_of_ble_eq_true rfl⟩ rfl rfl (q0 := 0) rfl rfl (pm_all _) (pm_all _) rfl hl.1 rfl (Nat.le_of_ble_eq_true rfl) ⟨Nat.le_refl 0, Nat.le_refl 0⟩ rfl dX3_weightsOfAll_15 (fun H locs hH => ?_)
      refine lv_iadd hx hb dX3_weightsOfAll_18 ?_
      obtain ⟨v1, ev1, h⟩ := ltt_x h
      refine s_in X (lv' := [(1, .int v1), (0, .ref (a i)), (2, .int l2)]) hl ev1 dX3_weightsOfAll_19 rfl (by decide) rfl (fun ls hl => ?_)
      obtain ⟨v2, ev2, h⟩ := ltt_x h
      refine s_inc X (k := 2) (lv' := [(2, .int v2), (1, .int v1), (0, .ref (a i))]) hl rfl (by rw [ev2]; rfl) dX3_weightsOfAll_20 (by decide) rfl (fun ls hl => ?_)
      refine lv_goto (tgt := 4) hx hb dX3_weightsOfAll_23 (by decide) ?_
      exact ih v1 v2 H locs ls h hH (lv_sub hl [2, 1, 0] rfl)
set_option maxHeartbeats 4000000 in
set_option maxRecDepth 100000 in
theorem uX3_weightsOfAll {l : Launch} {g : GG} {a : Nat → Nat} {i : Nat} {xs : SX3} {o : Int32} (h : fX3_weightsOfAll xs = some o) : mC l g yX3_weightsOfAll cX3_weightsOfAll 3 (some .int) (rM 2 43) [.ref (a i)] (wX3 g a i xs) (wX3 g a i xs) (some (.int o)) := by
  refine mC.ofW (by decide) (fun p e s m below meth c X hH ls _ hl => ?_) (Nat.le_of_ble_eq_true rfl)
  have hx := X.1
  have hb := X.2.1
  have hl : lv_has ls 3 [(0, .ref (a i))] := hl
  unfold fX3_weightsOfAll at h
  suffices HH : ∀ (H : Heap) (locs : List Loc), mH g s (wX3 g a i xs) (wX3 g a i xs) H locs → W p l e (rM 2 43) s m _ below meth c H locs 0 0 (mZ g below _ s (wX3 g a i xs) (wX3 g a i xs) (some (.int o))) (F0 m 0 ls []) from HH _ _ hH
  clear hH
  intro H locs hH
  refine lv_iconst (v := (0 : Int32)) hx hb dX3_weightsOfAll_0 (by decide) ?_
  refine s_in X (lv' := [(1, .int (0 : Int32)), (0, .ref (a i))]) hl rfl dX3_weightsOfAll_1 rfl (by decide) rfl (fun ls hl => ?_)
  refine lv_iconst (v := (0 : Int32)) hx hb dX3_weightsOfAll_2 (by decide) ?_
  refine s_in X (lv' := [(2, .int (0 : Int32)), (1, .int (0 : Int32)), (0, .ref (a i))]) hl rfl dX3_weightsOfAll_3 rfl (by decide) rfl (fun ls hl => ?_)
  exact pX3_weightsOfAll_4 X FU (0 : Int32) (0 : Int32) H locs ls h hH (lv_sub hl [2, 1, 0] rfl)

def qX3_sets_39 (xs : SX3) (k6 : Int32 → Int32 → Int32 → Option Int32) (l1 : Int32) (l2 : Int32) (l3 : Int32) : Option Int32 :=
  ltt (l3 + (1 : Int32)) fun v1 =>
  k6 l1 l2 v1
def qX3_sets_6 (xs : SX3)  : Nat → Int32 → Int32 → Int32 → Option Int32
  | 0, _, _, _ => none
  | fu + 1, l1, l2, l3 =>
  (if (n_points xs) ≤ l3 then
  some l2
  else
  (fX8_has l1 l3).bind fun o1 =>
  (if o1 = (0 : Int32) then
  (fX3_allWays xs).bind fun o2 =>
  (fX3_reached xs ((1 : Int32) <<< (l3 &&& 31)) o2).bind fun o3 =>
  ltt ((l1 ||| o3)) fun v2 =>
  ltt (l2 + (1 : Int32)) fun v3 =>
  qX3_sets_39 xs (qX3_sets_6 xs  fu) v2 v3 l3
  else
  qX3_sets_39 xs (qX3_sets_6 xs  fu) l1 l2 l3))
def fX3_sets (xs : SX3) : Option Int32 :=
  qX3_sets_6 xs FU (0 : Int32) (0 : Int32) (0 : Int32)
set_option maxHeartbeats 4000000 in
set_option maxRecDepth 100000 in
theorem pX3_sets_39 {p : Program} {l : Launch} {e : Env} {s : State} {m : MethodId} {args : Array Value} {below : List Frame} {meth : Method} {c : Code} {g : GG} {w0 : va_W} {a : Nat → Nat} {i : Nat} {xs : SX3} {o : Int32} (X : mX g yX3_sets cX3_sets 4 (some .int) p s m args meth c w0)
  {k6 : Int32 → Int32 → Int32 → Option Int32} (K6 : ∀ (l1 : Int32) (l2 : Int32) (l3 : Int32) (H : Heap) (locs : List Loc) (ls : Array Slot), k6 l1 l2 l3 = some o → mH g s w0 (wX3 g a i xs) H locs → lv_has ls 4 [(0, .ref (a i)), (1, .int l1), (2, .int l2), (3, .int l3)] → W p l e (rM 2 48) s m args below meth c H locs 0 0 (mZ g below args s w0 (wX3 g a i xs) (some (.int o))) (F0 m 6 ls [])) :
  ∀ (l1 : Int32) (l2 : Int32) (l3 : Int32) (H : Heap) (locs : List Loc) (ls : Array Slot), qX3_sets_39 xs k6 l1 l2 l3 = some o → mH g s w0 (wX3 g a i xs) H locs → lv_has ls 4 [(0, .ref (a i)), (1, .int l1), (2, .int l2), (3, .int l3)] → W p l e (rM 2 48) s m args below meth c H locs 0 0 (mZ g below args s w0 (wX3 g a i xs) (some (.int o))) (F0 m 39 ls []) := by
  have hx := X.1
  have hb := X.2.1
  intro l1 l2 l3 H locs ls h hH hl
  unfold qX3_sets_39 at h
  obtain ⟨v1, ev1, h⟩ := ltt_x h
  refine s_inc X (k := 3) (lv' := [(3, .int v1), (0, .ref (a i)), (1, .int l1), (2, .int l2)]) hl rfl (by rw [ev1]; rfl) dX3_sets_39 (by decide) rfl (fun ls hl => ?_)
  refine lv_goto (tgt := 6) hx hb dX3_sets_42 (by decide) ?_
  exact K6 l1 l2 v1 H locs ls h hH (lv_sub hl [1, 2, 3, 0] rfl)
set_option maxHeartbeats 4000000 in
set_option maxRecDepth 100000 in
theorem pX3_sets_6 {p : Program} {l : Launch} {e : Env} {s : State} {m : MethodId} {args : Array Value} {below : List Frame} {meth : Method} {c : Code} {g : GG} {w0 : va_W} {a : Nat → Nat} {i : Nat} {xs : SX3} {o : Int32} (X : mX g yX3_sets cX3_sets 4 (some .int) p s m args meth c w0) :
  ∀ (fu : Nat) (l1 : Int32) (l2 : Int32) (l3 : Int32) (H : Heap) (locs : List Loc) (ls : Array Slot), qX3_sets_6 xs fu l1 l2 l3 = some o → mH g s w0 (wX3 g a i xs) H locs → lv_has ls 4 [(0, .ref (a i)), (1, .int l1), (2, .int l2), (3, .int l3)] → W p l e (rM 2 48) s m args below meth c H locs 0 0 (mZ g below args s w0 (wX3 g a i xs) (some (.int o))) (F0 m 6 ls []) := by
  have hx := X.1
  have hb := X.2.1
  intro fu
  induction fu with
  | zero =>
    intro l1 l2 l3 H locs ls h
    unfold qX3_sets_6 at h
    cases h
  | succ fu ih =>
    intro l1 l2 l3 H locs ls h hH hl
    unfold qX3_sets_6 at h
    refine lv_iload_n hx hb dX3_sets_6 rfl (lv_at hl 3 rfl) ?_
    refine lv_aload_n hx hb dX3_sets_7 rfl (lv_at hl 0 rfl) ?_
    refine f_get X hH 0 rfl rfl 0 (by decide) inX3 fX3_9 rfl dX3_sets_8 ?_
    refine lv_icmp_ge (tgt := 45) hx hb dX3_sets_11 (by decide) (fun c1 => ?_) (fun c1 => ?_)
    · have h := it_x h c1
      refine lv_iload_n hx hb dX3_sets_45 rfl (lv_at hl 2 rfl) ?_
      have h := Option.some.inj h
      subst h
      exact e_i X hH dX3_sets_46
    · have h := ie_x h c1
      refine lv_iload_n hx hb dX3_sets_14 rfl (lv_at hl 1 rfl) ?_
      refine lv_iload_n hx hb dX3_sets_15 rfl (lv_at hl 3 rfl) ?_
      obtain ⟨o1, ho1, h⟩ := bd_x h
      refine r_SN X hH (ws1 := (wX3 g a i xs)) (As := [.int l1, .int l3]) (rest := []) (st1 := [.int o1]) (uX8_has  ho1) kX8_has nnX3_55 sX8_has zX8 okX8_has ⟨Nat.le_of_ble_eq_true rfl, Nat.le_of_ble_eq_true rfl⟩ rfl rfl (pm_none _) (pm_none _) rfl hl.1 rfl (Nat.le_of_ble_eq_true rfl) ⟨Nat.le_refl 0, Nat.le_refl 0⟩ rfl dX3_sets_16 (fun H locs hH => ?_)
      refine lv_if_ne (tgt := 39) hx hb dX3_sets_19 (by decide) (fun c2 => ?_) (fun c2 => ?_)
      · have h := ie_x h c2
        exact pX3_sets_39 X ih l1 l2 l3 H locs ls h hH (lv_sub hl [0, 1, 2, 3] rfl)
      · have h := it_x h c2
        refine lv_iload_n hx hb dX3_sets_22 rfl (lv_at hl 1 rfl) ?_
        refine lv_aload_n hx hb dX3_sets_23 rfl (lv_at hl 0 rfl) ?_
        refine lv_iconst (v := (1 : Int32)) hx hb dX3_sets_24 (by decide) ?_
        refine lv_iload_n hx hb dX3_sets_25 rfl (lv_at hl 3 rfl) ?_
        refine lv_ishl hx hb dX3_sets_26 ?_
        refine lv_aload_n hx hb dX3_sets_27 rfl (lv_at hl 0 rfl) ?_
        obtain ⟨o2, ho2, h⟩ := bd_x h
        refine r_V X hH (ws1 := (wX3 g a i xs)) (As := []) (rest := [.int ((1 : Int32) <<< (l3 &&& 31)), .ref (a i), .int l1]) (st1 := [.int o2, .int ((1 : Int32) <<< (l3 &&& 31)), .ref (a i), .int l1]) (uX3_allWays (a := a) (i := i) ho2) kX3_allWays mX3_58 iX3_allWays vX3_allWays zX3 okX3_allWays ⟨Nat.le_of_ble_eq_true rfl, Nat.le_of_ble_eq_true rfl⟩ rfl rfl (q0 := 0) rfl rfl (pm_all _) (pm_all _) rfl hl.1 rfl (Nat.le_of_ble_eq_true rfl) ⟨Nat.le_refl 0, Nat.le_refl 0⟩ rfl dX3_sets_28 (fun H locs hH => ?_)
        obtain ⟨o3, ho3, h⟩ := bd_x h
        refine r_V X hH (ws1 := (wX3 g a i xs)) (As := [.int ((1 : Int32) <<< (l3 &&& 31)), .int o2]) (rest := [.int l1]) (st1 := [.int o3, .int l1]) (uX3_reached (a := a) (i := i) ho3) kX3_reached mX3_62 iX3_reached vX3_reached zX3 okX3_reached ⟨Nat.le_of_ble_eq_true rfl, Nat.le_of_ble_eq_true rfl⟩ rfl rfl (q0 := 0) rfl rfl (pm_all _) (pm_all _) rfl hl.1 rfl (Nat.le_of_ble_eq_true rfl) ⟨Nat.le_refl 0, Nat.le_refl 0⟩ rfl dX3_sets_31 (fun H locs hH => ?_)
        refine lv_ior hx hb dX3_sets_34 ?_
        obtain ⟨v2, ev2, h⟩ := ltt_x h
        refine s_in X (lv' := [(1, .int v2), (0, .ref (a i)), (2, .int l2), (3, .int l3)]) hl ev2 dX3_sets_35 rfl (by decide) rfl (fun ls hl => ?_)
        obtain ⟨v3, ev3, h⟩ := ltt_x h
        refine s_inc X (k := 2) (lv' := [(2, .int v3), (1, .int v2), (0, .ref (a i)), (3, .int l3)]) hl rfl (by rw [ev3]; rfl) dX3_sets_36 (by decide) rfl (fun ls hl => ?_)
        exact pX3_sets_39 X ih v2 v3 l3 H locs ls h hH (lv_sub hl [2, 1, 0, 3] rfl)
set_option maxHeartbeats 4000000 in
set_option maxRecDepth 100000 in
theorem uX3_sets {l : Launch} {g : GG} {a : Nat → Nat} {i : Nat} {xs : SX3} {o : Int32} (h : fX3_sets xs = some o) : mC l g yX3_sets cX3_sets 4 (some .int) (rM 2 48) [.ref (a i)] (wX3 g a i xs) (wX3 g a i xs) (some (.int o)) := by
  refine mC.ofW (by decide) (fun p e s m below meth c X hH ls _ hl => ?_) (Nat.le_of_ble_eq_true rfl)
  have hx := X.1
  have hb := X.2.1
  have hl : lv_has ls 4 [(0, .ref (a i))] := hl
  unfold fX3_sets at h
  suffices HH : ∀ (H : Heap) (locs : List Loc), mH g s (wX3 g a i xs) (wX3 g a i xs) H locs → W p l e (rM 2 48) s m _ below meth c H locs 0 0 (mZ g below _ s (wX3 g a i xs) (wX3 g a i xs) (some (.int o))) (F0 m 0 ls []) from HH _ _ hH
  clear hH
  intro H locs hH
  refine lv_iconst (v := (0 : Int32)) hx hb dX3_sets_0 (by decide) ?_
  refine s_in X (lv' := [(1, .int (0 : Int32)), (0, .ref (a i))]) hl rfl dX3_sets_1 rfl (by decide) rfl (fun ls hl => ?_)
  refine lv_iconst (v := (0 : Int32)) hx hb dX3_sets_2 (by decide) ?_
  refine s_in X (lv' := [(2, .int (0 : Int32)), (1, .int (0 : Int32)), (0, .ref (a i))]) hl rfl dX3_sets_3 rfl (by decide) rfl (fun ls hl => ?_)
  refine lv_iconst (v := (0 : Int32)) hx hb dX3_sets_4 (by decide) ?_
  refine s_in X (lv' := [(3, .int (0 : Int32)), (2, .int (0 : Int32)), (1, .int (0 : Int32)), (0, .ref (a i))]) hl rfl dX3_sets_5 rfl (by decide) rfl (fun ls hl => ?_)
  exact pX3_sets_6 X FU (0 : Int32) (0 : Int32) (0 : Int32) H locs ls h hH (lv_sub hl [3, 2, 1, 0] rfl)

def fX3_copyWay_o (xs : SX3) (xt : SX3) (pa : Int32) (pb : Int32) : Option SX3 :=
  ga 11 pa fun j1 =>
  ltt (((n_first xt) j1)) fun v1 =>
  ga 11 pb fun j2 =>
  ltt ((n_first_s xs (upd (n_first xs) j2 v1))) fun xs1 =>
  ga 11 pa fun j3 =>
  ltt (((n_second xt) j3)) fun v2 =>
  ga 11 pb fun j4 =>
  ltt ((n_second_s xs1 (upd (n_second xs1) j4 v2))) fun xs2 =>
  ga 11 pa fun j5 =>
  ltt (((n_kinds xt) j5)) fun v3 =>
  ga 11 pb fun j6 =>
  ltt ((n_kinds_s xs2 (upd (n_kinds xs2) j6 v3))) fun xs3 =>
  ga 11 pa fun j7 =>
  ltt (((n_figures xt) j7)) fun v4 =>
  ga 11 pb fun j8 =>
  ltt ((n_figures_s xs3 (upd (n_figures xs3) j8 v4))) fun xs4 =>
  ga 11 pa fun j9 =>
  ltt (((n_loads xt) j9)) fun v5 =>
  ga 11 pb fun j10 =>
  ltt ((n_loads_s xs4 (upd (n_loads xs4) j10 v5))) fun xs5 =>
  ga 11 pa fun j11 =>
  ltt (((n_lengths xt) j11)) fun v6 =>
  ga 11 pb fun j12 =>
  ltt ((n_lengths_s xs5 (upd (n_lengths xs5) j12 v6))) fun xs6 =>
  some xs6
set_option maxHeartbeats 4000000 in
set_option maxRecDepth 100000 in
theorem uX3_copyWay_o {l : Launch} {g : GG} {a : Nat → Nat} {i : Nat} {b : Nat → Nat} {j : Nat} {xs : SX3} {xt : SX3} {pa : Int32} {pb : Int32} {o : SX3} (h : fX3_copyWay_o xs xt pa pb = some o) : mC l g yX3_copyWay cX3_copyWay 4 none (rM 0 0) [.ref (a i), .ref (b j), .int pa, .int pb] ((wX3 g a i xs) ++ (wX3 g b j xt)) ((wX3 g a i o) ++ (wX3 g b j xt)) none := by
  refine mC.ofW (by decide) (fun p e s m below meth c X hH ls _ hl => ?_) (Nat.le_of_ble_eq_true rfl)
  have hx := X.1
  have hb := X.2.1
  have hl : lv_has ls 4 [(0, .ref (a i)), (1, .ref (b j)), (2, .int pa), (3, .int pb)] := hl
  unfold fX3_copyWay_o at h
  suffices HH : ∀ (H : Heap) (locs : List Loc), mH g s ((wX3 g a i xs) ++ (wX3 g b j xt)) ((wX3 g a i xs) ++ (wX3 g b j xt)) H locs → W p l e (rM 0 0) s m _ below meth c H locs 0 0 (mZ g below _ s ((wX3 g a i xs) ++ (wX3 g b j xt)) ((wX3 g a i o) ++ (wX3 g b j xt)) none) (F0 m 0 ls []) from HH _ _ hH
  clear hH
  intro H locs hH
  refine lv_aload_n hx hb dX3_copyWay_0 rfl (lv_at hl 0 rfl) ?_
  refine f_get X hH 0 rfl rfl 2 (by decide) inX3 fX3_18 rfl dX3_copyWay_1 ?_
  refine lv_iload_n hx hb dX3_copyWay_4 rfl (lv_at hl 3 rfl) ?_
  refine lv_aload_n hx hb dX3_copyWay_5 rfl (lv_at hl 1 rfl) ?_
  refine f_get X hH 7 rfl rfl 2 (by decide) inX3 fX3_18 rfl dX3_copyWay_6 ?_
  refine lv_iload_n hx hb dX3_copyWay_9 rfl (lv_at hl 2 rfl) ?_
  obtain ⟨j1, ej1, hinj1, h⟩ := ga_x h
  refine a_il X hH 8 rfl hinj1 ej1 dX3_copyWay_10 ?_
  obtain ⟨v1, ev1, h⟩ := ltt_x h
  refine lv_topi (fun y0 e0 => ?_)
  rw [← ev1] at e0
  subst y0
  obtain ⟨j2, ej2, hinj2, h⟩ := ga_x h
  obtain ⟨xs1, exs1, h⟩ := ltt_x h
  refine a_is X hH (ws1 := ((wX3 g a i xs1) ++ (wX3 g b j xt))) 1 rfl hinj2 ej2 (by rw [exs1]; rfl) dX3_copyWay_11 (fun H locs hH => ?_)
  refine lv_aload_n hx hb dX3_copyWay_12 rfl (lv_at hl 0 rfl) ?_
  refine f_get X hH 0 rfl rfl 3 (by decide) inX3 fX3_22 rfl dX3_copyWay_13 ?_
  refine lv_iload_n hx hb dX3_copyWay_16 rfl (lv_at hl 3 rfl) ?_
  refine lv_aload_n hx hb dX3_copyWay_17 rfl (lv_at hl 1 rfl) ?_
  refine f_get X hH 7 rfl rfl 3 (by decide) inX3 fX3_22 rfl dX3_copyWay_18 ?_
  refine lv_iload_n hx hb dX3_copyWay_21 rfl (lv_at hl 2 rfl) ?_
  obtain ⟨j3, ej3, hinj3, h⟩ := ga_x h
  refine a_il X hH 9 rfl hinj3 ej3 dX3_copyWay_22 ?_
  obtain ⟨v2, ev2, h⟩ := ltt_x h
  refine lv_topi (fun y0 e0 => ?_)
  rw [← ev2] at e0
  subst y0
  obtain ⟨j4, ej4, hinj4, h⟩ := ga_x h
  obtain ⟨xs2, exs2, h⟩ := ltt_x h
  refine a_is X hH (ws1 := ((wX3 g a i xs2) ++ (wX3 g b j xt))) 2 rfl hinj4 ej4 (by rw [exs2]; rfl) dX3_copyWay_23 (fun H locs hH => ?_)
  refine lv_aload_n hx hb dX3_copyWay_24 rfl (lv_at hl 0 rfl) ?_
  refine f_get X hH 0 rfl rfl 4 (by decide) inX3 fX3_25 rfl dX3_copyWay_25 ?_
  refine lv_iload_n hx hb dX3_copyWay_28 rfl (lv_at hl 3 rfl) ?_
  refine lv_aload_n hx hb dX3_copyWay_29 rfl (lv_at hl 1 rfl) ?_
  refine f_get X hH 7 rfl rfl 4 (by decide) inX3 fX3_25 rfl dX3_copyWay_30 ?_
  refine lv_iload_n hx hb dX3_copyWay_33 rfl (lv_at hl 2 rfl) ?_
  obtain ⟨j5, ej5, hinj5, h⟩ := ga_x h
  refine a_il X hH 10 rfl hinj5 ej5 dX3_copyWay_34 ?_
  obtain ⟨v3, ev3, h⟩ := ltt_x h
  refine lv_topi (fun y0 e0 => ?_)
  rw [← ev3] at e0
  subst y0
  obtain ⟨j6, ej6, hinj6, h⟩ := ga_x h
  obtain ⟨xs3, exs3, h⟩ := ltt_x h
  refine a_is X hH (ws1 := ((wX3 g a i xs3) ++ (wX3 g b j xt))) 3 rfl hinj6 ej6 (by rw [exs3]; rfl) dX3_copyWay_35 (fun H locs hH => ?_)
  refine lv_aload_n hx hb dX3_copyWay_36 rfl (lv_at hl 0 rfl) ?_
  refine f_get X hH 0 rfl rfl 5 (by decide) inX3 fX3_28 rfl dX3_copyWay_37 ?_
  refine lv_iload_n hx hb dX3_copyWay_40 rfl (lv_at hl 3 rfl) ?_
  refine lv_aload_n hx hb dX3_copyWay_41 rfl (lv_at hl 1 rfl) ?_
  refine f_get X hH 7 rfl rfl 5 (by decide) inX3 fX3_28 rfl dX3_copyWay_42 ?_
  refine lv_iload_n hx hb dX3_copyWay_45 rfl (lv_at hl 2 rfl) ?_
  obtain ⟨j7, ej7, hinj7, h⟩ := ga_x h
  refine a_il X hH 11 rfl hinj7 ej7 dX3_copyWay_46 ?_
  obtain ⟨v4, ev4, h⟩ := ltt_x h
  refine lv_topi (fun y0 e0 => ?_)
  rw [← ev4] at e0
  subst y0
  obtain ⟨j8, ej8, hinj8, h⟩ := ga_x h
  obtain ⟨xs4, exs4, h⟩ := ltt_x h
  refine a_is X hH (ws1 := ((wX3 g a i xs4) ++ (wX3 g b j xt))) 4 rfl hinj8 ej8 (by rw [exs4]; rfl) dX3_copyWay_47 (fun H locs hH => ?_)
  refine lv_aload_n hx hb dX3_copyWay_48 rfl (lv_at hl 0 rfl) ?_
  refine f_get X hH 0 rfl rfl 6 (by decide) inX3 fX3_31 rfl dX3_copyWay_49 ?_
  refine lv_iload_n hx hb dX3_copyWay_52 rfl (lv_at hl 3 rfl) ?_
  refine lv_aload_n hx hb dX3_copyWay_53 rfl (lv_at hl 1 rfl) ?_
  refine f_get X hH 7 rfl rfl 6 (by decide) inX3 fX3_31 rfl dX3_copyWay_54 ?_
  refine lv_iload_n hx hb dX3_copyWay_57 rfl (lv_at hl 2 rfl) ?_
  obtain ⟨j9, ej9, hinj9, h⟩ := ga_x h
  refine a_il X hH 12 rfl hinj9 ej9 dX3_copyWay_58 ?_
  obtain ⟨v5, ev5, h⟩ := ltt_x h
  refine lv_topi (fun y0 e0 => ?_)
  rw [← ev5] at e0
  subst y0
  obtain ⟨j10, ej10, hinj10, h⟩ := ga_x h
  obtain ⟨xs5, exs5, h⟩ := ltt_x h
  refine a_is X hH (ws1 := ((wX3 g a i xs5) ++ (wX3 g b j xt))) 5 rfl hinj10 ej10 (by rw [exs5]; rfl) dX3_copyWay_59 (fun H locs hH => ?_)
  refine lv_aload_n hx hb dX3_copyWay_60 rfl (lv_at hl 0 rfl) ?_
  refine f_get X hH 0 rfl rfl 7 (by decide) inX3 fX3_34 rfl dX3_copyWay_61 ?_
  refine lv_iload_n hx hb dX3_copyWay_64 rfl (lv_at hl 3 rfl) ?_
  refine lv_aload_n hx hb dX3_copyWay_65 rfl (lv_at hl 1 rfl) ?_
  refine f_get X hH 7 rfl rfl 7 (by decide) inX3 fX3_34 rfl dX3_copyWay_66 ?_
  refine lv_iload_n hx hb dX3_copyWay_69 rfl (lv_at hl 2 rfl) ?_
  obtain ⟨j11, ej11, hinj11, h⟩ := ga_x h
  refine a_il X hH 13 rfl hinj11 ej11 dX3_copyWay_70 ?_
  obtain ⟨v6, ev6, h⟩ := ltt_x h
  refine lv_topi (fun y0 e0 => ?_)
  rw [← ev6] at e0
  subst y0
  obtain ⟨j12, ej12, hinj12, h⟩ := ga_x h
  obtain ⟨xs6, exs6, h⟩ := ltt_x h
  refine a_is X hH (ws1 := ((wX3 g a i xs6) ++ (wX3 g b j xt))) 6 rfl hinj12 ej12 (by rw [exs6]; rfl) dX3_copyWay_71 (fun H locs hH => ?_)
  have h := Option.some.inj h
  subst h
  exact e_v X hH dX3_copyWay_72

def qX3_copy_18 (xt : SX3)  : Nat → SX3 → Int32 → Option SX3
  | 0, _, _ => none
  | fu + 1, xs, l2 =>
  (if (n_ways xs) ≤ l2 then
  some xs
  else
  (fX3_copyWay_o xs xt l2 l2).bind fun o1 =>
  ltt (l2 + (1 : Int32)) fun v3 =>
  qX3_copy_18 xt  fu o1 v3)
def fX3_copy (xs : SX3) (xt : SX3) : Option SX3 :=
  ltt ((n_points xt)) fun v1 =>
  ltt ((n_points_s xs v1)) fun xs1 =>
  ltt ((n_ways xt)) fun v2 =>
  ltt ((n_ways_s xs1 v2)) fun xs2 =>
  qX3_copy_18 xt FU xs2 (0 : Int32)
set_option maxHeartbeats 4000000 in
set_option maxRecDepth 100000 in
theorem pX3_copy_18 {p : Program} {l : Launch} {e : Env} {s : State} {m : MethodId} {args : Array Value} {below : List Frame} {meth : Method} {c : Code} {g : GG} {w0 : va_W} {a : Nat → Nat} {i : Nat} {b : Nat → Nat} {j : Nat} {xt : SX3} {o : SX3} (X : mX g yX3_copy cX3_copy 3 none p s m args meth c w0) :
  ∀ (fu : Nat) (xs : SX3) (l2 : Int32) (H : Heap) (locs : List Loc) (ls : Array Slot), qX3_copy_18 xt fu xs l2 = some o → mH g s w0 ((wX3 g a i xs) ++ (wX3 g b j xt)) H locs → lv_has ls 3 [(0, .ref (a i)), (1, .ref (b j)), (2, .int l2)] → W p l e (rM 1 23) s m args below meth c H locs 0 0 (mZ g below args s w0 ((wX3 g a i o) ++ (wX3 g b j xt)) none) (F0 m 18 ls []) := by
  have hx := X.1
  have hb := X.2.1
  intro fu
  induction fu with
  | zero =>
    intro xs l2 H locs ls h
    unfold qX3_copy_18 at h
    cases h
  | succ fu ih =>
    intro xs l2 H locs ls h hH hl
    unfold qX3_copy_18 at h
    refine lv_iload_n hx hb dX3_copy_18 rfl (lv_at hl 2 rfl) ?_
    refine lv_aload_n hx hb dX3_copy_19 rfl (lv_at hl 0 rfl) ?_
    refine f_get X hH 0 rfl rfl 1 (by decide) inX3 fX3_15 rfl dX3_copy_20 ?_
    refine lv_icmp_ge (tgt := 39) hx hb dX3_copy_23 (by decide) (fun c1 => ?_) (fun c1 => ?_)
    · have h := it_x h c1
      have h := Option.some.inj h
      subst h
      exact e_v X hH dX3_copy_39
    · have h := ie_x h c1
      refine lv_aload_n hx hb dX3_copy_26 rfl (lv_at hl 0 rfl) ?_
      refine lv_aload_n hx hb dX3_copy_27 rfl (lv_at hl 1 rfl) ?_
      refine lv_iload_n hx hb dX3_copy_28 rfl (lv_at hl 2 rfl) ?_
      refine lv_iload_n hx hb dX3_copy_29 rfl (lv_at hl 2 rfl) ?_
      obtain ⟨o1, ho1, h⟩ := bd_x h
      refine r_V X hH (ws1 := ((wX3 g a i o1) ++ (wX3 g b j xt))) (As := [.ref (b j), .int l2, .int l2]) (rest := []) (st1 := []) (uX3_copyWay_o (a := a) (i := i) (b := b) (j := j) ho1) kX3_copyWay mX3_66 iX3_copyWay vX3_copyWay zX3 okX3_copyWay ⟨Nat.le_of_ble_eq_true rfl, Nat.le_of_ble_eq_true rfl⟩ rfl rfl (q0 := 0) rfl rfl (pm_all _) (pm_all _) rfl hl.1 rfl (Nat.le_of_ble_eq_true rfl) ⟨Nat.le_refl 0, Nat.le_refl 0⟩ rfl dX3_copy_30 (fun H locs hH => ?_)
      obtain ⟨v3, ev3, h⟩ := ltt_x h
      refine s_inc X (k := 2) (lv' := [(2, .int v3), (0, .ref (a i)), (1, .ref (b j))]) hl rfl (by rw [ev3]; rfl) dX3_copy_33 (by decide) rfl (fun ls hl => ?_)
      refine lv_goto (tgt := 18) hx hb dX3_copy_36 (by decide) ?_
      exact ih o1 v3 H locs ls h hH (lv_sub hl [1, 2, 0] rfl)
set_option maxHeartbeats 4000000 in
set_option maxRecDepth 100000 in
theorem uX3_copy {l : Launch} {g : GG} {a : Nat → Nat} {i : Nat} {b : Nat → Nat} {j : Nat} {xs : SX3} {xt : SX3} {o : SX3} (h : fX3_copy xs xt = some o) : mC l g yX3_copy cX3_copy 3 none (rM 1 23) [.ref (a i), .ref (b j)] ((wX3 g a i xs) ++ (wX3 g b j xt)) ((wX3 g a i o) ++ (wX3 g b j xt)) none := by
  refine mC.ofW (by decide) (fun p e s m below meth c X hH ls _ hl => ?_) (Nat.le_of_ble_eq_true rfl)
  have hx := X.1
  have hb := X.2.1
  have hl : lv_has ls 3 [(0, .ref (a i)), (1, .ref (b j))] := hl
  unfold fX3_copy at h
  suffices HH : ∀ (H : Heap) (locs : List Loc), mH g s ((wX3 g a i xs) ++ (wX3 g b j xt)) ((wX3 g a i xs) ++ (wX3 g b j xt)) H locs → W p l e (rM 1 23) s m _ below meth c H locs 0 0 (mZ g below _ s ((wX3 g a i xs) ++ (wX3 g b j xt)) ((wX3 g a i o) ++ (wX3 g b j xt)) none) (F0 m 0 ls []) from HH _ _ hH
  clear hH
  intro H locs hH
  refine lv_aload_n hx hb dX3_copy_0 rfl (lv_at hl 0 rfl) ?_
  refine lv_aload_n hx hb dX3_copy_1 rfl (lv_at hl 1 rfl) ?_
  refine f_get X hH 7 rfl rfl 0 (by decide) inX3 fX3_9 rfl dX3_copy_2 ?_
  obtain ⟨v1, ev1, h⟩ := ltt_x h
  refine lv_topi (fun y0 e0 => ?_)
  rw [← ev1] at e0
  subst y0
  obtain ⟨xs1, exs1, h⟩ := ltt_x h
  refine f_put X hH (ws1 := ((wX3 g a i xs1) ++ (wX3 g b j xt))) 0 rfl rfl 0 (by decide) inX3 tyX3 tyX3_ok nmX3 fX3_9 rfl rfl rfl (Nat.le_of_ble_eq_true rfl) (by rw [exs1]; rfl) dX3_copy_5 (fun H locs hH => ?_)
  refine lv_aload_n hx hb dX3_copy_8 rfl (lv_at hl 0 rfl) ?_
  refine lv_aload_n hx hb dX3_copy_9 rfl (lv_at hl 1 rfl) ?_
  refine f_get X hH 7 rfl rfl 1 (by decide) inX3 fX3_15 rfl dX3_copy_10 ?_
  obtain ⟨v2, ev2, h⟩ := ltt_x h
  refine lv_topi (fun y0 e0 => ?_)
  rw [← ev2] at e0
  subst y0
  obtain ⟨xs2, exs2, h⟩ := ltt_x h
  refine f_put X hH (ws1 := ((wX3 g a i xs2) ++ (wX3 g b j xt))) 0 rfl rfl 1 (by decide) inX3 tyX3 tyX3_ok nmX3 fX3_15 rfl rfl rfl (Nat.le_of_ble_eq_true rfl) (by rw [exs2]; rfl) dX3_copy_13 (fun H locs hH => ?_)
  refine lv_iconst (v := (0 : Int32)) hx hb dX3_copy_16 (by decide) ?_
  refine s_in X (lv' := [(2, .int (0 : Int32)), (0, .ref (a i)), (1, .ref (b j))]) hl rfl dX3_copy_17 rfl (by decide) rfl (fun ls hl => ?_)
  exact pX3_copy_18 X FU xs2 (0 : Int32) H locs ls h hH (lv_sub hl [1, 2, 0] rfl)
