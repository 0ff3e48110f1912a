def fX3_lay (xs : SX3) (pa : Int32) (pb : Int32) (pc_ : Int32) (pd : Int32) (pe : Int32) : Option SX3 :=
  ga 11 pa fun j1 =>
  ltt ((n_first_s xs (upd (n_first xs) j1 pb))) fun xs1 =>
  ga 11 pa fun j2 =>
  ltt ((n_second_s xs1 (upd (n_second xs1) j2 pc_))) fun xs2 =>
  ga 11 pa fun j3 =>
  ltt ((n_kinds_s xs2 (upd (n_kinds xs2) j3 (0 : Int32)))) fun xs3 =>
  ga 11 pa fun j4 =>
  ltt ((n_figures_s xs3 (upd (n_figures xs3) j4 (0 : Int32)))) fun xs4 =>
  ga 11 pa fun j5 =>
  ltt ((n_loads_s xs4 (upd (n_loads xs4) j5 pd))) fun xs5 =>
  ga 11 pa fun j6 =>
  ltt ((n_lengths_s xs5 (upd (n_lengths xs5) j6 pe))) fun xs6 =>
  some xs6
set_option maxHeartbeats 4000000 in
set_option maxRecDepth 100000 in
theorem uX3_lay {l : Launch} {g : GG} {a : Nat → Nat} {i : Nat} {xs : SX3} {pa : Int32} {pb : Int32} {pc_ : Int32} {pd : Int32} {pe : Int32} {o : SX3} (h : fX3_lay xs pa pb pc_ pd pe = some o) : mC l g yX3_lay cX3_lay 6 none (rM 0 0) [.ref (a i), .int pa, .int pb, .int pc_, .int pd, .int pe] (wX3 g a i xs) (wX3 g a i o) none := by
  refine mC.ofW (by decide) (fun p e s m below meth c X hH ls _ hl => ?_) (Nat.le_of_ble_eq_true rfl)
  have hx := X.1
  have hb := X.2.1
  have hl : lv_has ls 6 [(0, .ref (a i)), (1, .int pa), (2, .int pb), (3, .int pc_), (4, .int pd), (5, .int pe)] := hl
  unfold fX3_lay at h
  suffices HH : ∀ (H : Heap) (locs : List Loc), mH g s (wX3 g a i xs) (wX3 g a i xs) H locs → W p l e (rM 0 0) s m _ below meth c H locs 0 0 (mZ g below _ s (wX3 g a i xs) (wX3 g a i o) none) (F0 m 0 ls []) from HH _ _ hH
  clear hH
  intro H locs hH
  refine lv_aload_n hx hb dX3_lay_0 rfl (lv_at hl 0 rfl) ?_
  refine f_get X hH 0 rfl rfl 2 (by decide) inX3 fX3_18 rfl dX3_lay_1 ?_
  refine lv_iload_n hx hb dX3_lay_4 rfl (lv_at hl 1 rfl) ?_
  refine lv_iload_n hx hb dX3_lay_5 rfl (lv_at hl 2 rfl) ?_
  obtain ⟨j1, ej1, hinj1, h⟩ := ga_x h
  obtain ⟨xs1, exs1, h⟩ := ltt_x h
  refine a_is X hH (ws1 := (wX3 g a i xs1)) 1 rfl hinj1 ej1 (by rw [exs1]; rfl) dX3_lay_6 (fun H locs hH => ?_)
  refine lv_aload_n hx hb dX3_lay_7 rfl (lv_at hl 0 rfl) ?_
  refine f_get X hH 0 rfl rfl 3 (by decide) inX3 fX3_22 rfl dX3_lay_8 ?_
  refine lv_iload_n hx hb dX3_lay_11 rfl (lv_at hl 1 rfl) ?_
  refine lv_iload_n hx hb dX3_lay_12 rfl (lv_at hl 3 rfl) ?_
  obtain ⟨j2, ej2, hinj2, h⟩ := ga_x h
  obtain ⟨xs2, exs2, h⟩ := ltt_x h
  refine a_is X hH (ws1 := (wX3 g a i xs2)) 2 rfl hinj2 ej2 (by rw [exs2]; rfl) dX3_lay_13 (fun H locs hH => ?_)
  refine lv_aload_n hx hb dX3_lay_14 rfl (lv_at hl 0 rfl) ?_
  refine f_get X hH 0 rfl rfl 4 (by decide) inX3 fX3_25 rfl dX3_lay_15 ?_
  refine lv_iload_n hx hb dX3_lay_18 rfl (lv_at hl 1 rfl) ?_
  refine lv_iconst (v := (0 : Int32)) hx hb dX3_lay_19 (by decide) ?_
  obtain ⟨j3, ej3, hinj3, h⟩ := ga_x h
  obtain ⟨xs3, exs3, h⟩ := ltt_x h
  refine a_is X hH (ws1 := (wX3 g a i xs3)) 3 rfl hinj3 ej3 (by rw [exs3]; rfl) dX3_lay_20 (fun H locs hH => ?_)
  refine lv_aload_n hx hb dX3_lay_21 rfl (lv_at hl 0 rfl) ?_
  refine f_get X hH 0 rfl rfl 5 (by decide) inX3 fX3_28 rfl dX3_lay_22 ?_
  refine lv_iload_n hx hb dX3_lay_25 rfl (lv_at hl 1 rfl) ?_
  refine lv_iconst (v := (0 : Int32)) hx hb dX3_lay_26 (by decide) ?_
  obtain ⟨j4, ej4, hinj4, h⟩ := ga_x h
  obtain ⟨xs4, exs4, h⟩ := ltt_x h
  refine a_is X hH (ws1 := (wX3 g a i xs4)) 4 rfl hinj4 ej4 (by rw [exs4]; rfl) dX3_lay_27 (fun H locs hH => ?_)
  refine lv_aload_n hx hb dX3_lay_28 rfl (lv_at hl 0 rfl) ?_
  refine f_get X hH 0 rfl rfl 6 (by decide) inX3 fX3_31 rfl dX3_lay_29 ?_
  refine lv_iload_n hx hb dX3_lay_32 rfl (lv_at hl 1 rfl) ?_
  refine lv_iload hx hb dX3_lay_33 (lv_at hl 4 rfl) ?_
  obtain ⟨j5, ej5, hinj5, h⟩ := ga_x h
  obtain ⟨xs5, exs5, h⟩ := ltt_x h
  refine a_is X hH (ws1 := (wX3 g a i xs5)) 5 rfl hinj5 ej5 (by rw [exs5]; rfl) dX3_lay_35 (fun H locs hH => ?_)
  refine lv_aload_n hx hb dX3_lay_36 rfl (lv_at hl 0 rfl) ?_
  refine f_get X hH 0 rfl rfl 7 (by decide) inX3 fX3_34 rfl dX3_lay_37 ?_
  refine lv_iload_n hx hb dX3_lay_40 rfl (lv_at hl 1 rfl) ?_
  refine lv_iload hx hb dX3_lay_41 (lv_at hl 5 rfl) ?_
  obtain ⟨j6, ej6, hinj6, h⟩ := ga_x h
  obtain ⟨xs6, exs6, h⟩ := ltt_x h
  refine a_is X hH (ws1 := (wX3 g a i xs6)) 6 rfl hinj6 ej6 (by rw [exs6]; rfl) dX3_lay_43 (fun H locs hH => ?_)
  have h := Option.some.inj h
  subst h
  exact e_v X hH dX3_lay_44

def qX3_more_19   (xs : SX3) : Option (Int32 × SX3) :=
  some (((n_ways xs) - (1 : Int32)), xs)
def fX3_more (xs : SX3) : Option (Int32 × SX3) :=
  (if (10 : Int32) < (n_ways xs) then
  qX3_more_19  xs
  else
  ltt (((n_ways xs) + (1 : Int32))) fun v1 =>
  ltt ((n_ways_s xs v1)) fun xs1 =>
  qX3_more_19  xs1)
set_option maxHeartbeats 4000000 in
set_option maxRecDepth 100000 in
theorem pX3_more_19 {p : Program} {l : Launch} {e : Env} {s : State} {m : MethodId} {args : Array Value} {below : List Frame} {meth : Method} {c : Code} {g : GG} {w0 : va_W} {a : Nat → Nat} {i : Nat}  {o : (Int32 × SX3)} (X : mX g yX3_more cX3_more 1 (some .int) p s m args meth c w0) :
  ∀ (xs : SX3) (H : Heap) (locs : List Loc) (ls : Array Slot), qX3_more_19 xs = some o → mH g s w0 (wX3 g a i xs) H locs → lv_has ls 1 [(0, .ref (a i))] → W p l e (rM 0 0) s m args below meth c H locs 0 0 (mZ g below args s w0 (wX3 g a i o.2) (some (.int o.1))) (F0 m 19 ls []) := by
  have hx := X.1
  have hb := X.2.1
  intro xs H locs ls h hH hl
  unfold qX3_more_19 at h
  refine lv_aload_n hx hb dX3_more_19 rfl (lv_at hl 0 rfl) ?_
  refine f_get X hH 0 rfl rfl 1 (by decide) inX3 fX3_15 rfl dX3_more_20 ?_
  refine lv_iconst (v := (1 : Int32)) hx hb dX3_more_23 (by decide) ?_
  refine lv_isub hx hb dX3_more_24 ?_
  have h := Option.some.inj h
  subst h
  exact e_i X hH dX3_more_25
set_option maxHeartbeats 4000000 in
set_option maxRecDepth 100000 in
theorem uX3_more {l : Launch} {g : GG} {a : Nat → Nat} {i : Nat} {xs : SX3} {o : (Int32 × SX3)} (h : fX3_more xs = some o) : mC l g yX3_more cX3_more 1 (some .int) (rM 0 0) [.ref (a i)] (wX3 g a i xs) (wX3 g a i o.2) (some (.int o.1)) := by
  refine mC.ofW (by decide) (fun p e s m below meth c X hH ls _ hl => ?_) (Nat.le_of_ble_eq_true rfl)
  have hx := X.1
  have hb := X.2.1
  have hl : lv_has ls 1 [(0, .ref (a i))] := hl
  unfold fX3_more at h
  suffices HH : ∀ (H : Heap) (locs : List Loc), mH g s (wX3 g a i xs) (wX3 g a i xs) H locs → W p l e (rM 0 0) s m _ below meth c H locs 0 0 (mZ g below _ s (wX3 g a i xs) (wX3 g a i o.2) (some (.int o.1))) (F0 m 0 ls []) from HH _ _ hH
  clear hH
  intro H locs hH
  refine lv_aload_n hx hb dX3_more_0 rfl (lv_at hl 0 rfl) ?_
  refine f_get X hH 0 rfl rfl 1 (by decide) inX3 fX3_15 rfl dX3_more_1 ?_
  refine lv_bipush (v := (10 : Int32)) hx hb dX3_more_4 (by decide) ?_
  refine lv_icmp_gt (tgt := 19) hx hb dX3_more_6 (by decide) (fun c1 => ?_) (fun c1 => ?_)
  · have h := it_x h c1
    exact pX3_more_19 X  xs H locs ls h hH (lv_sub hl [0] rfl)
  · have h := ie_x h c1
    refine lv_aload_n hx hb dX3_more_9 rfl (lv_at hl 0 rfl) ?_
    refine lv_dup hx hb dX3_more_10 rfl ?_
    refine f_get X hH 0 rfl rfl 1 (by decide) inX3 fX3_15 rfl dX3_more_11 ?_
    refine lv_iconst (v := (1 : Int32)) hx hb dX3_more_14 (by decide) ?_
    refine lv_iadd hx hb dX3_more_15 ?_
    obtain ⟨v1, ev1, h⟩ := ltt_x h
    refine lv_topi (fun y0 e0 => ?_)
    rw [← ev1] at e0
    subst y0
    obtain ⟨xs1, exs1, h⟩ := ltt_x h
    refine f_put X hH (ws1 := (wX3 g a i xs1)) 0 rfl rfl 1 (by decide) inX3 tyX3 tyX3_ok nmX3 fX3_15 rfl rfl rfl (Nat.le_of_ble_eq_true rfl) (by rw [exs1]; rfl) dX3_more_16 (fun H locs hH => ?_)
    exact pX3_more_19 X  xs1 H locs ls h hH (lv_sub hl [0] rfl)

def fX8_refusalOfNumber (pa : Int32) (pb : Int32) (pc_ : Int32) : Option Int32 :=
  (if pb ≤ pa then
  (if pa ≤ pc_ then
  some (0 : Int32)
  else
  some (-6 : Int32))
  else
  some (-4 : Int32))
set_option maxHeartbeats 4000000 in
set_option maxRecDepth 100000 in
theorem uX8_refusalOfNumber {l : Launch} {g : GG}  {pa : Int32} {pb : Int32} {pc_ : Int32} {o : Int32} (h : fX8_refusalOfNumber pa pb pc_ = some o) : mC l g yX8_refusalOfNumber cX8_refusalOfNumber 3 (some .int) (rM 0 0) [.int pa, .int pb, .int pc_] [] [] (some (.int o)) := by
  refine mC.ofW (by decide) (fun p e s m below meth c X hH ls _ hl => ?_) (Nat.le_of_ble_eq_true rfl)
  have hx := X.1
  have hb := X.2.1
  have hl : lv_has ls 3 [(0, .int pa), (1, .int pb), (2, .int pc_)] := hl
  unfold fX8_refusalOfNumber at h
  suffices HH : ∀ (H : Heap) (locs : List Loc), mH g s [] [] H locs → W p l e (rM 0 0) s m _ below meth c H locs 0 0 (mZ g below _ s [] [] (some (.int o))) (F0 m 0 ls []) from HH _ _ hH
  clear hH
  intro H locs hH
  refine lv_iload_n hx hb dX8_refusalOfNumber_0 rfl (lv_at hl 0 rfl) ?_
  refine lv_iload_n hx hb dX8_refusalOfNumber_1 rfl (lv_at hl 1 rfl) ?_
  refine lv_icmp_ge (tgt := 8) hx hb dX8_refusalOfNumber_2 (by decide) (fun c1 => ?_) (fun c1 => ?_)
  · have h := it_x h c1
    refine lv_iload_n hx hb dX8_refusalOfNumber_8 rfl (lv_at hl 0 rfl) ?_
    refine lv_iload_n hx hb dX8_refusalOfNumber_9 rfl (lv_at hl 2 rfl) ?_
    refine lv_icmp_le (tgt := 18) hx hb dX8_refusalOfNumber_10 (by decide) (fun c2 => ?_) (fun c2 => ?_)
    · have h := it_x h c2
      refine lv_iconst (v := (0 : Int32)) hx hb dX8_refusalOfNumber_18 (by decide) ?_
      have h := Option.some.inj h
      subst h
      exact e_i X hH dX8_refusalOfNumber_19
    · have h := ie_x h c2
      refine lv_bipush (v := (-6 : Int32)) hx hb dX8_refusalOfNumber_13 (by decide) ?_
      refine lv_goto (tgt := 19) hx hb dX8_refusalOfNumber_15 (by decide) ?_
      have h := Option.some.inj h
      subst h
      exact e_i X hH dX8_refusalOfNumber_19
  · have h := ie_x h c1
    refine lv_bipush (v := (-4 : Int32)) hx hb dX8_refusalOfNumber_5 (by decide) ?_
    have h := Option.some.inj h
    subst h
    exact e_i X hH dX8_refusalOfNumber_7

def fX3_copyWay_0 (xs : SX3) (pa : Int32) (pb : Int32) : Option SX3 :=
  ga 11 pa fun j1 =>
  ltt (((n_first xs) j1)) fun v1 =>
  ga 11 pb fun j2 =>
  ltt ((n_first_s xs (upd (n_first xs) j2 v1))) fun xs1 =>
  ga 11 pa fun j3 =>
  ltt (((n_second xs1) j3)) fun v2 =>
  ga 11 pb fun j4 =>
  ltt ((n_second_s xs1 (upd (n_second xs1) j4 v2))) fun xs2 =>
  ga 11 pa fun j5 =>
  ltt (((n_kinds xs2) j5)) fun v3 =>
  ga 11 pb fun j6 =>
  ltt ((n_kinds_s xs2 (upd (n_kinds xs2) j6 v3))) fun xs3 =>
  ga 11 pa fun j7 =>
  ltt (((n_figures xs3) j7)) fun v4 =>
  ga 11 pb fun j8 =>
  ltt ((n_figures_s xs3 (upd (n_figures xs3) j8 v4))) fun xs4 =>
  ga 11 pa fun j9 =>
  ltt (((n_loads xs4) j9)) fun v5 =>
  ga 11 pb fun j10 =>
  ltt ((n_loads_s xs4 (upd (n_loads xs4) j10 v5))) fun xs5 =>
  ga 11 pa fun j11 =>
  ltt (((n_lengths xs5) j11)) fun v6 =>
  ga 11 pb fun j12 =>
  ltt ((n_lengths_s xs5 (upd (n_lengths xs5) j12 v6))) fun xs6 =>
  some xs6
set_option maxHeartbeats 4000000 in
set_option maxRecDepth 100000 in
theorem uX3_copyWay_0 {l : Launch} {g : GG} {a : Nat → Nat} {i : Nat} {xs : SX3} {pa : Int32} {pb : Int32} {o : SX3} (h : fX3_copyWay_0 xs pa pb = some o) : mC l g yX3_copyWay cX3_copyWay 4 none (rM 0 0) [.ref (a i), .ref (a i), .int pa, .int pb] (wX3 g a i xs) (wX3 g a i o) none := by
  refine mC.ofW (by decide) (fun p e s m below meth c X hH ls _ hl => ?_) (Nat.le_of_ble_eq_true rfl)
  have hx := X.1
  have hb := X.2.1
  have hl : lv_has ls 4 [(0, .ref (a i)), (1, .ref (a i)), (2, .int pa), (3, .int pb)] := hl
  unfold fX3_copyWay_0 at h
  suffices HH : ∀ (H : Heap) (locs : List Loc), mH g s (wX3 g a i xs) (wX3 g a i xs) H locs → W p l e (rM 0 0) s m _ below meth c H locs 0 0 (mZ g below _ s (wX3 g a i xs) (wX3 g a i o) none) (F0 m 0 ls []) from HH _ _ hH
  clear hH
  intro H locs hH
  refine lv_aload_n hx hb dX3_copyWay_0 rfl (lv_at hl 0 rfl) ?_
  refine f_get X hH 0 rfl rfl 2 (by decide) inX3 fX3_18 rfl dX3_copyWay_1 ?_
  refine lv_iload_n hx hb dX3_copyWay_4 rfl (lv_at hl 3 rfl) ?_
  refine lv_aload_n hx hb dX3_copyWay_5 rfl (lv_at hl 1 rfl) ?_
  refine f_get X hH 0 rfl rfl 2 (by decide) inX3 fX3_18 rfl dX3_copyWay_6 ?_
  refine lv_iload_n hx hb dX3_copyWay_9 rfl (lv_at hl 2 rfl) ?_
  obtain ⟨j1, ej1, hinj1, h⟩ := ga_x h
  refine a_il X hH 1 rfl hinj1 ej1 dX3_copyWay_10 ?_
  obtain ⟨v1, ev1, h⟩ := ltt_x h
  refine lv_topi (fun y0 e0 => ?_)
  rw [← ev1] at e0
  subst y0
  obtain ⟨j2, ej2, hinj2, h⟩ := ga_x h
  obtain ⟨xs1, exs1, h⟩ := ltt_x h
  refine a_is X hH (ws1 := (wX3 g a i xs1)) 1 rfl hinj2 ej2 (by rw [exs1]; rfl) dX3_copyWay_11 (fun H locs hH => ?_)
  refine lv_aload_n hx hb dX3_copyWay_12 rfl (lv_at hl 0 rfl) ?_
  refine f_get X hH 0 rfl rfl 3 (by decide) inX3 fX3_22 rfl dX3_copyWay_13 ?_
  refine lv_iload_n hx hb dX3_copyWay_16 rfl (lv_at hl 3 rfl) ?_
  refine lv_aload_n hx hb dX3_copyWay_17 rfl (lv_at hl 1 rfl) ?_
  refine f_get X hH 0 rfl rfl 3 (by decide) inX3 fX3_22 rfl dX3_copyWay_18 ?_
  refine lv_iload_n hx hb dX3_copyWay_21 rfl (lv_at hl 2 rfl) ?_
  obtain ⟨j3, ej3, hinj3, h⟩ := ga_x h
  refine a_il X hH 2 rfl hinj3 ej3 dX3_copyWay_22 ?_
  obtain ⟨v2, ev2, h⟩ := ltt_x h
  refine lv_topi (fun y0 e0 => ?_)
  rw [← ev2] at e0
  subst y0
  obtain ⟨j4, ej4, hinj4, h⟩ := ga_x h
  obtain ⟨xs2, exs2, h⟩ := ltt_x h
  refine a_is X hH (ws1 := (wX3 g a i xs2)) 2 rfl hinj4 ej4 (by rw [exs2]; rfl) dX3_copyWay_23 (fun H locs hH => ?_)
  refine lv_aload_n hx hb dX3_copyWay_24 rfl (lv_at hl 0 rfl) ?_
  refine f_get X hH 0 rfl rfl 4 (by decide) inX3 fX3_25 rfl dX3_copyWay_25 ?_
  refine lv_iload_n hx hb dX3_copyWay_28 rfl (lv_at hl 3 rfl) ?_
  refine lv_aload_n hx hb dX3_copyWay_29 rfl (lv_at hl 1 rfl) ?_
  refine f_get X hH 0 rfl rfl 4 (by decide) inX3 fX3_25 rfl dX3_copyWay_30 ?_
  refine lv_iload_n hx hb dX3_copyWay_33 rfl (lv_at hl 2 rfl) ?_
  obtain ⟨j5, ej5, hinj5, h⟩ := ga_x h
  refine a_il X hH 3 rfl hinj5 ej5 dX3_copyWay_34 ?_
  obtain ⟨v3, ev3, h⟩ := ltt_x h
  refine lv_topi (fun y0 e0 => ?_)
  rw [← ev3] at e0
  subst y0
  obtain ⟨j6, ej6, hinj6, h⟩ := ga_x h
  obtain ⟨xs3, exs3, h⟩ := ltt_x h
  refine a_is X hH (ws1 := (wX3 g a i xs3)) 3 rfl hinj6 ej6 (by rw [exs3]; rfl) dX3_copyWay_35 (fun H locs hH => ?_)
  refine lv_aload_n hx hb dX3_copyWay_36 rfl (lv_at hl 0 rfl) ?_
  refine f_get X hH 0 rfl rfl 5 (by decide) inX3 fX3_28 rfl dX3_copyWay_37 ?_
  refine lv_iload_n hx hb dX3_copyWay_40 rfl (lv_at hl 3 rfl) ?_
  refine lv_aload_n hx hb dX3_copyWay_41 rfl (lv_at hl 1 rfl) ?_
  refine f_get X hH 0 rfl rfl 5 (by decide) inX3 fX3_28 rfl dX3_copyWay_42 ?_
  refine lv_iload_n hx hb dX3_copyWay_45 rfl (lv_at hl 2 rfl) ?_
  obtain ⟨j7, ej7, hinj7, h⟩ := ga_x h
  refine a_il X hH 4 rfl hinj7 ej7 dX3_copyWay_46 ?_
  obtain ⟨v4, ev4, h⟩ := ltt_x h
  refine lv_topi (fun y0 e0 => ?_)
  rw [← ev4] at e0
  subst y0
  obtain ⟨j8, ej8, hinj8, h⟩ := ga_x h
  obtain ⟨xs4, exs4, h⟩ := ltt_x h
  refine a_is X hH (ws1 := (wX3 g a i xs4)) 4 rfl hinj8 ej8 (by rw [exs4]; rfl) dX3_copyWay_47 (fun H locs hH => ?_)
  refine lv_aload_n hx hb dX3_copyWay_48 rfl (lv_at hl 0 rfl) ?_
  refine f_get X hH 0 rfl rfl 6 (by decide) inX3 fX3_31 rfl dX3_copyWay_49 ?_
  refine lv_iload_n hx hb dX3_copyWay_52 rfl (lv_at hl 3 rfl) ?_
  refine lv_aload_n hx hb dX3_copyWay_53 rfl (lv_at hl 1 rfl) ?_
  refine f_get X hH 0 rfl rfl 6 (by decide) inX3 fX3_31 rfl dX3_copyWay_54 ?_
  refine lv_iload_n hx hb dX3_copyWay_57 rfl (lv_at hl 2 rfl) ?_
  obtain ⟨j9, ej9, hinj9, h⟩ := ga_x h
  refine a_il X hH 5 rfl hinj9 ej9 dX3_copyWay_58 ?_
  obtain ⟨v5, ev5, h⟩ := ltt_x h
  refine lv_topi (fun y0 e0 => ?_)
  rw [← ev5] at e0
  subst y0
  obtain ⟨j10, ej10, hinj10, h⟩ := ga_x h
  obtain ⟨xs5, exs5, h⟩ := ltt_x h
  refine a_is X hH (ws1 := (wX3 g a i xs5)) 5 rfl hinj10 ej10 (by rw [exs5]; rfl) dX3_copyWay_59 (fun H locs hH => ?_)
  refine lv_aload_n hx hb dX3_copyWay_60 rfl (lv_at hl 0 rfl) ?_
  refine f_get X hH 0 rfl rfl 7 (by decide) inX3 fX3_34 rfl dX3_copyWay_61 ?_
  refine lv_iload_n hx hb dX3_copyWay_64 rfl (lv_at hl 3 rfl) ?_
  refine lv_aload_n hx hb dX3_copyWay_65 rfl (lv_at hl 1 rfl) ?_
  refine f_get X hH 0 rfl rfl 7 (by decide) inX3 fX3_34 rfl dX3_copyWay_66 ?_
  refine lv_iload_n hx hb dX3_copyWay_69 rfl (lv_at hl 2 rfl) ?_
  obtain ⟨j11, ej11, hinj11, h⟩ := ga_x h
  refine a_il X hH 6 rfl hinj11 ej11 dX3_copyWay_70 ?_
  obtain ⟨v6, ev6, h⟩ := ltt_x h
  refine lv_topi (fun y0 e0 => ?_)
  rw [← ev6] at e0
  subst y0
  obtain ⟨j12, ej12, hinj12, h⟩ := ga_x h
  obtain ⟨xs6, exs6, h⟩ := ltt_x h
  refine a_is X hH (ws1 := (wX3 g a i xs6)) 6 rfl hinj12 ej12 (by rw [exs6]; rfl) dX3_copyWay_71 (fun H locs hH => ?_)
  have h := Option.some.inj h
  subst h
  exact e_v X hH dX3_copyWay_72

def qX3_changePoints_68 (pa : Int32) (k25 : SX3 → Int32 → Int32 → Int32 → Option (Int32 × SX3)) (xs : SX3) (l3 : Int32) (l4 : Int32) (l5 : Int32) : Option (Int32 × SX3) :=
  ltt (l5 + (1 : Int32)) fun v2 =>
  k25 xs l3 l4 v2
def qX3_changePoints_25 (pa : Int32)  : Nat → SX3 → Int32 → Int32 → Int32 → Option (Int32 × SX3)
  | 0, _, _, _, _ => none
  | fu + 1, xs, l3, l4, l5 =>
  (if (n_ways xs) ≤ l5 then
  ltt ((n_points_s xs pa)) fun xs1 =>
  ltt ((n_ways_s xs1 l4)) fun xs2 =>
  some (l3, xs2)
  else
  ga 11 l5 fun j1 =>
  (if pa ≤ ((n_first xs) j1) then
  qX3_changePoints_68 pa (qX3_changePoints_25 pa  fu) xs l3 l4 l5
  else
  ga 11 l5 fun j2 =>
  (if pa ≤ ((n_second xs) j2) then
  qX3_changePoints_68 pa (qX3_changePoints_25 pa  fu) xs l3 l4 l5
  else
  (fX3_copyWay_0 xs l5 l4).bind fun o2 =>
  ltt (l4 + (1 : Int32)) fun v3 =>
  qX3_changePoints_68 pa (qX3_changePoints_25 pa  fu) o2 l3 v3 l5)))
def fX3_changePoints (xs : SX3) (pa : Int32) : Option (Int32 × SX3) :=
  (fX8_refusalOfNumber pa (2 : Int32) (6 : Int32)).bind fun o1 =>
  (if o1 = (0 : Int32) then
  ltt ((n_points xs)) fun v1 =>
  qX3_changePoints_25 pa FU xs v1 (0 : Int32) (0 : Int32)
  else
  some (o1, xs))
set_option maxHeartbeats 4000000 in
set_option maxRecDepth 100000 in
theorem pX3_changePoints_68 {p : Program} {l : Launch} {e : Env} {s : State} {m : MethodId} {args : Array Value} {below : List Frame} {meth : Method} {c : Code} {g : GG} {w0 : va_W} {a : Nat → Nat} {i : Nat} {pa : Int32} {o : (Int32 × SX3)} (X : mX g yX3_changePoints cX3_changePoints 6 (some .int) p s m args meth c w0)
  {k25 : SX3 → Int32 → Int32 → Int32 → Option (Int32 × SX3)} (K25 : ∀ (xs : SX3) (l3 : Int32) (l4 : Int32) (l5 : Int32) (H : Heap) (locs : List Loc) (ls : Array Slot), k25 xs l3 l4 l5 = some o → mH g s w0 (wX3 g a i xs) H locs → lv_has ls 6 [(0, .ref (a i)), (1, .int pa), (3, .int l3), (4, .int l4), (5, .int l5)] → W p l e (rM 1 23) s m args below meth c H locs 0 0 (mZ g below args s w0 (wX3 g a i o.2) (some (.int o.1))) (F0 m 25 ls [])) :
  ∀ (xs : SX3) (l3 : Int32) (l4 : Int32) (l5 : Int32) (H : Heap) (locs : List Loc) (ls : Array Slot), qX3_changePoints_68 pa k25 xs l3 l4 l5 = some o → mH g s w0 (wX3 g a i xs) H locs → lv_has ls 6 [(0, .ref (a i)), (1, .int pa), (3, .int l3), (4, .int l4), (5, .int l5)] → W p l e (rM 1 23) s m args below meth c H locs 0 0 (mZ g below args s w0 (wX3 g a i o.2) (some (.int o.1))) (F0 m 68 ls []) := by
  have hx := X.1
  have hb := X.2.1
  intro xs l3 l4 l5 H locs ls h hH hl
  unfold qX3_changePoints_68 at h
  obtain ⟨v2, ev2, h⟩ := ltt_x h
  refine s_inc X (k := 4) (lv' := [(5, .int v2), (0, .ref (a i)), (1, .int pa), (3, .int l3), (4, .int l4)]) hl rfl (by rw [ev2]; rfl) dX3_changePoints_68 (by decide) rfl (fun ls hl => ?_)
  refine lv_goto (tgt := 25) hx hb dX3_changePoints_71 (by decide) ?_
  exact K25 xs l3 l4 v2 H locs ls h hH (lv_sub hl [1, 2, 3, 4, 0] rfl)
set_option maxHeartbeats 4000000 in
set_option maxRecDepth 100000 in
theorem pX3_changePoints_25 {p : Program} {l : Launch} {e : Env} {s : State} {m : MethodId} {args : Array Value} {below : List Frame} {meth : Method} {c : Code} {g : GG} {w0 : va_W} {a : Nat → Nat} {i : Nat} {pa : Int32} {o : (Int32 × SX3)} (X : mX g yX3_changePoints cX3_changePoints 6 (some .int) p s m args meth c w0) :
  ∀ (fu : Nat) (xs : SX3) (l3 : Int32) (l4 : Int32) (l5 : Int32) (H : Heap) (locs : List Loc) (ls : Array Slot), qX3_changePoints_25 pa fu xs l3 l4 l5 = some o → mH g s w0 (wX3 g a i xs) H locs → lv_has ls 6 [(0, .ref (a i)), (1, .int pa), (3, .int l3), (4, .int l4), (5, .int l5)] → W p l e (rM 1 23) s m args below meth c H locs 0 0 (mZ g below args s w0 (wX3 g a i o.2) (some (.int o.1))) (F0 m 25 ls []) := by
  have hx := X.1
  have hb := X.2.1
  intro fu
  induction fu with
  | zero =>
    intro xs l3 l4 l5 H locs ls h
    unfold qX3_changePoints_25 at h
    cases h
  | succ fu ih =>
    intro xs l3 l4 l5 H locs ls h hH hl
    unfold qX3_changePoints_25 at h
    refine lv_iload hx hb dX3_changePoints_25 (lv_at hl 4 rfl) ?_
    refine lv_aload_n hx hb dX3_changePoints_27 rfl (lv_at hl 0 rfl) ?_
    refine f_get X hH 0 rfl rfl 1 (by decide) inX3 fX3_15 rfl dX3_changePoints_28 ?_
    refine lv_icmp_ge (tgt := 74) hx hb dX3_changePoints_31 (by decide) (fun c2 => ?_) (fun c2 => ?_)
    · have h := it_x h c2
      refine lv_aload_n hx hb dX3_changePoints_74 rfl (lv_at hl 0 rfl) ?_
      refine lv_iload_n hx hb dX3_changePoints_75 rfl (lv_at hl 1 rfl) ?_
      obtain ⟨xs1, exs1, h⟩ := ltt_x h
      refine f_put X hH (ws1 := (wX3 g a i xs1)) 0 rfl rfl 0 (by decide) inX3 tyX3 tyX3_ok nmX3 fX3_9 rfl rfl rfl (Nat.le_of_ble_eq_true rfl) (by rw [exs1]; rfl) dX3_changePoints_76 (fun H locs hH => ?_)
      refine lv_aload_n hx hb dX3_changePoints_79 rfl (lv_at hl 0 rfl) ?_
      refine lv_iload hx hb dX3_changePoints_80 (lv_at hl 3 rfl) ?_
      obtain ⟨xs2, exs2, h⟩ := ltt_x h
      refine f_put X hH (ws1 := (wX3 g a i xs2)) 0 rfl rfl 1 (by decide) inX3 tyX3 tyX3_ok nmX3 fX3_15 rfl rfl rfl (Nat.le_of_ble_eq_true rfl) (by rw [exs2]; rfl) dX3_changePoints_82 (fun H locs hH => ?_)
      refine lv_iload_n hx hb dX3_changePoints_85 rfl (lv_at hl 2 rfl) ?_
      have h := Option.some.inj h
      subst h
      exact e_i X hH dX3_changePoints_86
    · have h := ie_x h c2
      refine lv_aload_n hx hb dX3_changePoints_34 rfl (lv_at hl 0 rfl) ?_
      refine f_get X hH 0 rfl rfl 2 (by decide) inX3 fX3_18 rfl dX3_changePoints_35 ?_
      refine lv_iload hx hb dX3_changePoints_38 (lv_at hl 4 rfl) ?_
      obtain ⟨j1, ej1, hinj1, h⟩ := ga_x h
      refine a_il X hH 1 rfl hinj1 ej1 dX3_changePoints_40 ?_
      refine lv_iload_n hx hb dX3_changePoints_41 rfl (lv_at hl 1 rfl) ?_
      refine lv_icmp_ge (tgt := 68) hx hb dX3_changePoints_42 (by decide) (fun c3 => ?_) (fun c3 => ?_)
      · have h := it_x h c3
        exact pX3_changePoints_68 X ih xs l3 l4 l5 H locs ls h hH (lv_sub hl [0, 1, 2, 3, 4] rfl)
      · have h := ie_x h c3
        refine lv_aload_n hx hb dX3_changePoints_45 rfl (lv_at hl 0 rfl) ?_
        refine f_get X hH 0 rfl rfl 3 (by decide) inX3 fX3_22 rfl dX3_changePoints_46 ?_
        refine lv_iload hx hb dX3_changePoints_49 (lv_at hl 4 rfl) ?_
        obtain ⟨j2, ej2, hinj2, h⟩ := ga_x h
        refine a_il X hH 2 rfl hinj2 ej2 dX3_changePoints_51 ?_
        refine lv_iload_n hx hb dX3_changePoints_52 rfl (lv_at hl 1 rfl) ?_
        refine lv_icmp_ge (tgt := 68) hx hb dX3_changePoints_53 (by decide) (fun c4 => ?_) (fun c4 => ?_)
        · have h := it_x h c4
          exact pX3_changePoints_68 X ih xs l3 l4 l5 H locs ls h hH (lv_sub hl [0, 1, 2, 3, 4] rfl)
        · have h := ie_x h c4
          refine lv_aload_n hx hb dX3_changePoints_56 rfl (lv_at hl 0 rfl) ?_
          refine lv_aload_n hx hb dX3_changePoints_57 rfl (lv_at hl 0 rfl) ?_
          refine lv_iload hx hb dX3_changePoints_58 (lv_at hl 4 rfl) ?_
          refine lv_iload hx hb dX3_changePoints_60 (lv_at hl 3 rfl) ?_
          obtain ⟨o2, ho2, h⟩ := bd_x h
          refine r_V X hH (ws1 := (wX3 g a i o2)) (As := [.ref (a i), .int l5, .int l4]) (rest := []) (st1 := []) (uX3_copyWay_0 (a := a) (i := i) ho2) kX3_copyWay mX3_66 iX3_copyWay vX3_copyWay zX3 okX3_copyWay ⟨Nat.le_of_ble_eq_true rfl, Nat.le_of_ble_eq_true rfl⟩ rfl rfl (q0 := 0) rfl rfl (pm_all _) (pm_all _) rfl hl.1 rfl (Nat.le_of_ble_eq_true rfl) ⟨Nat.le_refl 0, Nat.le_refl 0⟩ rfl dX3_changePoints_62 (fun H locs hH => ?_)
          obtain ⟨v3, ev3, h⟩ := ltt_x h
          refine s_inc X (k := 3) (lv' := [(4, .int v3), (0, .ref (a i)), (1, .int pa), (3, .int l3), (5, .int l5)]) hl rfl (by rw [ev3]; rfl) dX3_changePoints_65 (by decide) rfl (fun ls hl => ?_)
          exact pX3_changePoints_68 X ih o2 l3 v3 l5 H locs ls h hH (lv_sub hl [1, 2, 3, 0, 4] rfl)
set_option maxHeartbeats 4000000 in
set_option maxRecDepth 100000 in
theorem uX3_changePoints {l : Launch} {g : GG} {a : Nat → Nat} {i : Nat} {xs : SX3} {pa : Int32} {o : (Int32 × SX3)} (h : fX3_changePoints xs pa = some o) : mC l g yX3_changePoints cX3_changePoints 6 (some .int) (rM 1 23) [.ref (a i), .int pa] (wX3 g a i xs) (wX3 g a i o.2) (some (.int o.1)) := by
  refine mC.ofW (by decide) (fun p e s m below meth c X hH ls _ hl => ?_) (Nat.le_of_ble_eq_true rfl)
  have hx := X.1
  have hb := X.2.1
  have hl : lv_has ls 6 [(0, .ref (a i)), (1, .int pa)] := hl
  unfold fX3_changePoints at h
  suffices HH : ∀ (H : Heap) (locs : List Loc), mH g s (wX3 g a i xs) (wX3 g a i xs) H locs → W p l e (rM 1 23) s m _ below meth c H locs 0 0 (mZ g below _ s (wX3 g a i xs) (wX3 g a i o.2) (some (.int o.1))) (F0 m 0 ls []) from HH _ _ hH
  clear hH
  intro H locs hH
  refine lv_iload_n hx hb dX3_changePoints_0 rfl (lv_at hl 1 rfl) ?_
  refine lv_iconst (v := (2 : Int32)) hx hb dX3_changePoints_1 (by decide) ?_
  refine lv_bipush (v := (6 : Int32)) hx hb dX3_changePoints_2 (by decide) ?_
  obtain ⟨o1, ho1, h⟩ := bd_x h
  refine r_SN X hH (ws1 := (wX3 g a i xs)) (As := [.int pa, .int (2 : Int32), .int (6 : Int32)]) (rest := []) (st1 := [.int o1]) (uX8_refusalOfNumber  ho1) kX8_refusalOfNumber nnX3_70 sX8_refusalOfNumber zX8 okX8_refusalOfNumber ⟨Nat.le_of_ble_eq_true rfl, Nat.le_of_ble_eq_true rfl⟩ rfl rfl (pm_none _) (pm_none _) rfl hl.1 rfl (Nat.le_of_ble_eq_true rfl) ⟨Nat.le_refl 0, Nat.le_refl 0⟩ rfl dX3_changePoints_4 (fun H locs hH => ?_)
  refine s_in X (lv' := [(2, .int o1), (0, .ref (a i)), (1, .int pa)]) hl rfl dX3_changePoints_7 rfl (by decide) rfl (fun ls hl => ?_)
  refine lv_iload_n hx hb dX3_changePoints_8 rfl (lv_at hl 0 rfl) ?_
  refine lv_if_eq (tgt := 14) hx hb dX3_changePoints_9 (by decide) (fun c1 => ?_) (fun c1 => ?_)
  · have h := it_x h c1
    refine lv_aload_n hx hb dX3_changePoints_14 rfl (lv_at hl 1 rfl) ?_
    refine f_get X hH 0 rfl rfl 0 (by decide) inX3 fX3_9 rfl dX3_changePoints_15 ?_
    obtain ⟨v1, ev1, h⟩ := ltt_x h
    refine s_in X (lv' := [(3, .int v1), (2, .int o1), (0, .ref (a i)), (1, .int pa)]) hl ev1 dX3_changePoints_18 rfl (by decide) rfl (fun ls hl => ?_)
    refine lv_iconst (v := (0 : Int32)) hx hb dX3_changePoints_19 (by decide) ?_
    refine s_i X (lv' := [(4, .int (0 : Int32)), (3, .int v1), (2, .int o1), (0, .ref (a i)), (1, .int pa)]) hl rfl dX3_changePoints_20 (by decide) rfl (fun ls hl => ?_)
    refine lv_iconst (v := (0 : Int32)) hx hb dX3_changePoints_22 (by decide) ?_
    refine s_i X (lv' := [(5, .int (0 : Int32)), (4, .int (0 : Int32)), (3, .int v1), (2, .int o1), (0, .ref (a i)), (1, .int pa)]) hl rfl dX3_changePoints_23 (by decide) rfl (fun ls hl => ?_)
    exact pX3_changePoints_25 X FU xs v1 (0 : Int32) (0 : Int32) H locs ls h hH (lv_sub hl [4, 5, 2, 1, 0] rfl)
  · have h := ie_x h c1
    refine lv_iload_n hx hb dX3_changePoints_12 rfl (lv_at hl 0 rfl) ?_
    have h := Option.some.inj h
    subst h
    exact e_i X hH dX3_changePoints_13

def fX3_join (xs : SX3) (pa : Int32) (pb : Int32) (pc_ : Int32) (pd : Int32) : Option (Int32 × SX3) :=
  (fX3_isPoint xs pa).bind fun o1 =>
  (if o1 = (0 : Int32) then
  some ((-1 : Int32), xs)
  else
  (fX3_isPoint xs pb).bind fun o2 =>
  (if o2 = (0 : Int32) then
  some ((-1 : Int32), xs)
  else
  (if pa = pb then
  some ((-1 : Int32), xs)
  else
  (if pc_ < (1 : Int32) then
  some ((-4 : Int32), xs)
  else
  (if (1 : Int32) ≤ pd then
  (if (9 : Int32) < pc_ then
  some ((-6 : Int32), xs)
  else
  (if (9 : Int32) < pd then
  some ((-6 : Int32), xs)
  else
  (if (n_ways xs) < (10 : Int32) then
  (fX3_more xs).bind fun o3 =>
  (fX3_lay o3.2 o3.1 pa pb pc_ pd).bind fun o4 =>
  some (o3.1, o4)
  else
  some ((-6 : Int32), xs))))
  else
  some ((-4 : Int32), xs))))))
set_option maxHeartbeats 4000000 in
set_option maxRecDepth 100000 in
theorem uX3_join {l : Launch} {g : GG} {a : Nat → Nat} {i : Nat} {xs : SX3} {pa : Int32} {pb : Int32} {pc_ : Int32} {pd : Int32} {o : (Int32 × SX3)} (h : fX3_join xs pa pb pc_ pd = some o) : mC l g yX3_join cX3_join 6 (some .int) (rM 1 25) [.ref (a i), .int pa, .int pb, .int pc_, .int pd] (wX3 g a i xs) (wX3 g a i o.2) (some (.int o.1)) := by
  refine mC.ofW (by decide) (fun p e s m below meth c X hH ls _ hl => ?_) (Nat.le_of_ble_eq_true rfl)
  have hx := X.1
  have hb := X.2.1
  have hl : lv_has ls 6 [(0, .ref (a i)), (1, .int pa), (2, .int pb), (3, .int pc_), (4, .int pd)] := hl
  unfold fX3_join at h
  suffices HH : ∀ (H : Heap) (locs : List Loc), mH g s (wX3 g a i xs) (wX3 g a i xs) H locs → W p l e (rM 1 25) s m _ below meth c H locs 0 0 (mZ g below _ s (wX3 g a i xs) (wX3 g a i o.2) (some (.int o.1))) (F0 m 0 ls []) from HH _ _ hH
  clear hH
  intro H locs hH
  refine lv_aload_n hx hb dX3_join_0 rfl (lv_at hl 0 rfl) ?_
  refine lv_iload_n hx hb dX3_join_1 rfl (lv_at hl 1 rfl) ?_
  obtain ⟨o1, ho1, h⟩ := bd_x h
  refine r_V X hH (ws1 := (wX3 g a i xs)) (As := [.int pa]) (rest := []) (st1 := [.int o1]) (uX3_isPoint (a := a) (i := i) ho1) kX3_isPoint mX3_73 iX3_isPoint vX3_isPoint zX3 okX3_isPoint ⟨Nat.le_of_ble_eq_true rfl, Nat.le_of_ble_eq_true rfl⟩ rfl rfl (q0 := 0) rfl rfl (pm_all _) (pm_all _) rfl hl.1 rfl (Nat.le_of_ble_eq_true rfl) ⟨Nat.le_refl 0, Nat.le_refl 0⟩ rfl dX3_join_2 (fun H locs hH => ?_)
  refine lv_if_eq (tgt := 21) hx hb dX3_join_5 (by decide) (fun c1 => ?_) (fun c1 => ?_)
  · have h := it_x h c1
    refine lv_iconst (v := (-1 : Int32)) hx hb dX3_join_21 (by decide) ?_
    have h := Option.some.inj h
    subst h
    exact e_i X hH dX3_join_22
  · have h := ie_x h c1
    refine lv_aload_n hx hb dX3_join_8 rfl (lv_at hl 0 rfl) ?_
    refine lv_iload_n hx hb dX3_join_9 rfl (lv_at hl 2 rfl) ?_
    obtain ⟨o2, ho2, h⟩ := bd_x h
    refine r_V X hH (ws1 := (wX3 g a i xs)) (As := [.int pb]) (rest := []) (st1 := [.int o2]) (uX3_isPoint (a := a) (i := i) ho2) kX3_isPoint mX3_73 iX3_isPoint vX3_isPoint zX3 okX3_isPoint ⟨Nat.le_of_ble_eq_true rfl, Nat.le_of_ble_eq_true rfl⟩ rfl rfl (q0 := 0) rfl rfl (pm_all _) (pm_all _) rfl hl.1 rfl (Nat.le_of_ble_eq_true rfl) ⟨Nat.le_refl 0, Nat.le_refl 0⟩ rfl dX3_join_10 (fun H locs hH => ?_)
    refine lv_if_eq (tgt := 21) hx hb dX3_join_13 (by decide) (fun c2 => ?_) (fun c2 => ?_)
    · have h := it_x h c2
      refine lv_iconst (v := (-1 : Int32)) hx hb dX3_join_21 (by decide) ?_
      have h := Option.some.inj h
      subst h
      exact e_i X hH dX3_join_22
    · have h := ie_x h c2
      refine lv_iload_n hx hb dX3_join_16 rfl (lv_at hl 1 rfl) ?_
      refine lv_iload_n hx hb dX3_join_17 rfl (lv_at hl 2 rfl) ?_
      refine lv_icmp_ne (tgt := 23) hx hb dX3_join_18 (by decide) (fun c3 => ?_) (fun c3 => ?_)
      · have h := ie_x h c3
        refine lv_iload_n hx hb dX3_join_23 rfl (lv_at hl 3 rfl) ?_
        refine lv_iconst (v := (1 : Int32)) hx hb dX3_join_24 (by decide) ?_
        refine lv_icmp_lt (tgt := 34) hx hb dX3_join_25 (by decide) (fun c4 => ?_) (fun c4 => ?_)
        · have h := it_x h c4
          refine lv_bipush (v := (-4 : Int32)) hx hb dX3_join_34 (by decide) ?_
          have h := Option.some.inj h
          subst h
          exact e_i X hH dX3_join_36
        · have h := ie_x h c4
          refine lv_iload hx hb dX3_join_28 (lv_at hl 4 rfl) ?_
          refine lv_iconst (v := (1 : Int32)) hx hb dX3_join_30 (by decide) ?_
          refine lv_icmp_ge (tgt := 37) hx hb dX3_join_31 (by decide) (fun c5 => ?_) (fun c5 => ?_)
          · have h := it_x h c5
            refine lv_iload_n hx hb dX3_join_37 rfl (lv_at hl 3 rfl) ?_
            refine lv_bipush (v := (9 : Int32)) hx hb dX3_join_38 (by decide) ?_
            refine lv_icmp_gt (tgt := 59) hx hb dX3_join_40 (by decide) (fun c6 => ?_) (fun c6 => ?_)
            · have h := it_x h c6
              refine lv_bipush (v := (-6 : Int32)) hx hb dX3_join_59 (by decide) ?_
              have h := Option.some.inj h
              subst h
              exact e_i X hH dX3_join_61
            · have h := ie_x h c6
              refine lv_iload hx hb dX3_join_43 (lv_at hl 4 rfl) ?_
              refine lv_bipush (v := (9 : Int32)) hx hb dX3_join_45 (by decide) ?_
              refine lv_icmp_gt (tgt := 59) hx hb dX3_join_47 (by decide) (fun c7 => ?_) (fun c7 => ?_)
              · have h := it_x h c7
                refine lv_bipush (v := (-6 : Int32)) hx hb dX3_join_59 (by decide) ?_
                have h := Option.some.inj h
                subst h
                exact e_i X hH dX3_join_61
              · have h := ie_x h c7
                refine lv_aload_n hx hb dX3_join_50 rfl (lv_at hl 0 rfl) ?_
                refine f_get X hH 0 rfl rfl 1 (by decide) inX3 fX3_15 rfl dX3_join_51 ?_
                refine lv_bipush (v := (10 : Int32)) hx hb dX3_join_54 (by decide) ?_
                refine lv_icmp_lt (tgt := 62) hx hb dX3_join_56 (by decide) (fun c8 => ?_) (fun c8 => ?_)
                · have h := it_x h c8
                  refine lv_aload_n hx hb dX3_join_62 rfl (lv_at hl 0 rfl) ?_
                  obtain ⟨o3, ho3, h⟩ := bd_x h
                  refine r_V X hH (ws1 := (wX3 g a i o3.2)) (As := []) (rest := []) (st1 := [.int o3.1]) (uX3_more (a := a) (i := i) ho3) kX3_more mX3_77 iX3_more vX3_more zX3 okX3_more ⟨Nat.le_of_ble_eq_true rfl, Nat.le_of_ble_eq_true rfl⟩ rfl rfl (q0 := 0) rfl rfl (pm_all _) (pm_all _) rfl hl.1 rfl (Nat.le_of_ble_eq_true rfl) ⟨Nat.le_refl 0, Nat.le_refl 0⟩ rfl dX3_join_63 (fun H locs hH => ?_)
                  refine s_i X (lv' := [(5, .int o3.1), (0, .ref (a i)), (1, .int pa), (2, .int pb), (3, .int pc_), (4, .int pd)]) hl rfl dX3_join_66 (by decide) rfl (fun ls hl => ?_)
                  refine lv_aload_n hx hb dX3_join_68 rfl (lv_at hl 1 rfl) ?_
                  refine lv_iload hx hb dX3_join_69 (lv_at hl 0 rfl) ?_
                  refine lv_iload_n hx hb dX3_join_71 rfl (lv_at hl 2 rfl) ?_
                  refine lv_iload_n hx hb dX3_join_72 rfl (lv_at hl 3 rfl) ?_
                  refine lv_iload_n hx hb dX3_join_73 rfl (lv_at hl 4 rfl) ?_
                  refine lv_iload hx hb dX3_join_74 (lv_at hl 5 rfl) ?_
                  obtain ⟨o4, ho4, h⟩ := bd_x h
                  refine r_V X hH (ws1 := (wX3 g a i o4)) (As := [.int o3.1, .int pa, .int pb, .int pc_, .int pd]) (rest := []) (st1 := []) (uX3_lay (a := a) (i := i) ho4) kX3_lay mX3_80 iX3_lay vX3_lay zX3 okX3_lay ⟨Nat.le_of_ble_eq_true rfl, Nat.le_of_ble_eq_true rfl⟩ rfl rfl (q0 := 0) rfl rfl (pm_all _) (pm_all _) rfl hl.1 rfl (Nat.le_of_ble_eq_true rfl) ⟨Nat.le_refl 0, Nat.le_refl 0⟩ rfl dX3_join_76 (fun H locs hH => ?_)
                  refine lv_iload hx hb dX3_join_79 (lv_at hl 0 rfl) ?_
                  have h := Option.some.inj h
                  subst h
                  exact e_i X hH dX3_join_81
                · have h := ie_x h c8
                  refine lv_bipush (v := (-6 : Int32)) hx hb dX3_join_59 (by decide) ?_
                  have h := Option.some.inj h
                  subst h
                  exact e_i X hH dX3_join_61
          · have h := ie_x h c5
            refine lv_bipush (v := (-4 : Int32)) hx hb dX3_join_34 (by decide) ?_
            have h := Option.some.inj h
            subst h
            exact e_i X hH dX3_join_36
      · have h := it_x h c3
        refine lv_iconst (v := (-1 : Int32)) hx hb dX3_join_21 (by decide) ?_
        have h := Option.some.inj h
        subst h
        exact e_i X hH dX3_join_22

def fX8_isKind (pa : Int32) : Option Int32 :=
  (if pa < (0 : Int32) then
  some (0 : Int32)
  else
  (if (6 : Int32) ≤ pa then
  some (0 : Int32)
  else
  some (1 : Int32)))
set_option maxHeartbeats 4000000 in
set_option maxRecDepth 100000 in
theorem uX8_isKind {l : Launch} {g : GG}  {pa : Int32} {o : Int32} (h : fX8_isKind pa = some o) : mC l g yX8_isKind cX8_isKind 1 (some .boolean) (rM 0 0) [.int pa] [] [] (some (.int o)) := by
  refine mC.ofW (by decide) (fun p e s m below meth c X hH ls _ hl => ?_) (Nat.le_of_ble_eq_true rfl)
  have hx := X.1
  have hb := X.2.1
  have hl : lv_has ls 1 [(0, .int pa)] := hl
  unfold fX8_isKind at h
  suffices HH : ∀ (H : Heap) (locs : List Loc), mH g s [] [] H locs → W p l e (rM 0 0) s m _ below meth c H locs 0 0 (mZ g below _ s [] [] (some (.int o))) (F0 m 0 ls []) from HH _ _ hH
  clear hH
  intro H locs hH
  refine lv_iload_n hx hb dX8_isKind_0 rfl (lv_at hl 0 rfl) ?_
  refine lv_if_lt (tgt := 14) hx hb dX8_isKind_1 (by decide) (fun c1 => ?_) (fun c1 => ?_)
  · have h := it_x h c1
    refine lv_iconst (v := (0 : Int32)) hx hb dX8_isKind_14 (by decide) ?_
    have h := Option.some.inj h
    subst h
    exact e_z X hH (Or.inl rfl) dX8_isKind_15
  · have h := ie_x h c1
    refine lv_iload_n hx hb dX8_isKind_4 rfl (lv_at hl 0 rfl) ?_
    refine lv_bipush (v := (6 : Int32)) hx hb dX8_isKind_5 (by decide) ?_
    refine lv_icmp_ge (tgt := 14) hx hb dX8_isKind_7 (by decide) (fun c2 => ?_) (fun c2 => ?_)
    · have h := it_x h c2
      refine lv_iconst (v := (0 : Int32)) hx hb dX8_isKind_14 (by decide) ?_
      have h := Option.some.inj h
      subst h
      exact e_z X hH (Or.inl rfl) dX8_isKind_15
    · have h := ie_x h c2
      refine lv_iconst (v := (1 : Int32)) hx hb dX8_isKind_10 (by decide) ?_
      refine lv_goto (tgt := 15) hx hb dX8_isKind_11 (by decide) ?_
      have h := Option.some.inj h
      subst h
      exact e_z X hH (Or.inr rfl) dX8_isKind_15

def qX3_changeKind_29 (pa : Int32) (pb : Int32) (pc_ : Int32)  (xs : SX3) (t0 : Int32) : Option (Int32 × SX3) :=
  (if t0 = (0 : Int32) then
  ga 11 pa fun j1 =>
  ga 11 pa fun j2 =>
  ltt ((((10 : Int32) * ((n_kinds xs) j1)) + ((n_figures xs) j2))) fun v1 =>
  ga 11 pa fun j3 =>
  ltt ((n_kinds_s xs (upd (n_kinds xs) j3 pb))) fun xs1 =>
  ga 11 pa fun j4 =>
  ltt ((n_figures_s xs1 (upd (n_figures xs1) j4 pc_))) fun xs2 =>
  some (v1, xs2)
  else
  some (t0, xs))
def fX3_changeKind (xs : SX3) (pa : Int32) (pb : Int32) (pc_ : Int32) : Option (Int32 × SX3) :=
  (fX3_isWay xs pa).bind fun o1 =>
  (if o1 = (0 : Int32) then
  some ((-1 : Int32), xs)
  else
  (fX8_isKind pb).bind fun o2 =>
  (if o2 = (0 : Int32) then
  qX3_changeKind_29 pa pb pc_ xs (-2 : Int32)
  else
  (fX8_refusalOfNumber pc_ (0 : Int32) (9 : Int32)).bind fun o3 =>
  qX3_changeKind_29 pa pb pc_ xs o3))
set_option maxHeartbeats 4000000 in
set_option maxRecDepth 100000 in
theorem pX3_changeKind_29 {p : Program} {l : Launch} {e : Env} {s : State} {m : MethodId} {args : Array Value} {below : List Frame} {meth : Method} {c : Code} {g : GG} {w0 : va_W} {a : Nat → Nat} {i : Nat} {pa : Int32} {pb : Int32} {pc_ : Int32} {o : (Int32 × SX3)} (X : mX g yX3_changeKind cX3_changeKind 6 (some .int) p s m args meth c w0) :
  ∀ (xs : SX3) (t0 : Int32) (H : Heap) (locs : List Loc) (ls : Array Slot), qX3_changeKind_29 pa pb pc_ xs t0 = some o → mH g s w0 (wX3 g a i xs) H locs → lv_has ls 6 [(0, .ref (a i)), (1, .int pa), (2, .int pb), (3, .int pc_)] → W p l e (rM 1 22) s m args below meth c H locs 0 0 (mZ g below args s w0 (wX3 g a i o.2) (some (.int o.1))) (F0 m 29 ls [.int t0]) := by
  have hx := X.1
  have hb := X.2.1
  intro xs t0 H locs ls h hH hl
  unfold qX3_changeKind_29 at h
  refine s_i X (lv' := [(4, .int t0), (0, .ref (a i)), (1, .int pa), (2, .int pb), (3, .int pc_)]) hl rfl dX3_changeKind_29 (by decide) rfl (fun ls hl => ?_)
  refine lv_iload hx hb dX3_changeKind_31 (lv_at hl 0 rfl) ?_
  refine lv_if_eq (tgt := 39) hx hb dX3_changeKind_33 (by decide) (fun c3 => ?_) (fun c3 => ?_)
  · have h := it_x h c3
    refine lv_bipush (v := (10 : Int32)) hx hb dX3_changeKind_39 (by decide) ?_
    refine lv_aload_n hx hb dX3_changeKind_41 rfl (lv_at hl 1 rfl) ?_
    refine f_get X hH 0 rfl rfl 4 (by decide) inX3 fX3_25 rfl dX3_changeKind_42 ?_
    refine lv_iload_n hx hb dX3_changeKind_45 rfl (lv_at hl 2 rfl) ?_
    obtain ⟨j1, ej1, hinj1, h⟩ := ga_x h
    refine a_il X hH 3 rfl hinj1 ej1 dX3_changeKind_46 ?_
    refine lv_imul hx hb dX3_changeKind_47 ?_
    refine lv_aload_n hx hb dX3_changeKind_48 rfl (lv_at hl 1 rfl) ?_
    refine f_get X hH 0 rfl rfl 5 (by decide) inX3 fX3_28 rfl dX3_changeKind_49 ?_
    refine lv_iload_n hx hb dX3_changeKind_52 rfl (lv_at hl 2 rfl) ?_
    obtain ⟨j2, ej2, hinj2, h⟩ := ga_x h
    refine a_il X hH 4 rfl hinj2 ej2 dX3_changeKind_53 ?_
    refine lv_iadd hx hb dX3_changeKind_54 ?_
    obtain ⟨v1, ev1, h⟩ := ltt_x h
    refine s_i X (lv' := [(5, .int v1), (4, .int t0), (0, .ref (a i)), (1, .int pa), (2, .int pb), (3, .int pc_)]) hl ev1 dX3_changeKind_55 (by decide) rfl (fun ls hl => ?_)
    refine lv_aload_n hx hb dX3_changeKind_57 rfl (lv_at hl 2 rfl) ?_
    refine f_get X hH 0 rfl rfl 4 (by decide) inX3 fX3_25 rfl dX3_changeKind_58 ?_
    refine lv_iload_n hx hb dX3_changeKind_61 rfl (lv_at hl 3 rfl) ?_
    refine lv_iload_n hx hb dX3_changeKind_62 rfl (lv_at hl 4 rfl) ?_
    obtain ⟨j3, ej3, hinj3, h⟩ := ga_x h
    obtain ⟨xs1, exs1, h⟩ := ltt_x h
    refine a_is X hH (ws1 := (wX3 g a i xs1)) 3 rfl hinj3 ej3 (by rw [exs1]; rfl) dX3_changeKind_63 (fun H locs hH => ?_)
    refine lv_aload_n hx hb dX3_changeKind_64 rfl (lv_at hl 2 rfl) ?_
    refine f_get X hH 0 rfl rfl 5 (by decide) inX3 fX3_28 rfl dX3_changeKind_65 ?_
    refine lv_iload_n hx hb dX3_changeKind_68 rfl (lv_at hl 3 rfl) ?_
    refine lv_iload_n hx hb dX3_changeKind_69 rfl (lv_at hl 5 rfl) ?_
    obtain ⟨j4, ej4, hinj4, h⟩ := ga_x h
    obtain ⟨xs2, exs2, h⟩ := ltt_x h
    refine a_is X hH (ws1 := (wX3 g a i xs2)) 4 rfl hinj4 ej4 (by rw [exs2]; rfl) dX3_changeKind_70 (fun H locs hH => ?_)
    refine lv_iload hx hb dX3_changeKind_71 (lv_at hl 0 rfl) ?_
    have h := Option.some.inj h
    subst h
    exact e_i X hH dX3_changeKind_73
  · have h := ie_x h c3
    refine lv_iload hx hb dX3_changeKind_36 (lv_at hl 0 rfl) ?_
    have h := Option.some.inj h
    subst h
    exact e_i X hH dX3_changeKind_38
set_option maxHeartbeats 4000000 in
set_option maxRecDepth 100000 in
theorem uX3_changeKind {l : Launch} {g : GG} {a : Nat → Nat} {i : Nat} {xs : SX3} {pa : Int32} {pb : Int32} {pc_ : Int32} {o : (Int32 × SX3)} (h : fX3_changeKind xs pa pb pc_ = some o) : mC l g yX3_changeKind cX3_changeKind 6 (some .int) (rM 1 22) [.ref (a i), .int pa, .int pb, .int pc_] (wX3 g a i xs) (wX3 g a i o.2) (some (.int o.1)) := by
  refine mC.ofW (by decide) (fun p e s m below meth c X hH ls _ hl => ?_) (Nat.le_of_ble_eq_true rfl)
  have hx := X.1
  have hb := X.2.1
  have hl : lv_has ls 6 [(0, .ref (a i)), (1, .int pa), (2, .int pb), (3, .int pc_)] := hl
  unfold fX3_changeKind at h
  suffices HH : ∀ (H : Heap) (locs : List Loc), mH g s (wX3 g a i xs) (wX3 g a i xs) H locs → W p l e (rM 1 22) s m _ below meth c H locs 0 0 (mZ g below _ s (wX3 g a i xs) (wX3 g a i o.2) (some (.int o.1))) (F0 m 0 ls []) from HH _ _ hH
  clear hH
  intro H locs hH
  refine lv_aload_n hx hb dX3_changeKind_0 rfl (lv_at hl 0 rfl) ?_
  refine lv_iload_n hx hb dX3_changeKind_1 rfl (lv_at hl 1 rfl) ?_
  obtain ⟨o1, ho1, h⟩ := bd_x h
  refine r_V X hH (ws1 := (wX3 g a i xs)) (As := [.int pa]) (rest := []) (st1 := [.int o1]) (uX3_isWay (a := a) (i := i) ho1) kX3_isWay mX3_84 iX3_isWay vX3_isWay zX3 okX3_isWay ⟨Nat.le_of_ble_eq_true rfl, Nat.le_of_ble_eq_true rfl⟩ rfl rfl (q0 := 0) rfl rfl (pm_all _) (pm_all _) rfl hl.1 rfl (Nat.le_of_ble_eq_true rfl) ⟨Nat.le_refl 0, Nat.le_refl 0⟩ rfl dX3_changeKind_2 (fun H locs hH => ?_)
  refine lv_if_ne (tgt := 10) hx hb dX3_changeKind_5 (by decide) (fun c1 => ?_) (fun c1 => ?_)
  · have h := ie_x h c1
    refine lv_iload_n hx hb dX3_changeKind_10 rfl (lv_at hl 2 rfl) ?_
    obtain ⟨o2, ho2, h⟩ := bd_x h
    refine r_SN X hH (ws1 := (wX3 g a i xs)) (As := [.int pb]) (rest := []) (st1 := [.int o2]) (uX8_isKind  ho2) kX8_isKind nnX3_87 sX8_isKind zX8 okX8_isKind ⟨Nat.le_of_ble_eq_true rfl, Nat.le_of_ble_eq_true rfl⟩ rfl rfl (pm_none _) (pm_none _) rfl hl.1 rfl (Nat.le_of_ble_eq_true rfl) ⟨Nat.le_refl 0, Nat.le_refl 0⟩ rfl dX3_changeKind_11 (fun H locs hH => ?_)
    refine lv_if_eq (tgt := 27) hx hb dX3_changeKind_14 (by decide) (fun c2 => ?_) (fun c2 => ?_)
    · have h := it_x h c2
      refine lv_bipush (v := (-2 : Int32)) hx hb dX3_changeKind_27 (by decide) ?_
      exact pX3_changeKind_29 X  xs (-2 : Int32) H locs ls h hH (lv_sub hl [0, 1, 2, 3] rfl)
    · have h := ie_x h c2
      refine lv_iload_n hx hb dX3_changeKind_17 rfl (lv_at hl 3 rfl) ?_
      refine lv_iconst (v := (0 : Int32)) hx hb dX3_changeKind_18 (by decide) ?_
      refine lv_bipush (v := (9 : Int32)) hx hb dX3_changeKind_19 (by decide) ?_
      obtain ⟨o3, ho3, h⟩ := bd_x h
      refine r_SN X hH (ws1 := (wX3 g a i xs)) (As := [.int pc_, .int (0 : Int32), .int (9 : Int32)]) (rest := []) (st1 := [.int o3]) (uX8_refusalOfNumber  ho3) kX8_refusalOfNumber nnX3_70 sX8_refusalOfNumber zX8 okX8_refusalOfNumber ⟨Nat.le_of_ble_eq_true rfl, Nat.le_of_ble_eq_true rfl⟩ rfl rfl (pm_none _) (pm_none _) rfl hl.1 rfl (Nat.le_of_ble_eq_true rfl) ⟨Nat.le_refl 0, Nat.le_refl 0⟩ rfl dX3_changeKind_21 (fun H locs hH => ?_)
      refine lv_goto (tgt := 29) hx hb dX3_changeKind_24 (by decide) ?_
      exact pX3_changeKind_29 X  xs o3 H locs ls h hH (lv_sub hl [0, 1, 2, 3] rfl)
  · have h := it_x h c1
    refine lv_iconst (v := (-1 : Int32)) hx hb dX3_changeKind_8 (by decide) ?_
    have h := Option.some.inj h
    subst h
    exact e_i X hH dX3_changeKind_9

def qX3_changeLoad_19 (pa : Int32) (pb : Int32)  (xs : SX3) (t0 : Int32) : Option (Int32 × SX3) :=
  (if t0 = (0 : Int32) then
  ga 11 pa fun j1 =>
  ltt (((n_loads xs) j1)) fun v1 =>
  ga 11 pa fun j2 =>
  ltt ((n_loads_s xs (upd (n_loads xs) j2 pb))) fun xs1 =>
  some (v1, xs1)
  else
  some (t0, xs))
def fX3_changeLoad (xs : SX3) (pa : Int32) (pb : Int32) : Option (Int32 × SX3) :=
  (fX3_isWay xs pa).bind fun o1 =>
  (if o1 = (0 : Int32) then
  qX3_changeLoad_19 pa pb xs (-1 : Int32)
  else
  (fX8_refusalOfNumber pb (1 : Int32) (9 : Int32)).bind fun o2 =>
  qX3_changeLoad_19 pa pb xs o2)
set_option maxHeartbeats 4000000 in
set_option maxRecDepth 100000 in
theorem pX3_changeLoad_19 {p : Program} {l : Launch} {e : Env} {s : State} {m : MethodId} {args : Array Value} {below : List Frame} {meth : Method} {c : Code} {g : GG} {w0 : va_W} {a : Nat → Nat} {i : Nat} {pa : Int32} {pb : Int32} {o : (Int32 × SX3)} (X : mX g yX3_changeLoad cX3_changeLoad 5 (some .int) p s m args meth c w0) :
  ∀ (xs : SX3) (t0 : Int32) (H : Heap) (locs : List Loc) (ls : Array Slot), qX3_changeLoad_19 pa pb xs t0 = some o → mH g s w0 (wX3 g a i xs) H locs → lv_has ls 5 [(0, .ref (a i)), (1, .int pa), (2, .int pb)] → W p l e (rM 1 22) s m args below meth c H locs 0 0 (mZ g below args s w0 (wX3 g a i o.2) (some (.int o.1))) (F0 m 19 ls [.int t0]) := by
  have hx := X.1
  have hb := X.2.1
  intro xs t0 H locs ls h hH hl
  unfold qX3_changeLoad_19 at h
  refine s_in X (lv' := [(3, .int t0), (0, .ref (a i)), (1, .int pa), (2, .int pb)]) hl rfl dX3_changeLoad_19 rfl (by decide) rfl (fun ls hl => ?_)
  refine lv_iload_n hx hb dX3_changeLoad_20 rfl (lv_at hl 0 rfl) ?_
  refine lv_if_eq (tgt := 26) hx hb dX3_changeLoad_21 (by decide) (fun c2 => ?_) (fun c2 => ?_)
  · have h := it_x h c2
    refine lv_aload_n hx hb dX3_changeLoad_26 rfl (lv_at hl 1 rfl) ?_
    refine f_get X hH 0 rfl rfl 6 (by decide) inX3 fX3_31 rfl dX3_changeLoad_27 ?_
    refine lv_iload_n hx hb dX3_changeLoad_30 rfl (lv_at hl 2 rfl) ?_
    obtain ⟨j1, ej1, hinj1, h⟩ := ga_x h
    refine a_il X hH 5 rfl hinj1 ej1 dX3_changeLoad_31 ?_
    obtain ⟨v1, ev1, h⟩ := ltt_x h
    refine s_i X (lv' := [(4, .int v1), (3, .int t0), (0, .ref (a i)), (1, .int pa), (2, .int pb)]) hl ev1 dX3_changeLoad_32 (by decide) rfl (fun ls hl => ?_)
    refine lv_aload_n hx hb dX3_changeLoad_34 rfl (lv_at hl 2 rfl) ?_
    refine f_get X hH 0 rfl rfl 6 (by decide) inX3 fX3_31 rfl dX3_changeLoad_35 ?_
    refine lv_iload_n hx hb dX3_changeLoad_38 rfl (lv_at hl 3 rfl) ?_
    refine lv_iload_n hx hb dX3_changeLoad_39 rfl (lv_at hl 4 rfl) ?_
    obtain ⟨j2, ej2, hinj2, h⟩ := ga_x h
    obtain ⟨xs1, exs1, h⟩ := ltt_x h
    refine a_is X hH (ws1 := (wX3 g a i xs1)) 5 rfl hinj2 ej2 (by rw [exs1]; rfl) dX3_changeLoad_40 (fun H locs hH => ?_)
    refine lv_iload hx hb dX3_changeLoad_41 (lv_at hl 0 rfl) ?_
    have h := Option.some.inj h
    subst h
    exact e_i X hH dX3_changeLoad_43
  · have h := ie_x h c2
    refine lv_iload_n hx hb dX3_changeLoad_24 rfl (lv_at hl 0 rfl) ?_
    have h := Option.some.inj h
    subst h
    exact e_i X hH dX3_changeLoad_25
set_option maxHeartbeats 4000000 in
set_option maxRecDepth 100000 in
theorem uX3_changeLoad {l : Launch} {g : GG} {a : Nat → Nat} {i : Nat} {xs : SX3} {pa : Int32} {pb : Int32} {o : (Int32 × SX3)} (h : fX3_changeLoad xs pa pb = some o) : mC l g yX3_changeLoad cX3_changeLoad 5 (some .int) (rM 1 22) [.ref (a i), .int pa, .int pb] (wX3 g a i xs) (wX3 g a i o.2) (some (.int o.1)) := by
  refine mC.ofW (by decide) (fun p e s m below meth c X hH ls _ hl => ?_) (Nat.le_of_ble_eq_true rfl)
  have hx := X.1
  have hb := X.2.1
  have hl : lv_has ls 5 [(0, .ref (a i)), (1, .int pa), (2, .int pb)] := hl
  unfold fX3_changeLoad at h
  suffices HH : ∀ (H : Heap) (locs : List Loc), mH g s (wX3 g a i xs) (wX3 g a i xs) H locs → W p l e (rM 1 22) s m _ below meth c H locs 0 0 (mZ g below _ s (wX3 g a i xs) (wX3 g a i o.2) (some (.int o.1))) (F0 m 0 ls []) from HH _ _ hH
  clear hH
  intro H locs hH
  refine lv_aload_n hx hb dX3_changeLoad_0 rfl (lv_at hl 0 rfl) ?_
  refine lv_iload_n hx hb dX3_changeLoad_1 rfl (lv_at hl 1 rfl) ?_
  obtain ⟨o1, ho1, h⟩ := bd_x h
  refine r_V X hH (ws1 := (wX3 g a i xs)) (As := [.int pa]) (rest := []) (st1 := [.int o1]) (uX3_isWay (a := a) (i := i) ho1) kX3_isWay mX3_84 iX3_isWay vX3_isWay zX3 okX3_isWay ⟨Nat.le_of_ble_eq_true rfl, Nat.le_of_ble_eq_true rfl⟩ rfl rfl (q0 := 0) rfl rfl (pm_all _) (pm_all _) rfl hl.1 rfl (Nat.le_of_ble_eq_true rfl) ⟨Nat.le_refl 0, Nat.le_refl 0⟩ rfl dX3_changeLoad_2 (fun H locs hH => ?_)
  refine lv_if_eq (tgt := 18) hx hb dX3_changeLoad_5 (by decide) (fun c1 => ?_) (fun c1 => ?_)
  · have h := it_x h c1
    refine lv_iconst (v := (-1 : Int32)) hx hb dX3_changeLoad_18 (by decide) ?_
    exact pX3_changeLoad_19 X  xs (-1 : Int32) H locs ls h hH (lv_sub hl [0, 1, 2] rfl)
  · have h := ie_x h c1
    refine lv_iload_n hx hb dX3_changeLoad_8 rfl (lv_at hl 2 rfl) ?_
    refine lv_iconst (v := (1 : Int32)) hx hb dX3_changeLoad_9 (by decide) ?_
    refine lv_bipush (v := (9 : Int32)) hx hb dX3_changeLoad_10 (by decide) ?_
    obtain ⟨o2, ho2, h⟩ := bd_x h
    refine r_SN X hH (ws1 := (wX3 g a i xs)) (As := [.int pb, .int (1 : Int32), .int (9 : Int32)]) (rest := []) (st1 := [.int o2]) (uX8_refusalOfNumber  ho2) kX8_refusalOfNumber nnX3_70 sX8_refusalOfNumber zX8 okX8_refusalOfNumber ⟨Nat.le_of_ble_eq_true rfl, Nat.le_of_ble_eq_true rfl⟩ rfl rfl (pm_none _) (pm_none _) rfl hl.1 rfl (Nat.le_of_ble_eq_true rfl) ⟨Nat.le_refl 0, Nat.le_refl 0⟩ rfl dX3_changeLoad_12 (fun H locs hH => ?_)
    refine lv_goto (tgt := 19) hx hb dX3_changeLoad_15 (by decide) ?_
    exact pX3_changeLoad_19 X  xs o2 H locs ls h hH (lv_sub hl [0, 1, 2] rfl)

def qX3_changeLength_19 (pa : Int32) (pb : Int32)  (xs : SX3) (t0 : Int32) : Option (Int32 × SX3) :=
  (if t0 = (0 : Int32) then
  ga 11 pa fun j1 =>
  ltt (((n_lengths xs) j1)) fun v1 =>
  ga 11 pa fun j2 =>
  ltt ((n_lengths_s xs (upd (n_lengths xs) j2 pb))) fun xs1 =>
  some (v1, xs1)
  else
  some (t0, xs))
def fX3_changeLength (xs : SX3) (pa : Int32) (pb : Int32) : Option (Int32 × SX3) :=
  (fX3_isWay xs pa).bind fun o1 =>
  (if o1 = (0 : Int32) then
  qX3_changeLength_19 pa pb xs (-1 : Int32)
  else
  (fX8_refusalOfNumber pb (1 : Int32) (9 : Int32)).bind fun o2 =>
  qX3_changeLength_19 pa pb xs o2)
set_option maxHeartbeats 4000000 in
set_option maxRecDepth 100000 in
theorem pX3_changeLength_19 {p : Program} {l : Launch} {e : Env} {s : State} {m : MethodId} {args : Array Value} {below : List Frame} {meth : Method} {c : Code} {g : GG} {w0 : va_W} {a : Nat → Nat} {i : Nat} {pa : Int32} {pb : Int32} {o : (Int32 × SX3)} (X : mX g yX3_changeLength cX3_changeLength 5 (some .int) p s m args meth c w0) :
  ∀ (xs : SX3) (t0 : Int32) (H : Heap) (locs : List Loc) (ls : Array Slot), qX3_changeLength_19 pa pb xs t0 = some o → mH g s w0 (wX3 g a i xs) H locs → lv_has ls 5 [(0, .ref (a i)), (1, .int pa), (2, .int pb)] → W p l e (rM 1 22) s m args below meth c H locs 0 0 (mZ g below args s w0 (wX3 g a i o.2) (some (.int o.1))) (F0 m 19 ls [.int t0]) := by
  have hx := X.1
  have hb := X.2.1
  intro xs t0 H locs ls h hH hl
  unfold qX3_changeLength_19 at h
  refine s_in X (lv' := [(3, .int t0), (0, .ref (a i)), (1, .int pa), (2, .int pb)]) hl rfl dX3_changeLength_19 rfl (by decide) rfl (fun ls hl => ?_)
  refine lv_iload_n hx hb dX3_changeLength_20 rfl (lv_at hl 0 rfl) ?_
  refine lv_if_eq (tgt := 26) hx hb dX3_changeLength_21 (by decide) (fun c2 => ?_) (fun c2 => ?_)
  · have h := it_x h c2
    refine lv_aload_n hx hb dX3_changeLength_26 rfl (lv_at hl 1 rfl) ?_
    refine f_get X hH 0 rfl rfl 7 (by decide) inX3 fX3_34 rfl dX3_changeLength_27 ?_
    refine lv_iload_n hx hb dX3_changeLength_30 rfl (lv_at hl 2 rfl) ?_
    obtain ⟨j1, ej1, hinj1, h⟩ := ga_x h
    refine a_il X hH 6 rfl hinj1 ej1 dX3_changeLength_31 ?_
    obtain ⟨v1, ev1, h⟩ := ltt_x h
    refine s_i X (lv' := [(4, .int v1), (3, .int t0), (0, .ref (a i)), (1, .int pa), (2, .int pb)]) hl ev1 dX3_changeLength_32 (by decide) rfl (fun ls hl => ?_)
    refine lv_aload_n hx hb dX3_changeLength_34 rfl (lv_at hl 2 rfl) ?_
    refine f_get X hH 0 rfl rfl 7 (by decide) inX3 fX3_34 rfl dX3_changeLength_35 ?_
    refine lv_iload_n hx hb dX3_changeLength_38 rfl (lv_at hl 3 rfl) ?_
    refine lv_iload_n hx hb dX3_changeLength_39 rfl (lv_at hl 4 rfl) ?_
    obtain ⟨j2, ej2, hinj2, h⟩ := ga_x h
    obtain ⟨xs1, exs1, h⟩ := ltt_x h
    refine a_is X hH (ws1 := (wX3 g a i xs1)) 6 rfl hinj2 ej2 (by rw [exs1]; rfl) dX3_changeLength_40 (fun H locs hH => ?_)
    refine lv_iload hx hb dX3_changeLength_41 (lv_at hl 0 rfl) ?_
    have h := Option.some.inj h
    subst h
    exact e_i X hH dX3_changeLength_43
  · have h := ie_x h c2
    refine lv_iload_n hx hb dX3_changeLength_24 rfl (lv_at hl 0 rfl) ?_
    have h := Option.some.inj h
    subst h
    exact e_i X hH dX3_changeLength_25
set_option maxHeartbeats 4000000 in
set_option maxRecDepth 100000 in
theorem uX3_changeLength {l : Launch} {g : GG} {a : Nat → Nat} {i : Nat} {xs : SX3} {pa : Int32} {pb : Int32} {o : (Int32 × SX3)} (h : fX3_changeLength xs pa pb = some o) : mC l g yX3_changeLength cX3_changeLength 5 (some .int) (rM 1 22) [.ref (a i), .int pa, .int pb] (wX3 g a i xs) (wX3 g a i o.2) (some (.int o.1)) := by
  refine mC.ofW (by decide) (fun p e s m below meth c X hH ls _ hl => ?_) (Nat.le_of_ble_eq_true rfl)
  have hx := X.1
  have hb := X.2.1
  have hl : lv_has ls 5 [(0, .ref (a i)), (1, .int pa), (2, .int pb)] := hl
  unfold fX3_changeLength at h
  suffices HH : ∀ (H : Heap) (locs : List Loc), mH g s (wX3 g a i xs) (wX3 g a i xs) H locs → W p l e (rM 1 22) s m _ below meth c H locs 0 0 (mZ g below _ s (wX3 g a i xs) (wX3 g a i o.2) (some (.int o.1))) (F0 m 0 ls []) from HH _ _ hH
  clear hH
  intro H locs hH
  refine lv_aload_n hx hb dX3_changeLength_0 rfl (lv_at hl 0 rfl) ?_
  refine lv_iload_n hx hb dX3_changeLength_1 rfl (lv_at hl 1 rfl) ?_
  obtain ⟨o1, ho1, h⟩ := bd_x h
  refine r_V X hH (ws1 := (wX3 g a i xs)) (As := [.int pa]) (rest := []) (st1 := [.int o1]) (uX3_isWay (a := a) (i := i) ho1) kX3_isWay mX3_84 iX3_isWay vX3_isWay zX3 okX3_isWay ⟨Nat.le_of_ble_eq_true rfl, Nat.le_of_ble_eq_true rfl⟩ rfl rfl (q0 := 0) rfl rfl (pm_all _) (pm_all _) rfl hl.1 rfl (Nat.le_of_ble_eq_true rfl) ⟨Nat.le_refl 0, Nat.le_refl 0⟩ rfl dX3_changeLength_2 (fun H locs hH => ?_)
  refine lv_if_eq (tgt := 18) hx hb dX3_changeLength_5 (by decide) (fun c1 => ?_) (fun c1 => ?_)
  · have h := it_x h c1
    refine lv_iconst (v := (-1 : Int32)) hx hb dX3_changeLength_18 (by decide) ?_
    exact pX3_changeLength_19 X  xs (-1 : Int32) H locs ls h hH (lv_sub hl [0, 1, 2] rfl)
  · have h := ie_x h c1
    refine lv_iload_n hx hb dX3_changeLength_8 rfl (lv_at hl 2 rfl) ?_
    refine lv_iconst (v := (1 : Int32)) hx hb dX3_changeLength_9 (by decide) ?_
    refine lv_bipush (v := (9 : Int32)) hx hb dX3_changeLength_10 (by decide) ?_
    obtain ⟨o2, ho2, h⟩ := bd_x h
    refine r_SN X hH (ws1 := (wX3 g a i xs)) (As := [.int pb, .int (1 : Int32), .int (9 : Int32)]) (rest := []) (st1 := [.int o2]) (uX8_refusalOfNumber  ho2) kX8_refusalOfNumber nnX3_70 sX8_refusalOfNumber zX8 okX8_refusalOfNumber ⟨Nat.le_of_ble_eq_true rfl, Nat.le_of_ble_eq_true rfl⟩ rfl rfl (pm_none _) (pm_none _) rfl hl.1 rfl (Nat.le_of_ble_eq_true rfl) ⟨Nat.le_refl 0, Nat.le_refl 0⟩ rfl dX3_changeLength_12 (fun H locs hH => ?_)
    refine lv_goto (tgt := 19) hx hb dX3_changeLength_15 (by decide) ?_
    exact pX3_changeLength_19 X  xs o2 H locs ls h hH (lv_sub hl [0, 1, 2] rfl)

def qX3_drop_14 (pa : Int32)  : Nat → SX3 → Int32 → Option (Int32 × SX3)
  | 0, _, _ => none
  | fu + 1, xs, l2 =>
  (if (n_ways xs) ≤ l2 then
  ltt (((n_ways xs) - (1 : Int32))) fun v2 =>
  ltt ((n_ways_s xs v2)) fun xs1 =>
  some ((n_ways xs1), xs1)
  else
  (fX3_copyWay_0 xs l2 (l2 - (1 : Int32))).bind fun o2 =>
  ltt (l2 + (1 : Int32)) fun v3 =>
  qX3_drop_14 pa  fu o2 v3)
def fX3_drop (xs : SX3) (pa : Int32) : Option (Int32 × SX3) :=
  (fX3_isWay xs pa).bind fun o1 =>
  (if o1 = (0 : Int32) then
  some ((-1 : Int32), xs)
  else
  ltt ((pa + (1 : Int32))) fun v1 =>
  qX3_drop_14 pa FU xs v1)
set_option maxHeartbeats 4000000 in
set_option maxRecDepth 100000 in
theorem pX3_drop_14 {p : Program} {l : Launch} {e : Env} {s : State} {m : MethodId} {args : Array Value} {below : List Frame} {meth : Method} {c : Code} {g : GG} {w0 : va_W} {a : Nat → Nat} {i : Nat} {pa : Int32} {o : (Int32 × SX3)} (X : mX g yX3_drop cX3_drop 3 (some .int) p s m args meth c w0) :
  ∀ (fu : Nat) (xs : SX3) (l2 : Int32) (H : Heap) (locs : List Loc) (ls : Array Slot), qX3_drop_14 pa fu xs l2 = some o → mH g s w0 (wX3 g a i xs) H locs → lv_has ls 3 [(0, .ref (a i)), (1, .int pa), (2, .int l2)] → W p l e (rM 1 23) s m args below meth c H locs 0 0 (mZ g below args s w0 (wX3 g a i o.2) (some (.int o.1))) (F0 m 14 ls []) := by
  have hx := X.1
  have hb := X.2.1
  intro fu
  induction fu with
  | zero =>
    intro xs l2 H locs ls h
    unfold qX3_drop_14 at h
    cases h
  | succ fu ih =>
    intro xs l2 H locs ls h hH hl
    unfold qX3_drop_14 at h
    refine lv_iload_n hx hb dX3_drop_14 rfl (lv_at hl 2 rfl) ?_
    refine lv_aload_n hx hb dX3_drop_15 rfl (lv_at hl 0 rfl) ?_
    refine f_get X hH 0 rfl rfl 1 (by decide) inX3 fX3_15 rfl dX3_drop_16 ?_
    refine lv_icmp_ge (tgt := 37) hx hb dX3_drop_19 (by decide) (fun c2 => ?_) (fun c2 => ?_)
    · have h := it_x h c2
      refine lv_aload_n hx hb dX3_drop_37 rfl (lv_at hl 0 rfl) ?_
      refine lv_dup hx hb dX3_drop_38 rfl ?_
      refine f_get X hH 0 rfl rfl 1 (by decide) inX3 fX3_15 rfl dX3_drop_39 ?_
      refine lv_iconst (v := (1 : Int32)) hx hb dX3_drop_42 (by decide) ?_
      refine lv_isub hx hb dX3_drop_43 ?_
      obtain ⟨v2, ev2, h⟩ := ltt_x h
      refine lv_topi (fun y0 e0 => ?_)
      rw [← ev2] at e0
      subst y0
      obtain ⟨xs1, exs1, h⟩ := ltt_x h
      refine f_put X hH (ws1 := (wX3 g a i xs1)) 0 rfl rfl 1 (by decide) inX3 tyX3 tyX3_ok nmX3 fX3_15 rfl rfl rfl (Nat.le_of_ble_eq_true rfl) (by rw [exs1]; rfl) dX3_drop_44 (fun H locs hH => ?_)
      refine lv_aload_n hx hb dX3_drop_47 rfl (lv_at hl 0 rfl) ?_
      refine f_get X hH 0 rfl rfl 1 (by decide) inX3 fX3_15 rfl dX3_drop_48 ?_
      have h := Option.some.inj h
      subst h
      exact e_i X hH dX3_drop_51
    · have h := ie_x h c2
      refine lv_aload_n hx hb dX3_drop_22 rfl (lv_at hl 0 rfl) ?_
      refine lv_aload_n hx hb dX3_drop_23 rfl (lv_at hl 0 rfl) ?_
      refine lv_iload_n hx hb dX3_drop_24 rfl (lv_at hl 2 rfl) ?_
      refine lv_iload_n hx hb dX3_drop_25 rfl (lv_at hl 2 rfl) ?_
      refine lv_iconst (v := (1 : Int32)) hx hb dX3_drop_26 (by decide) ?_
      refine lv_isub hx hb dX3_drop_27 ?_
      obtain ⟨o2, ho2, h⟩ := bd_x h
      refine r_V X hH (ws1 := (wX3 g a i o2)) (As := [.ref (a i), .int l2, .int (l2 - (1 : Int32))]) (rest := []) (st1 := []) (uX3_copyWay_0 (a := a) (i := i) ho2) kX3_copyWay mX3_66 iX3_copyWay vX3_copyWay zX3 okX3_copyWay ⟨Nat.le_of_ble_eq_true rfl, Nat.le_of_ble_eq_true rfl⟩ rfl rfl (q0 := 0) rfl rfl (pm_all _) (pm_all _) rfl hl.1 rfl (Nat.le_of_ble_eq_true rfl) ⟨Nat.le_refl 0, Nat.le_refl 0⟩ rfl dX3_drop_28 (fun H locs hH => ?_)
      obtain ⟨v3, ev3, h⟩ := ltt_x h
      refine s_inc X (k := 2) (lv' := [(2, .int v3), (0, .ref (a i)), (1, .int pa)]) hl rfl (by rw [ev3]; rfl) dX3_drop_31 (by decide) rfl (fun ls hl => ?_)
      refine lv_goto (tgt := 14) hx hb dX3_drop_34 (by decide) ?_
      exact ih o2 v3 H locs ls h hH (lv_sub hl [1, 2, 0] rfl)
set_option maxHeartbeats 4000000 in
set_option maxRecDepth 100000 in
theorem uX3_drop {l : Launch} {g : GG} {a : Nat → Nat} {i : Nat} {xs : SX3} {pa : Int32} {o : (Int32 × SX3)} (h : fX3_drop xs pa = some o) : mC l g yX3_drop cX3_drop 3 (some .int) (rM 1 23) [.ref (a i), .int pa] (wX3 g a i xs) (wX3 g a i o.2) (some (.int o.1)) := by
  refine mC.ofW (by decide) (fun p e s m below meth c X hH ls _ hl => ?_) (Nat.le_of_ble_eq_true rfl)
  have hx := X.1
  have hb := X.2.1
  have hl : lv_has ls 3 [(0, .ref (a i)), (1, .int pa)] := hl
  unfold fX3_drop at h
  suffices HH : ∀ (H : Heap) (locs : List Loc), mH g s (wX3 g a i xs) (wX3 g a i xs) H locs → W p l e (rM 1 23) s m _ below meth c H locs 0 0 (mZ g below _ s (wX3 g a i xs) (wX3 g a i o.2) (some (.int o.1))) (F0 m 0 ls []) from HH _ _ hH
  clear hH
  intro H locs hH
  refine lv_aload_n hx hb dX3_drop_0 rfl (lv_at hl 0 rfl) ?_
  refine lv_iload_n hx hb dX3_drop_1 rfl (lv_at hl 1 rfl) ?_
  obtain ⟨o1, ho1, h⟩ := bd_x h
  refine r_V X hH (ws1 := (wX3 g a i xs)) (As := [.int pa]) (rest := []) (st1 := [.int o1]) (uX3_isWay (a := a) (i := i) ho1) kX3_isWay mX3_84 iX3_isWay vX3_isWay zX3 okX3_isWay ⟨Nat.le_of_ble_eq_true rfl, Nat.le_of_ble_eq_true rfl⟩ rfl rfl (q0 := 0) rfl rfl (pm_all _) (pm_all _) rfl hl.1 rfl (Nat.le_of_ble_eq_true rfl) ⟨Nat.le_refl 0, Nat.le_refl 0⟩ rfl dX3_drop_2 (fun H locs hH => ?_)
  refine lv_if_ne (tgt := 10) hx hb dX3_drop_5 (by decide) (fun c1 => ?_) (fun c1 => ?_)
  · have h := ie_x h c1
    refine lv_iload_n hx hb dX3_drop_10 rfl (lv_at hl 1 rfl) ?_
    refine lv_iconst (v := (1 : Int32)) hx hb dX3_drop_11 (by decide) ?_
    refine lv_iadd hx hb dX3_drop_12 ?_
    obtain ⟨v1, ev1, h⟩ := ltt_x h
    refine s_in X (lv' := [(2, .int v1), (0, .ref (a i)), (1, .int pa)]) hl ev1 dX3_drop_13 rfl (by decide) rfl (fun ls hl => ?_)
    exact pX3_drop_14 X FU xs v1 H locs ls h hH (lv_sub hl [1, 2, 0] rfl)
  · have h := it_x h c1
    refine lv_iconst (v := (-1 : Int32)) hx hb dX3_drop_8 (by decide) ?_
    have h := Option.some.inj h
    subst h
    exact e_i X hH dX3_drop_9

def fJ0_coder_7d493 (pa : Nat) : Option Int32 :=
  (if (1 : Int32) = (0 : Int32) then
  some (1 : Int32)
  else
  gk pa <|
  some (0 : Int32))
set_option maxHeartbeats 4000000 in
set_option maxRecDepth 100000 in
theorem uJ0_coder_7d493 {l : Launch} {g : GG}  {pa : Nat} {o : Int32} (h : fJ0_coder_7d493 pa = some o) : mC l g yJ0_coder_7d493 cJ0_coder_7d493 1 (some .byte) (rM 0 0) [.ref (g.2.2.1 (1 + pa))] [] [] (some (.int o)) := by
  refine mC.ofW (by decide) (fun p e s m below meth c X hH ls _ hl => ?_) (Nat.le_of_ble_eq_true rfl)
  have hx := X.1
  have hb := X.2.1
  have hl : lv_has ls 1 [(0, .ref (g.2.2.1 (1 + pa)))] := hl
  unfold fJ0_coder_7d493 at h
  suffices HH : ∀ (H : Heap) (locs : List Loc), mH g s [] [] H locs → W p l e (rM 0 0) s m _ below meth c H locs 0 0 (mZ g below _ s [] [] (some (.int o))) (F0 m 0 ls []) from HH _ _ hH
  clear hH
  intro H locs hH
  refine va_gets hx hb (X.2.2.2.2.2.2.2.1.2.2.2.2.1.narrow X.2.2.2.2.2.2.2.2) hH.2.2 X.2.2.2.2.1 (X.2.2.2.2.2.1 _ fJ0_38) (fun _ h => h) dJ0_coder_7d493_0 ?_
  refine lv_if_eq (tgt := 13) hx hb dJ0_coder_7d493_3 (by decide) (fun c1 => ?_) (fun c1 => ?_)
  · have h := it_x h c1
    refine lv_iconst (v := (1 : Int32)) hx hb dJ0_coder_7d493_13 (by decide) ?_
    have h := Option.some.inj h
    subst h
    exact e_y X hH rfl dJ0_coder_7d493_14
  · have h := ie_x h c1
    refine lv_aload_n hx hb dJ0_coder_7d493_6 rfl (lv_at hl 0 rfl) ?_
    obtain ⟨hk1, h⟩ := gk_x h
    refine t_coder X hH hk1 fJ0_15 dJ0_coder_7d493_7 ?_
    refine lv_goto (tgt := 14) hx hb dJ0_coder_7d493_10 (by decide) ?_
    have h := Option.some.inj h
    subst h
    exact e_y X hH rfl dJ0_coder_7d493_14

def fJ0_length_8abf5 (pa : Nat) : Option Int32 :=
  gk pa <|
  gk pa <|
  (fJ0_coder_7d493 pa).bind fun o1 =>
  gk pa <|
  some ((Int32.ofNat (gtl.getD pa 0)) >>> (o1 &&& 31))
set_option maxHeartbeats 4000000 in
set_option maxRecDepth 100000 in
theorem uJ0_length_8abf5 {l : Launch} {g : GG}  {pa : Nat} {o : Int32} (h : fJ0_length_8abf5 pa = some o) : mC l g yJ0_length_8abf5 cJ0_length_8abf5 1 (some .int) (rM 1 20) [.ref (g.2.2.1 (1 + pa))] [] [] (some (.int o)) := by
  refine mC.ofW (by decide) (fun p e s m below meth c X hH ls _ hl => ?_) (Nat.le_of_ble_eq_true rfl)
  have hx := X.1
  have hb := X.2.1
  have hl : lv_has ls 1 [(0, .ref (g.2.2.1 (1 + pa)))] := hl
  unfold fJ0_length_8abf5 at h
  suffices HH : ∀ (H : Heap) (locs : List Loc), mH g s [] [] H locs → W p l e (rM 1 20) s m _ below meth c H locs 0 0 (mZ g below _ s [] [] (some (.int o))) (F0 m 0 ls []) from HH _ _ hH
  clear hH
  intro H locs hH
  refine lv_aload_n hx hb dJ0_length_8abf5_0 rfl (lv_at hl 0 rfl) ?_
  obtain ⟨hk1, h⟩ := gk_x h
  refine t_value X hH hk1 fJ0_9 dJ0_length_8abf5_1 ?_
  obtain ⟨hk2, h⟩ := gk_x h
  refine t_len X hH hk2 dJ0_length_8abf5_4 ?_
  refine lv_aload_n hx hb dJ0_length_8abf5_5 rfl (lv_at hl 0 rfl) ?_
  obtain ⟨o1, ho1, h⟩ := bd_x h
  obtain ⟨hk3, h⟩ := gk_x h
  refine r_VS X hH (ws1 := []) (As := []) (rest := [.int (Int32.ofNat (gtl.getD pa 0))]) (st1 := [.int o1, .int (Int32.ofNat (gtl.getD pa 0))]) hk3 (uJ0_coder_7d493  ho1) kJ0_coder_7d493 mJ0_335 iJ0_coder_7d493 vJ0_coder_7d493 zJ0 okJ0_coder_7d493 ⟨Nat.le_of_ble_eq_true rfl, Nat.le_of_ble_eq_true rfl⟩ rfl rfl (pm_none _) (pm_none _) rfl hl.1 rfl (Nat.le_of_ble_eq_true rfl) ⟨Nat.le_refl 0, Nat.le_refl 0⟩ rfl dJ0_length_8abf5_6 (fun H locs hH => ?_)
  refine lv_ishr hx hb dJ0_length_8abf5_9 ?_
  have h := Option.some.inj h
  subst h
  exact e_i X hH dJ0_length_8abf5_10

def fJ0_isLatin1_aae02 (pa : Nat) : Option Int32 :=
  (if (1 : Int32) = (0 : Int32) then
  some (0 : Int32)
  else
  gk pa <|
  (if (0 : Int32) = (0 : Int32) then
  some (1 : Int32)
  else
  some (0 : Int32)))
set_option maxHeartbeats 4000000 in
set_option maxRecDepth 100000 in
theorem uJ0_isLatin1_aae02 {l : Launch} {g : GG}  {pa : Nat} {o : Int32} (h : fJ0_isLatin1_aae02 pa = some o) : mC l g yJ0_isLatin1_aae02 cJ0_isLatin1_aae02 1 (some .boolean) (rM 0 0) [.ref (g.2.2.1 (1 + pa))] [] [] (some (.int o)) := by
  refine mC.ofW (by decide) (fun p e s m below meth c X hH ls _ hl => ?_) (Nat.le_of_ble_eq_true rfl)
  have hx := X.1
  have hb := X.2.1
  have hl : lv_has ls 1 [(0, .ref (g.2.2.1 (1 + pa)))] := hl
  unfold fJ0_isLatin1_aae02 at h
  suffices HH : ∀ (H : Heap) (locs : List Loc), mH g s [] [] H locs → W p l e (rM 0 0) s m _ below meth c H locs 0 0 (mZ g below _ s [] [] (some (.int o))) (F0 m 0 ls []) from HH _ _ hH
  clear hH
  intro H locs hH
  refine va_gets hx hb (X.2.2.2.2.2.2.2.1.2.2.2.2.1.narrow X.2.2.2.2.2.2.2.2) hH.2.2 X.2.2.2.2.1 (X.2.2.2.2.2.1 _ fJ0_38) (fun _ h => h) dJ0_isLatin1_aae02_0 ?_
  refine lv_if_eq (tgt := 17) hx hb dJ0_isLatin1_aae02_3 (by decide) (fun c1 => ?_) (fun c1 => ?_)
  · have h := it_x h c1
    refine lv_iconst (v := (0 : Int32)) hx hb dJ0_isLatin1_aae02_17 (by decide) ?_
    have h := Option.some.inj h
    subst h
    exact e_z X hH (Or.inl rfl) dJ0_isLatin1_aae02_18
  · have h := ie_x h c1
    refine lv_aload_n hx hb dJ0_isLatin1_aae02_6 rfl (lv_at hl 0 rfl) ?_
    obtain ⟨hk1, h⟩ := gk_x h
    refine t_coder X hH hk1 fJ0_15 dJ0_isLatin1_aae02_7 ?_
    refine lv_if_ne (tgt := 17) hx hb dJ0_isLatin1_aae02_10 (by decide) (fun c2 => ?_) (fun c2 => ?_)
    · have h := ie_x h c2
      refine lv_iconst (v := (0 : Int32)) hx hb dJ0_isLatin1_aae02_17 (by decide) ?_
      have h := Option.some.inj h
      subst h
      exact e_z X hH (Or.inl rfl) dJ0_isLatin1_aae02_18
    · have h := it_x h c2
      refine lv_iconst (v := (1 : Int32)) hx hb dJ0_isLatin1_aae02_13 (by decide) ?_
      refine lv_goto (tgt := 18) hx hb dJ0_isLatin1_aae02_14 (by decide) ?_
      have h := Option.some.inj h
      subst h
      exact e_z X hH (Or.inr rfl) dJ0_isLatin1_aae02_18

def fJ2_length_9d52b (pa : Nat) : Option Int32 :=
  gk pa <|
  some ((Int32.ofNat (gtl.getD pa 0)) >>> ((1 : Int32) &&& 31))
set_option maxHeartbeats 4000000 in
set_option maxRecDepth 100000 in
theorem uJ2_length_9d52b {l : Launch} {g : GG}  {pa : Nat} {o : Int32} (h : fJ2_length_9d52b pa = some o) : mC l g yJ2_length_9d52b cJ2_length_9d52b 1 (some .int) (rM 0 0) [.ref (g.2.2.1 (13 + pa))] [] [] (some (.int o)) := by
  refine mC.ofW (by decide) (fun p e s m below meth c X hH ls _ hl => ?_) (Nat.le_of_ble_eq_true rfl)
  have hx := X.1
  have hb := X.2.1
  have hl : lv_has ls 1 [(0, .ref (g.2.2.1 (13 + pa)))] := hl
  unfold fJ2_length_9d52b at h
  suffices HH : ∀ (H : Heap) (locs : List Loc), mH g s [] [] H locs → W p l e (rM 0 0) s m _ below meth c H locs 0 0 (mZ g below _ s [] [] (some (.int o))) (F0 m 0 ls []) from HH _ _ hH
  clear hH
  intro H locs hH
  refine lv_aload_n hx hb dJ2_length_9d52b_0 rfl (lv_at hl 0 rfl) ?_
  obtain ⟨hk1, h⟩ := gk_x h
  refine t_len X hH hk1 dJ2_length_9d52b_1 ?_
  refine lv_iconst (v := (1 : Int32)) hx hb dJ2_length_9d52b_2 (by decide) ?_
  refine lv_ishr hx hb dJ2_length_9d52b_3 ?_
  have h := Option.some.inj h
  subst h
  exact e_i X hH dJ2_length_9d52b_4

def fJ3_checkIndex_8e157 (pa : Int32) (pb : Int32) : Option Int32 :=
  (if pa < (0 : Int32) then
  none
  else
  (if pa < pb then
  some pa
  else
  none))
set_option maxHeartbeats 4000000 in
set_option maxRecDepth 100000 in
theorem uJ3_checkIndex_8e157 {l : Launch} {g : GG} {vf : Value} {pa : Int32} {pb : Int32} {o : Int32} (hvf : vf = .null ∨ ∃ a, vf = .ref a) (h : fJ3_checkIndex_8e157 pa pb = some o) : mC l g yJ3_checkIndex_8e157 cJ3_checkIndex_8e157 3 (some .int) (rM 0 0) [.int pa, .int pb, vf] [] [] (some (.int o)) := by
  rcases hvf with rfl | ⟨vr, rfl⟩
  · refine mC.ofW (by decide) (fun p e s m below meth c X hH ls _ hl => ?_) (Nat.le_of_ble_eq_true rfl)
    have hx := X.1
    have hb := X.2.1
    have hl : lv_has ls 3 [(0, .int pa), (1, .int pb), (2, .null)] := hl
    unfold fJ3_checkIndex_8e157 at h
    suffices HH : ∀ (H : Heap) (locs : List Loc), mH g s [] [] H locs → W p l e (rM 0 0) s m _ below meth c H locs 0 0 (mZ g below _ s [] [] (some (.int o))) (F0 m 0 ls []) from HH _ _ hH
    clear hH
    intro H locs hH
    refine lv_iload_n hx hb dJ3_checkIndex_8e157_0 rfl (lv_at hl 0 rfl) ?_
    refine lv_if_lt (tgt := 9) hx hb dJ3_checkIndex_8e157_1 (by decide) (fun c1 => ?_) (fun c1 => ?_)
    · have h := it_x h c1
      cases h
    · have h := ie_x h c1
      refine lv_iload_n hx hb dJ3_checkIndex_8e157_4 rfl (lv_at hl 0 rfl) ?_
      refine lv_iload_n hx hb dJ3_checkIndex_8e157_5 rfl (lv_at hl 1 rfl) ?_
      refine lv_icmp_lt (tgt := 16) hx hb dJ3_checkIndex_8e157_6 (by decide) (fun c2 => ?_) (fun c2 => ?_)
      · have h := it_x h c2
        refine lv_iload_n hx hb dJ3_checkIndex_8e157_16 rfl (lv_at hl 0 rfl) ?_
        have h := Option.some.inj h
        subst h
        exact e_i X hH dJ3_checkIndex_8e157_17
      · have h := ie_x h c2
        cases h
  · refine mC.ofW (by decide) (fun p e s m below meth c X hH ls _ hl => ?_) (Nat.le_of_ble_eq_true rfl)
    have hx := X.1
    have hb := X.2.1
    have hl : lv_has ls 3 [(0, .int pa), (1, .int pb), (2, .ref vr)] := hl
    unfold fJ3_checkIndex_8e157 at h
    suffices HH : ∀ (H : Heap) (locs : List Loc), mH g s [] [] H locs → W p l e (rM 0 0) s m _ below meth c H locs 0 0 (mZ g below _ s [] [] (some (.int o))) (F0 m 0 ls []) from HH _ _ hH
    clear hH
    intro H locs hH
    refine lv_iload_n hx hb dJ3_checkIndex_8e157_0 rfl (lv_at hl 0 rfl) ?_
    refine lv_if_lt (tgt := 9) hx hb dJ3_checkIndex_8e157_1 (by decide) (fun c1 => ?_) (fun c1 => ?_)
    · have h := it_x h c1
      cases h
    · have h := ie_x h c1
      refine lv_iload_n hx hb dJ3_checkIndex_8e157_4 rfl (lv_at hl 0 rfl) ?_
      refine lv_iload_n hx hb dJ3_checkIndex_8e157_5 rfl (lv_at hl 1 rfl) ?_
      refine lv_icmp_lt (tgt := 16) hx hb dJ3_checkIndex_8e157_6 (by decide) (fun c2 => ?_) (fun c2 => ?_)
      · have h := it_x h c2
        refine lv_iload_n hx hb dJ3_checkIndex_8e157_16 rfl (lv_at hl 0 rfl) ?_
        have h := Option.some.inj h
        subst h
        exact e_i X hH dJ3_checkIndex_8e157_17
      · have h := ie_x h c2
        cases h

def fJ0_checkIndex_df160 (pa : Int32) (pb : Int32) : Option Unit :=
  (fJ3_checkIndex_8e157 pa pb).bind fun o1 =>
  some ()
set_option maxHeartbeats 4000000 in
set_option maxRecDepth 100000 in
theorem uJ0_checkIndex_df160 {l : Launch} {g : GG}  {pa : Int32} {pb : Int32} {o : Unit} (h : fJ0_checkIndex_df160 pa pb = some o) : mC l g yJ0_checkIndex_df160 cJ0_checkIndex_df160 2 none (rM 1 22) [.int pa, .int pb] [] [] none := by
  refine mC.ofW (by decide) (fun p e s m below meth c X hH ls _ hl => ?_) (Nat.le_of_ble_eq_true rfl)
  have hx := X.1
  have hb := X.2.1
  have hl : lv_has ls 2 [(0, .int pa), (1, .int pb)] := hl
  unfold fJ0_checkIndex_df160 at h
  suffices HH : ∀ (H : Heap) (locs : List Loc), mH g s [] [] H locs → W p l e (rM 1 22) s m _ below meth c H locs 0 0 (mZ g below _ s [] [] none) (F0 m 0 ls []) from HH _ _ hH
  clear hH
  intro H locs hH
  refine lv_iload_n hx hb dJ0_checkIndex_df160_0 rfl (lv_at hl 0 rfl) ?_
  refine lv_iload_n hx hb dJ0_checkIndex_df160_1 rfl (lv_at hl 1 rfl) ?_
  obtain ⟨vf, hvf, hvf2⟩ := X.2.2.2.2.2.2.2.1.2.2.2.2.2.1
  refine va_gets hx hb (hvf.narrow X.2.2.2.2.2.2.2.2) hH.2.2 X.2.2.2.2.1 (X.2.2.2.2.2.1 _ fJ0_1053) (fun _ h => h) dJ0_checkIndex_df160_2 ?_
  obtain ⟨o1, ho1, h⟩ := bd_x h
  refine r_S X hH (ws1 := []) (As := [.int pa, .int pb, vf]) (rest := []) (st1 := [.int o1]) (uJ3_checkIndex_8e157 (vf := vf) hvf2 ho1) kJ3_checkIndex_8e157 mJ0_1059 sJ3_checkIndex_8e157 zJ3 okJ3_checkIndex_8e157 ⟨Nat.le_of_ble_eq_true rfl, Nat.le_of_ble_eq_true rfl⟩ rfl rfl (pm_none _) (pm_none _) rfl hl.1 rfl (Nat.le_of_ble_eq_true rfl) ⟨Nat.le_refl 0, Nat.le_refl 0⟩ rfl dJ0_checkIndex_df160_5 (fun H locs hH => ?_)
  refine lv_pop hx hb dJ0_checkIndex_df160_8 rfl ?_
  have h := Option.some.inj h
  subst h
  exact e_v X hH dJ0_checkIndex_df160_9

def fJ2_checkIndex_2214a (pa : Int32) (pb : Nat) : Option Unit :=
  (fJ2_length_9d52b pb).bind fun o1 =>
  (fJ0_checkIndex_df160 pa o1).bind fun o2 =>
  some ()
set_option maxHeartbeats 4000000 in
set_option maxRecDepth 100000 in
theorem uJ2_checkIndex_2214a {l : Launch} {g : GG}  {pa : Int32} {pb : Nat} {o : Unit} (h : fJ2_checkIndex_2214a pa pb = some o) : mC l g yJ2_checkIndex_2214a cJ2_checkIndex_2214a 2 none (rM 2 43) [.int pa, .ref (g.2.2.1 (13 + pb))] [] [] none := by
  refine mC.ofW (by decide) (fun p e s m below meth c X hH ls _ hl => ?_) (Nat.le_of_ble_eq_true rfl)
  have hx := X.1
  have hb := X.2.1
  have hl : lv_has ls 2 [(0, .int pa), (1, .ref (g.2.2.1 (13 + pb)))] := hl
  unfold fJ2_checkIndex_2214a at h
  suffices HH : ∀ (H : Heap) (locs : List Loc), mH g s [] [] H locs → W p l e (rM 2 43) s m _ below meth c H locs 0 0 (mZ g below _ s [] [] none) (F0 m 0 ls []) from HH _ _ hH
  clear hH
  intro H locs hH
  refine lv_iload_n hx hb dJ2_checkIndex_2214a_0 rfl (lv_at hl 0 rfl) ?_
  refine lv_aload_n hx hb dJ2_checkIndex_2214a_1 rfl (lv_at hl 1 rfl) ?_
  obtain ⟨o1, ho1, h⟩ := bd_x h
  refine r_S X hH (ws1 := []) (As := [.ref (g.2.2.1 (13 + pb))]) (rest := [.int pa]) (st1 := [.int o1, .int pa]) (uJ2_length_9d52b  ho1) kJ2_length_9d52b mJ2_48 sJ2_length_9d52b zJ2 okJ2_length_9d52b ⟨Nat.le_of_ble_eq_true rfl, Nat.le_of_ble_eq_true rfl⟩ rfl rfl (pm_none _) (pm_none _) rfl hl.1 rfl (Nat.le_of_ble_eq_true rfl) ⟨Nat.le_refl 0, Nat.le_refl 0⟩ rfl dJ2_checkIndex_2214a_2 (fun H locs hH => ?_)
  obtain ⟨o2, ho2, h⟩ := bd_x h
  refine r_S X hH (ws1 := []) (As := [.int pa, .int o1]) (rest := []) (st1 := []) (uJ0_checkIndex_df160  ho2) kJ0_checkIndex_df160 mJ2_414 sJ0_checkIndex_df160 zJ0 okJ0_checkIndex_df160 ⟨Nat.le_of_ble_eq_true rfl, Nat.le_of_ble_eq_true rfl⟩ rfl rfl (pm_none _) (pm_none _) rfl hl.1 rfl (Nat.le_of_ble_eq_true rfl) ⟨Nat.le_refl 0, Nat.le_refl 0⟩ rfl dJ2_checkIndex_2214a_5 (fun H locs hH => ?_)
  have h := Option.some.inj h
  subst h
  exact e_v X hH dJ2_checkIndex_2214a_8

def fJ1_charAt_3b067 (pa : Nat) (pb : Int32) : Option Int32 :=
  gk pa <|
  (fJ0_checkIndex_df160 pb (Int32.ofNat (gtl.getD pa 0))).bind fun o1 =>
  gk pa <|
  ga (gtl.getD pa 0) pb fun j1 =>
  gch (((((gtb.getD pa []).getD j1 0) &&& (255 : Int32)).toUInt32 % 65536).toInt32) (some (((((gtb.getD pa []).getD j1 0) &&& (255 : Int32)).toUInt32 % 65536).toInt32))
set_option maxHeartbeats 4000000 in
set_option maxRecDepth 100000 in
theorem uJ1_charAt_3b067 {l : Launch} {g : GG}  {pa : Nat} {pb : Int32} {o : Int32} (h : fJ1_charAt_3b067 pa pb = some o) : mC l g yJ1_charAt_3b067 cJ1_charAt_3b067 2 (some .char) (rM 2 43) [.ref (g.2.2.1 (13 + pa)), .int pb] [] [] (some (.int o)) := by
  refine mC.ofW (by decide) (fun p e s m below meth c X hH ls _ hl => ?_) (Nat.le_of_ble_eq_true rfl)
  have hx := X.1
  have hb := X.2.1
  have hl : lv_has ls 2 [(0, .ref (g.2.2.1 (13 + pa))), (1, .int pb)] := hl
  unfold fJ1_charAt_3b067 at h
  suffices HH : ∀ (H : Heap) (locs : List Loc), mH g s [] [] H locs → W p l e (rM 2 43) s m _ below meth c H locs 0 0 (mZ g below _ s [] [] (some (.int o))) (F0 m 0 ls []) from HH _ _ hH
  clear hH
  intro H locs hH
  refine lv_iload_n hx hb dJ1_charAt_3b067_0 rfl (lv_at hl 1 rfl) ?_
  refine lv_aload_n hx hb dJ1_charAt_3b067_1 rfl (lv_at hl 0 rfl) ?_
  obtain ⟨hk1, h⟩ := gk_x h
  refine t_len X hH hk1 dJ1_charAt_3b067_2 ?_
  obtain ⟨o1, ho1, h⟩ := bd_x h
  refine r_S X hH (ws1 := []) (As := [.int pb, .int (Int32.ofNat (gtl.getD pa 0))]) (rest := []) (st1 := []) (uJ0_checkIndex_df160  ho1) kJ0_checkIndex_df160 mJ1_9 sJ0_checkIndex_df160 zJ0 okJ0_checkIndex_df160 ⟨Nat.le_of_ble_eq_true rfl, Nat.le_of_ble_eq_true rfl⟩ rfl rfl (pm_none _) (pm_none _) rfl hl.1 rfl (Nat.le_of_ble_eq_true rfl) ⟨Nat.le_refl 0, Nat.le_refl 0⟩ rfl dJ1_charAt_3b067_3 (fun H locs hH => ?_)
  refine lv_aload_n hx hb dJ1_charAt_3b067_6 rfl (lv_at hl 0 rfl) ?_
  refine lv_iload_n hx hb dJ1_charAt_3b067_7 rfl (lv_at hl 1 rfl) ?_
  obtain ⟨hk2, h⟩ := gk_x h
  obtain ⟨j1, ej1, hinj1, h⟩ := ga_x h
  refine t_at X hH hk2 hinj1 ej1 dJ1_charAt_3b067_8 ?_
  refine lv_sipush (v := (255 : Int32)) hx hb dJ1_charAt_3b067_9 (by decide) ?_
  refine lv_iand hx hb dJ1_charAt_3b067_12 ?_
  refine lv_i2c hx hb dJ1_charAt_3b067_13 rfl ?_
  obtain ⟨z1, h⟩ := gch_x h
  have h := Option.some.inj h
  subst h
  exact e_c X hH z1 dJ1_charAt_3b067_14

def fJ0_charAt_5068e (pa : Nat) (pb : Int32) : Option Int32 :=
  (fJ0_isLatin1_aae02 pa).bind fun o1 =>
  gk pa <|
  (if o1 = (0 : Int32) then
  none
  else
  gk pa <|
  (fJ1_charAt_3b067 pa pb).bind fun o2 =>
  gch o2 (some o2))
set_option maxHeartbeats 4000000 in
set_option maxRecDepth 100000 in
theorem uJ0_charAt_5068e {l : Launch} {g : GG}  {pa : Nat} {pb : Int32} {o : Int32} (h : fJ0_charAt_5068e pa pb = some o) : mC l g yJ0_charAt_5068e cJ0_charAt_5068e 2 (some .char) (rM 3 64) [.ref (g.2.2.1 (1 + pa)), .int pb] [] [] (some (.int o)) := by
  refine mC.ofW (by decide) (fun p e s m below meth c X hH ls _ hl => ?_) (Nat.le_of_ble_eq_true rfl)
  have hx := X.1
  have hb := X.2.1
  have hl : lv_has ls 2 [(0, .ref (g.2.2.1 (1 + pa))), (1, .int pb)] := hl
  unfold fJ0_charAt_5068e at h
  suffices HH : ∀ (H : Heap) (locs : List Loc), mH g s [] [] H locs → W p l e (rM 3 64) s m _ below meth c H locs 0 0 (mZ g below _ s [] [] (some (.int o))) (F0 m 0 ls []) from HH _ _ hH
  clear hH
  intro H locs hH
  refine lv_aload_n hx hb dJ0_charAt_5068e_0 rfl (lv_at hl 0 rfl) ?_
  obtain ⟨o1, ho1, h⟩ := bd_x h
  obtain ⟨hk1, h⟩ := gk_x h
  refine r_VS X hH (ws1 := []) (As := []) (rest := []) (st1 := [.int o1]) hk1 (uJ0_isLatin1_aae02  ho1) kJ0_isLatin1_aae02 mJ0_492 iJ0_isLatin1_aae02 vJ0_isLatin1_aae02 zJ0 okJ0_isLatin1_aae02 ⟨Nat.le_of_ble_eq_true rfl, Nat.le_of_ble_eq_true rfl⟩ rfl rfl (pm_none _) (pm_none _) rfl hl.1 rfl (Nat.le_of_ble_eq_true rfl) ⟨Nat.le_refl 0, Nat.le_refl 0⟩ rfl dJ0_charAt_5068e_1 (fun H locs hH => ?_)
  refine lv_if_eq (tgt := 16) hx hb dJ0_charAt_5068e_4 (by decide) (fun c1 => ?_) (fun c1 => ?_)
  · have h := it_x h c1
    cases h
  · have h := ie_x h c1
    refine lv_aload_n hx hb dJ0_charAt_5068e_7 rfl (lv_at hl 0 rfl) ?_
    obtain ⟨hk3, h⟩ := gk_x h
    refine t_value X hH hk3 fJ0_9 dJ0_charAt_5068e_8 ?_
    refine lv_iload_n hx hb dJ0_charAt_5068e_11 rfl (lv_at hl 1 rfl) ?_
    obtain ⟨o2, ho2, h⟩ := bd_x h
    refine r_S X hH (ws1 := []) (As := [.ref (g.2.2.1 (13 + pa)), .int pb]) (rest := []) (st1 := [.int o2]) (uJ1_charAt_3b067  ho2) kJ1_charAt_3b067 mJ0_495 sJ1_charAt_3b067 zJ1 okJ1_charAt_3b067 ⟨Nat.le_of_ble_eq_true rfl, Nat.le_of_ble_eq_true rfl⟩ rfl rfl (pm_none _) (pm_none _) rfl hl.1 rfl (Nat.le_of_ble_eq_true rfl) ⟨Nat.le_refl 0, Nat.le_refl 0⟩ rfl dJ0_charAt_5068e_12 (fun H locs hH => ?_)
    obtain ⟨z1, h⟩ := gch_x h
    have h := Option.some.inj h
    subst h
    exact e_c X hH z1 dJ0_charAt_5068e_15

def fX4_addLetter (xs : SX4) (pa : Int32) : Option SX4 :=
  (if (120 : Int32) ≤ (sa_size xs) then
  some xs
  else
  ga 120 (sa_size xs) fun j1 =>
  ltt ((sa_letters_s xs (upd (sa_letters xs) j1 pa))) fun xs1 =>
  ltt (((sa_size xs1) + (1 : Int32))) fun v1 =>
  ltt ((sa_size_s xs1 v1)) fun xs2 =>
  some xs2)
set_option maxHeartbeats 4000000 in
set_option maxRecDepth 100000 in
theorem uX4_addLetter {l : Launch} {g : GG} {a : Nat → Nat} {i : Nat} {xs : SX4} {pa : Int32} {o : SX4} (h : fX4_addLetter xs pa = some o) : mC l g yX4_addLetter cX4_addLetter 2 none (rM 0 0) [.ref (a i), .int pa] (wX4 g a i xs) (wX4 g a i o) none := by
  refine mC.ofW (by decide) (fun p e s m below meth c X hH ls _ hl => ?_) (Nat.le_of_ble_eq_true rfl)
  have hx := X.1
  have hb := X.2.1
  have hl : lv_has ls 2 [(0, .ref (a i)), (1, .int pa)] := hl
  unfold fX4_addLetter at h
  suffices HH : ∀ (H : Heap) (locs : List Loc), mH g s (wX4 g a i xs) (wX4 g a i xs) H locs → W p l e (rM 0 0) s m _ below meth c H locs 0 0 (mZ g below _ s (wX4 g a i xs) (wX4 g a i o) none) (F0 m 0 ls []) from HH _ _ hH
  clear hH
  intro H locs hH
  refine lv_aload_n hx hb dX4_addLetter_0 rfl (lv_at hl 0 rfl) ?_
  refine f_get X hH 0 rfl rfl 0 (by decide) inX4 fX4_7 rfl dX4_addLetter_1 ?_
  refine lv_bipush (v := (120 : Int32)) hx hb dX4_addLetter_4 (by decide) ?_
  refine lv_icmp_ge (tgt := 29) hx hb dX4_addLetter_6 (by decide) (fun c1 => ?_) (fun c1 => ?_)
  · have h := it_x h c1
    have h := Option.some.inj h
    subst h
    exact e_v X hH dX4_addLetter_29
  · have h := ie_x h c1
    refine lv_aload_n hx hb dX4_addLetter_9 rfl (lv_at hl 0 rfl) ?_
    refine f_get X hH 0 rfl rfl 1 (by decide) inX4 fX4_13 rfl dX4_addLetter_10 ?_
    refine lv_aload_n hx hb dX4_addLetter_13 rfl (lv_at hl 0 rfl) ?_
    refine f_get X hH 0 rfl rfl 0 (by decide) inX4 fX4_7 rfl dX4_addLetter_14 ?_
    refine lv_iload_n hx hb dX4_addLetter_17 rfl (lv_at hl 1 rfl) ?_
    obtain ⟨j1, ej1, hinj1, h⟩ := ga_x h
    obtain ⟨xs1, exs1, h⟩ := ltt_x h
    refine a_is X hH (ws1 := (wX4 g a i xs1)) 1 rfl hinj1 ej1 (by rw [exs1]; rfl) dX4_addLetter_18 (fun H locs hH => ?_)
    refine lv_aload_n hx hb dX4_addLetter_19 rfl (lv_at hl 0 rfl) ?_
    refine lv_dup hx hb dX4_addLetter_20 rfl ?_
    refine f_get X hH 0 rfl rfl 0 (by decide) inX4 fX4_7 rfl dX4_addLetter_21 ?_
    refine lv_iconst (v := (1 : Int32)) hx hb dX4_addLetter_24 (by decide) ?_
    refine lv_iadd hx hb dX4_addLetter_25 ?_
    obtain ⟨v1, ev1, h⟩ := ltt_x h
    refine lv_topi (fun y0 e0 => ?_)
    rw [← ev1] at e0
    subst y0
    obtain ⟨xs2, exs2, h⟩ := ltt_x h
    refine f_put X hH (ws1 := (wX4 g a i xs2)) 0 rfl rfl 0 (by decide) inX4 tyX4 tyX4_ok nmX4 fX4_7 rfl rfl rfl (Nat.le_of_ble_eq_true rfl) (by rw [exs2]; rfl) dX4_addLetter_26 (fun H locs hH => ?_)
    have h := Option.some.inj h
    subst h
    exact e_v X hH dX4_addLetter_29

def qX4_addText_2 (pa : Nat)  : Nat → SX4 → Int32 → Option SX4
  | 0, _, _ => none
  | fu + 1, xs, l2 =>
  (fJ0_length_8abf5 pa).bind fun o1 =>
  gk pa <|
  (if o1 ≤ l2 then
  some xs
  else
  (fJ0_charAt_5068e pa l2).bind fun o2 =>
  gk pa <|
  (fX4_addLetter xs o2).bind fun o3 =>
  ltt (l2 + (1 : Int32)) fun v1 =>
  qX4_addText_2 pa  fu o3 v1)
def fX4_addText (xs : SX4) (pa : Nat) : Option SX4 :=
  qX4_addText_2 pa FU xs (0 : Int32)
set_option maxHeartbeats 4000000 in
set_option maxRecDepth 100000 in
theorem pX4_addText_2 {p : Program} {l : Launch} {e : Env} {s : State} {m : MethodId} {args : Array Value} {below : List Frame} {meth : Method} {c : Code} {g : GG} {w0 : va_W} {a : Nat → Nat} {i : Nat} {pa : Nat} {o : SX4} (X : mX g yX4_addText cX4_addText 3 none p s m args meth c w0) :
  ∀ (fu : Nat) (xs : SX4) (l2 : Int32) (H : Heap) (locs : List Loc) (ls : Array Slot), qX4_addText_2 pa fu xs l2 = some o → mH g s w0 (wX4 g a i xs) H locs → lv_has ls 3 [(0, .ref (a i)), (1, .ref (g.2.2.1 (1 + pa))), (2, .int l2)] → W p l e (rM 4 85) s m args below meth c H locs 0 0 (mZ g below args s w0 (wX4 g a i o) none) (F0 m 2 ls []) := by
  have hx := X.1
  have hb := X.2.1
  intro fu
  induction fu with
  | zero =>
    intro xs l2 H locs ls h
    unfold qX4_addText_2 at h
    cases h
  | succ fu ih =>
    intro xs l2 H locs ls h hH hl
    unfold qX4_addText_2 at h
    refine lv_iload_n hx hb dX4_addText_2 rfl (lv_at hl 2 rfl) ?_
    refine lv_aload_n hx hb dX4_addText_3 rfl (lv_at hl 1 rfl) ?_
    obtain ⟨o1, ho1, h⟩ := bd_x h
    obtain ⟨hk1, h⟩ := gk_x h
    refine r_VS X hH (ws1 := (wX4 g a i xs)) (As := []) (rest := [.int l2]) (st1 := [.int o1, .int l2]) hk1 (uJ0_length_8abf5  ho1) kJ0_length_8abf5 mX4_17 iJ0_length_8abf5 vJ0_length_8abf5 zJ0 okJ0_length_8abf5 ⟨Nat.le_of_ble_eq_true rfl, Nat.le_of_ble_eq_true rfl⟩ rfl rfl (pm_none _) (pm_none _) rfl hl.1 rfl (Nat.le_of_ble_eq_true rfl) ⟨Nat.le_refl 0, Nat.le_refl 0⟩ rfl dX4_addText_4 (fun H locs hH => ?_)
    refine lv_icmp_ge (tgt := 25) hx hb dX4_addText_7 (by decide) (fun c1 => ?_) (fun c1 => ?_)
    · have h := it_x h c1
      have h := Option.some.inj h
      subst h
      exact e_v X hH dX4_addText_25
    · have h := ie_x h c1
      refine lv_aload_n hx hb dX4_addText_10 rfl (lv_at hl 0 rfl) ?_
      refine lv_aload_n hx hb dX4_addText_11 rfl (lv_at hl 1 rfl) ?_
      refine lv_iload_n hx hb dX4_addText_12 rfl (lv_at hl 2 rfl) ?_
      obtain ⟨o2, ho2, h⟩ := bd_x h
      obtain ⟨hk2, h⟩ := gk_x h
      refine r_VS X hH (ws1 := (wX4 g a i xs)) (As := [.int l2]) (rest := [.ref (a i)]) (st1 := [.int o2, .ref (a i)]) hk2 (uJ0_charAt_5068e  ho2) kJ0_charAt_5068e mX4_23 iJ0_charAt_5068e vJ0_charAt_5068e zJ0 okJ0_charAt_5068e ⟨Nat.le_of_ble_eq_true rfl, Nat.le_of_ble_eq_true rfl⟩ rfl rfl (pm_none _) (pm_none _) rfl hl.1 rfl (Nat.le_of_ble_eq_true rfl) ⟨Nat.le_refl 0, Nat.le_refl 0⟩ rfl dX4_addText_13 (fun H locs hH => ?_)
      obtain ⟨o3, ho3, h⟩ := bd_x h
      refine r_V X hH (ws1 := (wX4 g a i o3)) (As := [.int o2]) (rest := []) (st1 := []) (uX4_addLetter (a := a) (i := i) ho3) kX4_addLetter mX4_27 iX4_addLetter vX4_addLetter zX4 okX4_addLetter ⟨Nat.le_of_ble_eq_true rfl, Nat.le_of_ble_eq_true rfl⟩ rfl rfl (q0 := 0) rfl rfl (pm_all _) (pm_all _) rfl hl.1 rfl (Nat.le_of_ble_eq_true rfl) ⟨Nat.le_refl 0, Nat.le_refl 0⟩ rfl dX4_addText_16 (fun H locs hH => ?_)
      obtain ⟨v1, ev1, h⟩ := ltt_x h
      refine s_inc X (k := 2) (lv' := [(2, .int v1), (0, .ref (a i)), (1, .ref (g.2.2.1 (1 + pa)))]) hl rfl (by rw [ev1]; rfl) dX4_addText_19 (by decide) rfl (fun ls hl => ?_)
      refine lv_goto (tgt := 2) hx hb dX4_addText_22 (by decide) ?_
      exact ih o3 v1 H locs ls h hH (lv_sub hl [1, 2, 0] rfl)
set_option maxHeartbeats 4000000 in
set_option maxRecDepth 100000 in
theorem uX4_addText {l : Launch} {g : GG} {a : Nat → Nat} {i : Nat} {xs : SX4} {pa : Nat} {o : SX4} (h : fX4_addText xs pa = some o) : mC l g yX4_addText cX4_addText 3 none (rM 4 85) [.ref (a i), .ref (g.2.2.1 (1 + pa))] (wX4 g a i xs) (wX4 g a i o) none := by
  refine mC.ofW (by decide) (fun p e s m below meth c X hH ls _ hl => ?_) (Nat.le_of_ble_eq_true rfl)
  have hx := X.1
  have hb := X.2.1
  have hl : lv_has ls 3 [(0, .ref (a i)), (1, .ref (g.2.2.1 (1 + pa)))] := hl
  unfold fX4_addText at h
  suffices HH : ∀ (H : Heap) (locs : List Loc), mH g s (wX4 g a i xs) (wX4 g a i xs) H locs → W p l e (rM 4 85) s m _ below meth c H locs 0 0 (mZ g below _ s (wX4 g a i xs) (wX4 g a i o) none) (F0 m 0 ls []) from HH _ _ hH
  clear hH
  intro H locs hH
  refine lv_iconst (v := (0 : Int32)) hx hb dX4_addText_0 (by decide) ?_
  refine s_in X (lv' := [(2, .int (0 : Int32)), (0, .ref (a i)), (1, .ref (g.2.2.1 (1 + pa)))]) hl rfl dX4_addText_1 rfl (by decide) rfl (fun ls hl => ?_)
  exact pX4_addText_2 X FU xs (0 : Int32) H locs ls h hH (lv_sub hl [1, 2, 0] rfl)

def qX4_addNumber_37 (pa : Int64)  : Nat → SX4 → Int64 → Int32 → Option SX4
  | 0, _, _, _ => none
  | fu + 1, xs, l3, l5 =>
  (if (18 : Int32) ≤ l5 then
  some xs
  else
  (if l3 ≤ (0 : Int64) then
  some xs
  else
  gzl (l3) <|
  (fX4_addLetter xs ((48 : Int32) + (((pa / l3) - (pa / l3) / (10 : Int64) * (10 : Int64)).toInt32))).bind fun o1 =>
  ltt ((l3 / (10 : Int64))) fun v1 =>
  ltt (l5 + (1 : Int32)) fun v2 =>
  qX4_addNumber_37 pa  fu o1 v1 v2))
def qX4_addNumber_34 (pa : Int64)  (xs : SX4) (l3 : Int64) : Option SX4 :=
  qX4_addNumber_37 pa FU xs l3 (0 : Int32)
def qX4_addNumber_5 (pa : Int64)  : Nat → SX4 → Int64 → Int32 → Option SX4
  | 0, _, _, _ => none
  | fu + 1, xs, l3, l5 =>
  (if (17 : Int32) ≤ l5 then
  qX4_addNumber_34 pa xs l3
  else
  (if (pa / (10 : Int64)) < l3 then
  qX4_addNumber_34 pa xs l3
  else
  ltt ((l3 * (10 : Int64))) fun v3 =>
  ltt (l5 + (1 : Int32)) fun v4 =>
  qX4_addNumber_5 pa  fu xs v3 v4))
def fX4_addNumber (xs : SX4) (pa : Int64) : Option SX4 :=
  qX4_addNumber_5 pa FU xs (1 : Int64) (0 : Int32)
set_option maxHeartbeats 4000000 in
set_option maxRecDepth 100000 in
theorem pX4_addNumber_37 {p : Program} {l : Launch} {e : Env} {s : State} {m : MethodId} {args : Array Value} {below : List Frame} {meth : Method} {c : Code} {g : GG} {w0 : va_W} {a : Nat → Nat} {i : Nat} {pa : Int64} {o : SX4} (X : mX g yX4_addNumber cX4_addNumber 6 none p s m args meth c w0) :
  ∀ (fu : Nat) (xs : SX4) (l3 : Int64) (l5 : Int32) (H : Heap) (locs : List Loc) (ls : Array Slot), qX4_addNumber_37 pa fu xs l3 l5 = some o → mH g s w0 (wX4 g a i xs) H locs → lv_has ls 6 [(0, .ref (a i)), (1, .long pa), (3, .long l3), (5, .int l5)] → W p l e (rM 1 21) s m args below meth c H locs 0 0 (mZ g below args s w0 (wX4 g a i o) none) (F0 m 37 ls []) := by
  have hx := X.1
  have hb := X.2.1
  intro fu
  induction fu with
  | zero =>
    intro xs l3 l5 H locs ls h
    unfold qX4_addNumber_37 at h
    cases h
  | succ fu ih =>
    intro xs l3 l5 H locs ls h hH hl
    unfold qX4_addNumber_37 at h
    refine lv_iload hx hb dX4_addNumber_37 (lv_at hl 3 rfl) ?_
    refine lv_bipush (v := (18 : Int32)) hx hb dX4_addNumber_39 (by decide) ?_
    refine lv_icmp_ge (tgt := 77) hx hb dX4_addNumber_41 (by decide) (fun c2 => ?_) (fun c2 => ?_)
    · have h := it_x h c2
      have h := Option.some.inj h
      subst h
      exact e_v X hH dX4_addNumber_77
    · have h := ie_x h c2
      refine lv_lload_n hx hb dX4_addNumber_44 rfl (lv_at hl 2 rfl) ?_
      refine lv_lconst (v := (0 : Int64)) hx hb dX4_addNumber_45 (by decide) ?_
      refine W.lcmp hx hb dX4_addNumber_46 ?_
      refine lv_if_le (tgt := 77) hx hb dX4_addNumber_47 (by decide) (fun c3 => ?_) (fun c3 => ?_)
      · have h := it_x h ((lg_cmp_le l3 (0 : Int64)).mp c3)
        have h := Option.some.inj h
        subst h
        exact e_v X hH dX4_addNumber_77
      · have h := ie_x h (mt (lg_cmp_le l3 (0 : Int64)).mpr c3)
        refine lv_aload_n hx hb dX4_addNumber_50 rfl (lv_at hl 0 rfl) ?_
        refine lv_bipush (v := (48 : Int32)) hx hb dX4_addNumber_51 (by decide) ?_
        refine lv_lload_n hx hb dX4_addNumber_53 rfl (lv_at hl 1 rfl) ?_
        refine lv_lload_n hx hb dX4_addNumber_54 rfl (lv_at hl 2 rfl) ?_
        obtain ⟨z1, h⟩ := gzl_x h
        refine lv_ldiv hx hb dX4_addNumber_55 z1 ?_
        refine lv_ldc2 hx hb X.2.2.2.2.1 (X.2.2.2.2.2.1 _ nX4_31) dX4_addNumber_56 ?_
        refine lv_lrem hx hb dX4_addNumber_59 (by decide) ?_
        refine lv_l2i hx hb dX4_addNumber_60 rfl ?_
        refine lv_iadd hx hb dX4_addNumber_61 ?_
        obtain ⟨o1, ho1, h⟩ := bd_x h
        refine r_V X hH (ws1 := (wX4 g a i o1)) (As := [.int ((48 : Int32) + (((pa / l3) - (pa / l3) / (10 : Int64) * (10 : Int64)).toInt32))]) (rest := []) (st1 := []) (uX4_addLetter (a := a) (i := i) ho1) kX4_addLetter mX4_27 iX4_addLetter vX4_addLetter zX4 okX4_addLetter ⟨Nat.le_of_ble_eq_true rfl, Nat.le_of_ble_eq_true rfl⟩ rfl rfl (q0 := 0) rfl rfl (pm_all _) (pm_all _) rfl hl.1 rfl (Nat.le_of_ble_eq_true rfl) ⟨Nat.le_refl 0, Nat.le_refl 0⟩ rfl dX4_addNumber_62 (fun H locs hH => ?_)
        refine lv_lload_n hx hb dX4_addNumber_65 rfl (lv_at hl 2 rfl) ?_
        refine lv_ldc2 hx hb X.2.2.2.2.1 (X.2.2.2.2.2.1 _ nX4_31) dX4_addNumber_66 ?_
        refine lv_ldiv hx hb dX4_addNumber_69 (by decide) ?_
        obtain ⟨v1, ev1, h⟩ := ltt_x h
        refine s_ln X (lv' := [(3, .long v1), (0, .ref (a i)), (1, .long pa), (5, .int l5)]) hl ev1 dX4_addNumber_70 rfl (by decide) rfl (fun ls hl => ?_)
        obtain ⟨v2, ev2, h⟩ := ltt_x h
        refine s_inc X (k := 3) (lv' := [(5, .int v2), (3, .long v1), (0, .ref (a i)), (1, .long pa)]) hl rfl (by rw [ev2]; rfl) dX4_addNumber_71 (by decide) rfl (fun ls hl => ?_)
        refine lv_goto (tgt := 37) hx hb dX4_addNumber_74 (by decide) ?_
        exact ih o1 v1 v2 H locs ls h hH (lv_sub hl [2, 3, 1, 0] rfl)
set_option maxHeartbeats 4000000 in
set_option maxRecDepth 100000 in
theorem pX4_addNumber_34 {p : Program} {l : Launch} {e : Env} {s : State} {m : MethodId} {args : Array Value} {below : List Frame} {meth : Method} {c : Code} {g : GG} {w0 : va_W} {a : Nat → Nat} {i : Nat} {pa : Int64} {o : SX4} (X : mX g yX4_addNumber cX4_addNumber 6 none p s m args meth c w0) :
  ∀ (xs : SX4) (l3 : Int64) (H : Heap) (locs : List Loc) (ls : Array Slot), qX4_addNumber_34 pa xs l3 = some o → mH g s w0 (wX4 g a i xs) H locs → lv_has ls 6 [(0, .ref (a i)), (1, .long pa), (3, .long l3)] → W p l e (rM 1 21) s m args below meth c H locs 0 0 (mZ g below args s w0 (wX4 g a i o) none) (F0 m 34 ls []) := by
  have hx := X.1
  have hb := X.2.1
  intro xs l3 H locs ls h hH hl
  unfold qX4_addNumber_34 at h
  refine lv_iconst (v := (0 : Int32)) hx hb dX4_addNumber_34 (by decide) ?_
  refine s_i X (lv' := [(5, .int (0 : Int32)), (0, .ref (a i)), (1, .long pa), (3, .long l3)]) hl rfl dX4_addNumber_35 (by decide) rfl (fun ls hl => ?_)
  exact pX4_addNumber_37 X FU xs l3 (0 : Int32) H locs ls h hH (lv_sub hl [1, 2, 3, 0] rfl)
set_option maxHeartbeats 4000000 in
set_option maxRecDepth 100000 in
theorem pX4_addNumber_5 {p : Program} {l : Launch} {e : Env} {s : State} {m : MethodId} {args : Array Value} {below : List Frame} {meth : Method} {c : Code} {g : GG} {w0 : va_W} {a : Nat → Nat} {i : Nat} {pa : Int64} {o : SX4} (X : mX g yX4_addNumber cX4_addNumber 6 none p s m args meth c w0) :
  ∀ (fu : Nat) (xs : SX4) (l3 : Int64) (l5 : Int32) (H : Heap) (locs : List Loc) (ls : Array Slot), qX4_addNumber_5 pa fu xs l3 l5 = some o → mH g s w0 (wX4 g a i xs) H locs → lv_has ls 6 [(0, .ref (a i)), (1, .long pa), (3, .long l3), (5, .int l5)] → W p l e (rM 1 21) s m args below meth c H locs 0 0 (mZ g below args s w0 (wX4 g a i o) none) (F0 m 5 ls []) := by
  have hx := X.1
  have hb := X.2.1
  intro fu
  induction fu with
  | zero =>
    intro xs l3 l5 H locs ls h
    unfold qX4_addNumber_5 at h
    cases h
  | succ fu ih =>
    intro xs l3 l5 H locs ls h hH hl
    unfold qX4_addNumber_5 at h
    refine lv_iload hx hb dX4_addNumber_5 (lv_at hl 3 rfl) ?_
    refine lv_bipush (v := (17 : Int32)) hx hb dX4_addNumber_7 (by decide) ?_
    refine lv_icmp_ge (tgt := 34) hx hb dX4_addNumber_9 (by decide) (fun c1 => ?_) (fun c1 => ?_)
    · have h := it_x h c1
      exact pX4_addNumber_34 X  xs l3 H locs ls h hH (lv_sub hl [0, 1, 2] rfl)
    · have h := ie_x h c1
      refine lv_lload_n hx hb dX4_addNumber_12 rfl (lv_at hl 1 rfl) ?_
      refine lv_ldc2 hx hb X.2.2.2.2.1 (X.2.2.2.2.2.1 _ nX4_31) dX4_addNumber_13 ?_
      refine lv_ldiv hx hb dX4_addNumber_16 (by decide) ?_
      refine lv_lload_n hx hb dX4_addNumber_17 rfl (lv_at hl 2 rfl) ?_
      refine W.lcmp hx hb dX4_addNumber_18 ?_
      refine lv_if_lt (tgt := 34) hx hb dX4_addNumber_19 (by decide) (fun c4 => ?_) (fun c4 => ?_)
      · have h := it_x h ((lg_cmp_lt (pa / (10 : Int64)) l3).mp c4)
        exact pX4_addNumber_34 X  xs l3 H locs ls h hH (lv_sub hl [0, 1, 2] rfl)
      · have h := ie_x h (mt (lg_cmp_lt (pa / (10 : Int64)) l3).mpr c4)
        refine lv_lload_n hx hb dX4_addNumber_22 rfl (lv_at hl 2 rfl) ?_
        refine lv_ldc2 hx hb X.2.2.2.2.1 (X.2.2.2.2.2.1 _ nX4_31) dX4_addNumber_23 ?_
        refine lv_lmul hx hb dX4_addNumber_26 ?_
        obtain ⟨v3, ev3, h⟩ := ltt_x h
        refine s_ln X (lv' := [(3, .long v3), (0, .ref (a i)), (1, .long pa), (5, .int l5)]) hl ev3 dX4_addNumber_27 rfl (by decide) rfl (fun ls hl => ?_)
        obtain ⟨v4, ev4, h⟩ := ltt_x h
        refine s_inc X (k := 3) (lv' := [(5, .int v4), (3, .long v3), (0, .ref (a i)), (1, .long pa)]) hl rfl (by rw [ev4]; rfl) dX4_addNumber_28 (by decide) rfl (fun ls hl => ?_)
        refine lv_goto (tgt := 5) hx hb dX4_addNumber_31 (by decide) ?_
        exact ih xs v3 v4 H locs ls h hH (lv_sub hl [2, 3, 1, 0] rfl)
set_option maxHeartbeats 4000000 in
set_option maxRecDepth 100000 in
theorem uX4_addNumber {l : Launch} {g : GG} {a : Nat → Nat} {i : Nat} {xs : SX4} {pa : Int64} {o : SX4} (h : fX4_addNumber xs pa = some o) : mC l g yX4_addNumber cX4_addNumber 6 none (rM 1 21) [.ref (a i), .long pa] (wX4 g a i xs) (wX4 g a i o) none := by
  refine mC.ofW (by decide) (fun p e s m below meth c X hH ls _ hl => ?_) (Nat.le_of_ble_eq_true rfl)
  have hx := X.1
  have hb := X.2.1
  have hl : lv_has ls 6 [(0, .ref (a i)), (1, .long pa)] := hl
  unfold fX4_addNumber at h
  suffices HH : ∀ (H : Heap) (locs : List Loc), mH g s (wX4 g a i xs) (wX4 g a i xs) H locs → W p l e (rM 1 21) s m _ below meth c H locs 0 0 (mZ g below _ s (wX4 g a i xs) (wX4 g a i o) none) (F0 m 0 ls []) from HH _ _ hH
  clear hH
  intro H locs hH
  refine lv_lconst (v := (1 : Int64)) hx hb dX4_addNumber_0 (by decide) ?_
  refine s_ln X (lv' := [(3, .long (1 : Int64)), (0, .ref (a i)), (1, .long pa)]) hl rfl dX4_addNumber_1 rfl (by decide) rfl (fun ls hl => ?_)
  refine lv_iconst (v := (0 : Int32)) hx hb dX4_addNumber_2 (by decide) ?_
  refine s_i X (lv' := [(5, .int (0 : Int32)), (3, .long (1 : Int64)), (0, .ref (a i)), (1, .long pa)]) hl rfl dX4_addNumber_3 (by decide) rfl (fun ls hl => ?_)
  exact pX4_addNumber_5 X FU xs (1 : Int64) (0 : Int32) H locs ls h hH (lv_sub hl [2, 3, 1, 0] rfl)

def fX5_isSlot (pa : Int32) : Option Int32 :=
  (if pa < (0 : Int32) then
  some (0 : Int32)
  else
  (if (3 : Int32) ≤ pa then
  some (0 : Int32)
  else
  some (1 : Int32)))
set_option maxHeartbeats 4000000 in
set_option maxRecDepth 100000 in
theorem uX5_isSlot {l : Launch} {g : GG}  {pa : Int32} {o : Int32} (h : fX5_isSlot pa = some o) : mC l g yX5_isSlot cX5_isSlot 1 (some .boolean) (rM 0 0) [.int pa] [] [] (some (.int o)) := by
  refine mC.ofW (by decide) (fun p e s m below meth c X hH ls _ hl => ?_) (Nat.le_of_ble_eq_true rfl)
  have hx := X.1
  have hb := X.2.1
  have hl : lv_has ls 1 [(0, .int pa)] := hl
  unfold fX5_isSlot at h
  suffices HH : ∀ (H : Heap) (locs : List Loc), mH g s [] [] H locs → W p l e (rM 0 0) s m _ below meth c H locs 0 0 (mZ g below _ s [] [] (some (.int o))) (F0 m 0 ls []) from HH _ _ hH
  clear hH
  intro H locs hH
  refine lv_iload_n hx hb dX5_isSlot_0 rfl (lv_at hl 0 rfl) ?_
  refine lv_if_lt (tgt := 13) hx hb dX5_isSlot_1 (by decide) (fun c1 => ?_) (fun c1 => ?_)
  · have h := it_x h c1
    refine lv_iconst (v := (0 : Int32)) hx hb dX5_isSlot_13 (by decide) ?_
    have h := Option.some.inj h
    subst h
    exact e_z X hH (Or.inl rfl) dX5_isSlot_14
  · have h := ie_x h c1
    refine lv_iload_n hx hb dX5_isSlot_4 rfl (lv_at hl 0 rfl) ?_
    refine lv_iconst (v := (3 : Int32)) hx hb dX5_isSlot_5 (by decide) ?_
    refine lv_icmp_ge (tgt := 13) hx hb dX5_isSlot_6 (by decide) (fun c2 => ?_) (fun c2 => ?_)
    · have h := it_x h c2
      refine lv_iconst (v := (0 : Int32)) hx hb dX5_isSlot_13 (by decide) ?_
      have h := Option.some.inj h
      subst h
      exact e_z X hH (Or.inl rfl) dX5_isSlot_14
    · have h := ie_x h c2
      refine lv_iconst (v := (1 : Int32)) hx hb dX5_isSlot_9 (by decide) ?_
      refine lv_goto (tgt := 14) hx hb dX5_isSlot_10 (by decide) ?_
      have h := Option.some.inj h
      subst h
      exact e_z X hH (Or.inr rfl) dX5_isSlot_14

def qX5_make_38 (pa : Int32) (pb : Int32) (pc_ : Int32)  : Nat → SX5 → Int32 → Option (Int32 × SX5)
  | 0, _, _ => none
  | fu + 1, xs, l4 =>
  (if pc_ ≤ l4 then
  ga 3 pa fun j1 =>
  ltt ((sl_madeFor_s xs (upd (sl_madeFor xs) j1 pb))) fun xs1 =>
  ga 3 pa fun j2 =>
  ltt ((sl_sizes_s xs1 (upd (sl_sizes xs1) j2 pc_))) fun xs2 =>
  some ((1 : Int32), xs2)
  else
  ga 3 pa fun j3 =>
  ga 9 l4 fun j4 =>
  ltt ((sl_kinds_s xs (va_up (sl_kinds xs) j3 (upd ((sl_kinds xs) j3) j4 (-1 : Int32))))) fun xs3 =>
  ltt (l4 + (1 : Int32)) fun v1 =>
  qX5_make_38 pa pb pc_  fu xs3 v1)
def fX5_make (xs : SX5) (pa : Int32) (pb : Int32) (pc_ : Int32) : Option (Int32 × SX5) :=
  (fX5_isSlot pa).bind fun o1 =>
  (if o1 = (0 : Int32) then
  some ((-1 : Int32), xs)
  else
  (fX8_isKind pb).bind fun o2 =>
  (if o2 = (0 : Int32) then
  some ((-2 : Int32), xs)
  else
  (if pc_ ≤ (9 : Int32) then
  (if (0 : Int32) ≤ pc_ then
  qX5_make_38 pa pb pc_ FU xs (0 : Int32)
  else
  some ((-14 : Int32), xs))
  else
  some ((-6 : Int32), xs))))
set_option maxHeartbeats 4000000 in
set_option maxRecDepth 100000 in
theorem pX5_make_38 {p : Program} {l : Launch} {e : Env} {s : State} {m : MethodId} {args : Array Value} {below : List Frame} {meth : Method} {c : Code} {g : GG} {w0 : va_W} {a : Nat → Nat} {i : Nat} {pa : Int32} {pb : Int32} {pc_ : Int32} {o : (Int32 × SX5)} (X : mX g yX5_make cX5_make 5 (some .int) p s m args meth c w0) :
  ∀ (fu : Nat) (xs : SX5) (l4 : Int32) (H : Heap) (locs : List Loc) (ls : Array Slot), qX5_make_38 pa pb pc_ fu xs l4 = some o → mH g s w0 (wX5 g a i xs) H locs → lv_has ls 5 [(0, .ref (a i)), (1, .int pa), (2, .int pb), (3, .int pc_), (4, .int l4)] → W p l e (rM 1 20) s m args below meth c H locs 0 0 (mZ g below args s w0 (wX5 g a i o.2) (some (.int o.1))) (F0 m 38 ls []) := by
  have hx := X.1
  have hb := X.2.1
  intro fu
  induction fu with
  | zero =>
    intro xs l4 H locs ls h
    unfold qX5_make_38 at h
    cases h
  | succ fu ih =>
    intro xs l4 H locs ls h hH hl
    unfold qX5_make_38 at h
    refine lv_iload hx hb dX5_make_38 (lv_at hl 4 rfl) ?_
    refine lv_iload_n hx hb dX5_make_40 rfl (lv_at hl 3 rfl) ?_
    refine lv_icmp_ge (tgt := 60) hx hb dX5_make_41 (by decide) (fun c5 => ?_) (fun c5 => ?_)
    · have h := it_x h c5
      refine lv_aload_n hx hb dX5_make_60 rfl (lv_at hl 0 rfl) ?_
      refine f_get X hH 0 rfl rfl 1 (by decide) inX5 fX5_15 rfl dX5_make_61 ?_
      refine lv_iload_n hx hb dX5_make_64 rfl (lv_at hl 1 rfl) ?_
      refine lv_iload_n hx hb dX5_make_65 rfl (lv_at hl 2 rfl) ?_
      obtain ⟨j1, ej1, hinj1, h⟩ := ga_x h
      obtain ⟨xs1, exs1, h⟩ := ltt_x h
      refine a_is X hH (ws1 := (wX5 g a i xs1)) 2 rfl hinj1 ej1 (by rw [exs1]; rfl) dX5_make_66 (fun H locs hH => ?_)
      refine lv_aload_n hx hb dX5_make_67 rfl (lv_at hl 0 rfl) ?_
      refine f_get X hH 0 rfl rfl 0 (by decide) inX5 fX5_9 rfl dX5_make_68 ?_
      refine lv_iload_n hx hb dX5_make_71 rfl (lv_at hl 1 rfl) ?_
      refine lv_iload_n hx hb dX5_make_72 rfl (lv_at hl 3 rfl) ?_
      obtain ⟨j2, ej2, hinj2, h⟩ := ga_x h
      obtain ⟨xs2, exs2, h⟩ := ltt_x h
      refine a_is X hH (ws1 := (wX5 g a i xs2)) 1 rfl hinj2 ej2 (by rw [exs2]; rfl) dX5_make_73 (fun H locs hH => ?_)
      refine lv_iconst (v := (1 : Int32)) hx hb dX5_make_74 (by decide) ?_
      have h := Option.some.inj h
      subst h
      exact e_i X hH dX5_make_75
    · have h := ie_x h c5
      refine lv_aload_n hx hb dX5_make_44 rfl (lv_at hl 0 rfl) ?_
      refine f_get X hH 0 rfl rfl 2 (by decide) inX5 fX5_20 rfl dX5_make_45 ?_
      refine lv_iload_n hx hb dX5_make_48 rfl (lv_at hl 1 rfl) ?_
      obtain ⟨j3, ej3, hinj3, h⟩ := ga_x h
      have hltj3 : j3 < 3 := by rw [ej3]; exact vp_lt hinj3
      refine a_al X hH (v := .ref (a (i + 4 + j3))) 3 5 rfl rfl hinj3 ej3 (rf_in hltj3) dX5_make_49 ?_
      refine lv_iload hx hb dX5_make_50 (lv_at hl 4 rfl) ?_
      refine lv_iconst (v := (-1 : Int32)) hx hb dX5_make_52 (by decide) ?_
      obtain ⟨j4, ej4, hinj4, h⟩ := ga_x h
      obtain ⟨xs3, exs3, h⟩ := ltt_x h
      have hwxs3 := co_3 (P := fun jj => ((wX5 g a i xs)).set (4 + jj) (a (i + 4 + jj), .inl (g.2.1 0, 9, .inl (upd ((sl_kinds xs) jj) j4 (-1 : Int32)))) = (wX5 g a i (sl_kinds_s xs (va_up (sl_kinds xs) jj (upd ((sl_kinds xs) jj) j4 (-1 : Int32)))))) rfl rfl rfl hltj3
      refine a_is X hH (ws1 := (wX5 g a i xs3)) (4 + j3) (co_3 (P := fun jj => ((wX5 g a i xs))[4 + jj]? = some (a (i + 4 + jj), .inl (g.2.1 0, 9, .inl ((sl_kinds xs) jj)))) rfl rfl rfl hltj3) hinj4 ej4 (hwxs3.trans (by rw [exs3])) dX5_make_53 (fun H locs hH => ?_)
      obtain ⟨v1, ev1, h⟩ := ltt_x h
      refine s_inc X (k := 4) (lv' := [(4, .int v1), (0, .ref (a i)), (1, .int pa), (2, .int pb), (3, .int pc_)]) hl rfl (by rw [ev1]; rfl) dX5_make_54 (by decide) rfl (fun ls hl => ?_)
      refine lv_goto (tgt := 38) hx hb dX5_make_57 (by decide) ?_
      exact ih xs3 v1 H locs ls h hH (lv_sub hl [1, 2, 3, 4, 0] rfl)
set_option maxHeartbeats 4000000 in
set_option maxRecDepth 100000 in
theorem uX5_make {l : Launch} {g : GG} {a : Nat → Nat} {i : Nat} {xs : SX5} {pa : Int32} {pb : Int32} {pc_ : Int32} {o : (Int32 × SX5)} (h : fX5_make xs pa pb pc_ = some o) : mC l g yX5_make cX5_make 5 (some .int) (rM 1 20) [.ref (a i), .int pa, .int pb, .int pc_] (wX5 g a i xs) (wX5 g a i o.2) (some (.int o.1)) := by
  refine mC.ofW (by decide) (fun p e s m below meth c X hH ls _ hl => ?_) (Nat.le_of_ble_eq_true rfl)
  have hx := X.1
  have hb := X.2.1
  have hl : lv_has ls 5 [(0, .ref (a i)), (1, .int pa), (2, .int pb), (3, .int pc_)] := hl
  unfold fX5_make at h
  suffices HH : ∀ (H : Heap) (locs : List Loc), mH g s (wX5 g a i xs) (wX5 g a i xs) H locs → W p l e (rM 1 20) s m _ below meth c H locs 0 0 (mZ g below _ s (wX5 g a i xs) (wX5 g a i o.2) (some (.int o.1))) (F0 m 0 ls []) from HH _ _ hH
  clear hH
  intro H locs hH
  refine lv_iload_n hx hb dX5_make_0 rfl (lv_at hl 1 rfl) ?_
  obtain ⟨o1, ho1, h⟩ := bd_x h
  refine r_S X hH (ws1 := (wX5 g a i xs)) (As := [.int pa]) (rest := []) (st1 := [.int o1]) (uX5_isSlot  ho1) kX5_isSlot mX5_26 sX5_isSlot zX5 okX5_isSlot ⟨Nat.le_of_ble_eq_true rfl, Nat.le_of_ble_eq_true rfl⟩ rfl rfl (pm_none _) (pm_none _) rfl hl.1 rfl (Nat.le_of_ble_eq_true rfl) ⟨Nat.le_refl 0, Nat.le_refl 0⟩ rfl dX5_make_1 (fun H locs hH => ?_)
  refine lv_if_ne (tgt := 9) hx hb dX5_make_4 (by decide) (fun c1 => ?_) (fun c1 => ?_)
  · have h := ie_x h c1
    refine lv_iload_n hx hb dX5_make_9 rfl (lv_at hl 2 rfl) ?_
    obtain ⟨o2, ho2, h⟩ := bd_x h
    refine r_SN X hH (ws1 := (wX5 g a i xs)) (As := [.int pb]) (rest := []) (st1 := [.int o2]) (uX8_isKind  ho2) kX8_isKind nnX5_30 sX8_isKind zX8 okX8_isKind ⟨Nat.le_of_ble_eq_true rfl, Nat.le_of_ble_eq_true rfl⟩ rfl rfl (pm_none _) (pm_none _) rfl hl.1 rfl (Nat.le_of_ble_eq_true rfl) ⟨Nat.le_refl 0, Nat.le_refl 0⟩ rfl dX5_make_10 (fun H locs hH => ?_)
    refine lv_if_ne (tgt := 19) hx hb dX5_make_13 (by decide) (fun c2 => ?_) (fun c2 => ?_)
    · have h := ie_x h c2
      refine lv_iload_n hx hb dX5_make_19 rfl (lv_at hl 3 rfl) ?_
      refine lv_bipush (v := (9 : Int32)) hx hb dX5_make_20 (by decide) ?_
      refine lv_icmp_le (tgt := 28) hx hb dX5_make_22 (by decide) (fun c3 => ?_) (fun c3 => ?_)
      · have h := it_x h c3
        refine lv_iload_n hx hb dX5_make_28 rfl (lv_at hl 3 rfl) ?_
        refine lv_if_ge (tgt := 35) hx hb dX5_make_29 (by decide) (fun c4 => ?_) (fun c4 => ?_)
        · have h := it_x h c4
          refine lv_iconst (v := (0 : Int32)) hx hb dX5_make_35 (by decide) ?_
          refine s_i X (lv' := [(4, .int (0 : Int32)), (0, .ref (a i)), (1, .int pa), (2, .int pb), (3, .int pc_)]) hl rfl dX5_make_36 (by decide) rfl (fun ls hl => ?_)
          exact pX5_make_38 X FU xs (0 : Int32) H locs ls h hH (lv_sub hl [1, 2, 3, 4, 0] rfl)
        · have h := ie_x h c4
          refine lv_bipush (v := (-14 : Int32)) hx hb dX5_make_32 (by decide) ?_
          have h := Option.some.inj h
          subst h
          exact e_i X hH dX5_make_34
      · have h := ie_x h c3
        refine lv_bipush (v := (-6 : Int32)) hx hb dX5_make_25 (by decide) ?_
        have h := Option.some.inj h
        subst h
        exact e_i X hH dX5_make_27
    · have h := it_x h c2
      refine lv_bipush (v := (-2 : Int32)) hx hb dX5_make_16 (by decide) ?_
      have h := Option.some.inj h
      subst h
      exact e_i X hH dX5_make_18
  · have h := it_x h c1
    refine lv_iconst (v := (-1 : Int32)) hx hb dX5_make_7 (by decide) ?_
    have h := Option.some.inj h
    subst h
    exact e_i X hH dX5_make_8

def qX8_isOfKind_4 (pa : Int32) (pb : Int32)  : Nat → Int32 → Int32 → Option Int32
  | 0, _, _ => none
  | fu + 1, l2, l3 =>
  (if (6 : Int32) ≤ l3 then
  some (0 : Int32)
  else
  (fX8_isKind l2).bind fun o1 =>
  (if o1 = (0 : Int32) then
  some (0 : Int32)
  else
  (if l2 = pb then
  some (1 : Int32)
  else
  ga 6 l2 fun j1 =>
  ltt ((gund.getD j1 0)) fun v1 =>
  ltt (l3 + (1 : Int32)) fun v2 =>
  qX8_isOfKind_4 pa pb  fu v1 v2)))
def fX8_isOfKind (pa : Int32) (pb : Int32) : Option Int32 :=
  qX8_isOfKind_4 pa pb FU pa (0 : Int32)
set_option maxHeartbeats 4000000 in
set_option maxRecDepth 100000 in
theorem pX8_isOfKind_4 {p : Program} {l : Launch} {e : Env} {s : State} {m : MethodId} {args : Array Value} {below : List Frame} {meth : Method} {c : Code} {g : GG} {w0 : va_W}  {pa : Int32} {pb : Int32} {o : Int32} (X : mX g yX8_isOfKind cX8_isOfKind 4 (some .boolean) p s m args meth c w0) :
  ∀ (fu : Nat) (l2 : Int32) (l3 : Int32) (H : Heap) (locs : List Loc) (ls : Array Slot), qX8_isOfKind_4 pa pb fu l2 l3 = some o → mH g s w0 [] H locs → lv_has ls 4 [(0, .int pa), (1, .int pb), (2, .int l2), (3, .int l3)] → W p l e (rM 1 20) s m args below meth c H locs 0 0 (mZ g below args s w0 [] (some (.int o))) (F0 m 4 ls []) := by
  have hx := X.1
  have hb := X.2.1
  intro fu
  induction fu with
  | zero =>
    intro l2 l3 H locs ls h
    unfold qX8_isOfKind_4 at h
    cases h
  | succ fu ih =>
    intro l2 l3 H locs ls h hH hl
    unfold qX8_isOfKind_4 at h
    refine lv_iload_n hx hb dX8_isOfKind_4 rfl (lv_at hl 3 rfl) ?_
    refine lv_bipush (v := (6 : Int32)) hx hb dX8_isOfKind_5 (by decide) ?_
    refine lv_icmp_ge (tgt := 36) hx hb dX8_isOfKind_7 (by decide) (fun c1 => ?_) (fun c1 => ?_)
    · have h := it_x h c1
      refine lv_iconst (v := (0 : Int32)) hx hb dX8_isOfKind_36 (by decide) ?_
      have h := Option.some.inj h
      subst h
      exact e_z X hH (Or.inl rfl) dX8_isOfKind_37
    · have h := ie_x h c1
      refine lv_iload_n hx hb dX8_isOfKind_10 rfl (lv_at hl 2 rfl) ?_
      obtain ⟨o1, ho1, h⟩ := bd_x h
      refine r_S X hH (ws1 := []) (As := [.int l2]) (rest := []) (st1 := [.int o1]) (uX8_isKind  ho1) kX8_isKind mX8_360 sX8_isKind zX8 okX8_isKind ⟨Nat.le_of_ble_eq_true rfl, Nat.le_of_ble_eq_true rfl⟩ rfl rfl (pm_none _) (pm_none _) rfl hl.1 rfl (Nat.le_of_ble_eq_true rfl) ⟨Nat.le_refl 0, Nat.le_refl 0⟩ rfl dX8_isOfKind_11 (fun H locs hH => ?_)
      refine lv_if_eq (tgt := 36) hx hb dX8_isOfKind_14 (by decide) (fun c2 => ?_) (fun c2 => ?_)
      · have h := it_x h c2
        refine lv_iconst (v := (0 : Int32)) hx hb dX8_isOfKind_36 (by decide) ?_
        have h := Option.some.inj h
        subst h
        exact e_z X hH (Or.inl rfl) dX8_isOfKind_37
      · have h := ie_x h c2
        refine lv_iload_n hx hb dX8_isOfKind_17 rfl (lv_at hl 2 rfl) ?_
        refine lv_iload_n hx hb dX8_isOfKind_18 rfl (lv_at hl 1 rfl) ?_
        refine lv_icmp_ne (tgt := 24) hx hb dX8_isOfKind_19 (by decide) (fun c3 => ?_) (fun c3 => ?_)
        · have h := ie_x h c3
          refine va_gets hx hb (X.2.2.2.2.2.2.2.1.2.2.1.narrow X.2.2.2.2.2.2.2.2) hH.2.2 X.2.2.2.2.1 (X.2.2.2.2.2.1 _ fX8_363) (fun _ h => h) dX8_isOfKind_24 ?_
          refine lv_iload_n hx hb dX8_isOfKind_27 rfl (lv_at hl 2 rfl) ?_
          obtain ⟨j1, ej1, hinj1, h⟩ := ga_x h
          refine va_ti hx hb (X.2.2.2.2.2.2.2.1.2.2.2.1.narrow X.2.2.2.2.2.2.2.2) hH.2.2 hinj1 (v := .int (gund.getD j1 0)) (by rw [ej1]) dX8_isOfKind_28 ?_
          obtain ⟨v1, ev1, h⟩ := ltt_x h
          refine s_in X (lv' := [(2, .int v1), (0, .int pa), (1, .int pb), (3, .int l3)]) hl ev1 dX8_isOfKind_29 rfl (by decide) rfl (fun ls hl => ?_)
          obtain ⟨v2, ev2, h⟩ := ltt_x h
          refine s_inc X (k := 3) (lv' := [(3, .int v2), (2, .int v1), (0, .int pa), (1, .int pb)]) hl rfl (by rw [ev2]; rfl) dX8_isOfKind_30 (by decide) rfl (fun ls hl => ?_)
          refine lv_goto (tgt := 4) hx hb dX8_isOfKind_33 (by decide) ?_
          exact ih v1 v2 H locs ls h hH (lv_sub hl [2, 3, 1, 0] rfl)
        · have h := it_x h c3
          refine lv_iconst (v := (1 : Int32)) hx hb dX8_isOfKind_22 (by decide) ?_
          have h := Option.some.inj h
          subst h
          exact e_z X hH (Or.inr rfl) dX8_isOfKind_23
set_option maxHeartbeats 4000000 in
set_option maxRecDepth 100000 in
theorem uX8_isOfKind {l : Launch} {g : GG}  {pa : Int32} {pb : Int32} {o : Int32} (h : fX8_isOfKind pa pb = some o) : mC l g yX8_isOfKind cX8_isOfKind 4 (some .boolean) (rM 1 20) [.int pa, .int pb] [] [] (some (.int o)) := by
  refine mC.ofW (by decide) (fun p e s m below meth c X hH ls _ hl => ?_) (Nat.le_of_ble_eq_true rfl)
  have hx := X.1
  have hb := X.2.1
  have hl : lv_has ls 4 [(0, .int pa), (1, .int pb)] := hl
  unfold fX8_isOfKind at h
  suffices HH : ∀ (H : Heap) (locs : List Loc), mH g s [] [] H locs → W p l e (rM 1 20) s m _ below meth c H locs 0 0 (mZ g below _ s [] [] (some (.int o))) (F0 m 0 ls []) from HH _ _ hH
  clear hH
  intro H locs hH
  refine lv_iload_n hx hb dX8_isOfKind_0 rfl (lv_at hl 0 rfl) ?_
  refine s_in X (lv' := [(2, .int pa), (0, .int pa), (1, .int pb)]) hl rfl dX8_isOfKind_1 rfl (by decide) rfl (fun ls hl => ?_)
  refine lv_iconst (v := (0 : Int32)) hx hb dX8_isOfKind_2 (by decide) ?_
  refine s_in X (lv' := [(3, .int (0 : Int32)), (2, .int pa), (0, .int pa), (1, .int pb)]) hl rfl dX8_isOfKind_3 rfl (by decide) rfl (fun ls hl => ?_)
  exact pX8_isOfKind_4 X FU pa (0 : Int32) H locs ls h hH (lv_sub hl [2, 3, 1, 0] rfl)
