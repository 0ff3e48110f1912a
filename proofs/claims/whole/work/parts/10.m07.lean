def fX8_sayFraction (xs : SX8) (pa : Int64) : Option SX8 :=
  (fX8_leastTerms pa (eq_below (w_equations xs)) (1 : Int32)).bind fun o1 =>
  (fX8_leastTerms pa (eq_below (w_equations xs)) (0 : Int32)).bind fun o2 =>
  (fX4_addNumber (w_saying xs) o2).bind fun o3 =>
  ltt ((w_saying_s xs o3)) fun xs1 =>
  (if o1 = (1 : Int64) then
  some xs1
  else
  (fX4_addText (w_saying xs1) 9).bind fun o4 =>
  ltt ((w_saying_s xs1 o4)) fun xs2 =>
  (fX4_addNumber (w_saying xs2) o1).bind fun o5 =>
  ltt ((w_saying_s xs2 o5)) fun xs3 =>
  some xs3)
set_option maxHeartbeats 4000000 in
set_option maxRecDepth 100000 in
theorem uX8_sayFraction {l : Launch} {g : GG} {a : Nat → Nat} {i : Nat} {xs : SX8} {pa : Int64} {o : SX8} (h : fX8_sayFraction xs pa = some o) : mC l g yX8_sayFraction cX8_sayFraction 5 none (rM 5 107) [.ref (a i), .long pa] (wX8 g a i xs) (wX8 g a i o) none := by
  refine mC.ofW (by decide) (fun p e s m below meth c X hH ls _ hl => ?_) (Nat.le_of_ble_eq_true rfl)
  have hx := X.1
  have hb := X.2.1
  have hl : lv_has ls 5 [(0, .ref (a i)), (1, .long pa)] := hl
  unfold fX8_sayFraction at h
  suffices HH : ∀ (H : Heap) (locs : List Loc), mH g s (wX8 g a i xs) (wX8 g a i xs) H locs → W p l e (rM 5 107) s m _ below meth c H locs 0 0 (mZ g below _ s (wX8 g a i xs) (wX8 g a i o) none) (F0 m 0 ls []) from HH _ _ hH
  clear hH
  intro H locs hH
  refine lv_lload_n hx hb dX8_sayFraction_0 rfl (lv_at hl 1 rfl) ?_
  refine lv_aload_n hx hb dX8_sayFraction_1 rfl (lv_at hl 0 rfl) ?_
  refine f_get X hH 0 rfl rfl 4 (by decide) inX8 fX8_29 rfl dX8_sayFraction_2 ?_
  refine f_get X hH 22 rfl rfl 1 (by decide) inX0 fX8_178 rfl dX8_sayFraction_5 ?_
  refine lv_iconst (v := (1 : Int32)) hx hb dX8_sayFraction_8 (by decide) ?_
  obtain ⟨o1, ho1, h⟩ := bd_x h
  refine r_S X hH (ws1 := (wX8 g a i xs)) (As := [.long pa, .long (eq_below (w_equations xs)), .int (1 : Int32)]) (rest := []) (st1 := [.long o1]) (uX8_leastTerms  ho1) kX8_leastTerms mX8_182 sX8_leastTerms zX8 okX8_leastTerms ⟨Nat.le_of_ble_eq_true rfl, Nat.le_of_ble_eq_true rfl⟩ rfl rfl (pm_none _) (pm_none _) rfl hl.1 rfl (Nat.le_of_ble_eq_true rfl) ⟨Nat.le_refl 0, Nat.le_refl 0⟩ rfl dX8_sayFraction_9 (fun H locs hH => ?_)
  refine s_ln X (lv' := [(3, .long o1), (0, .ref (a i)), (1, .long pa)]) hl rfl dX8_sayFraction_12 rfl (by decide) rfl (fun ls hl => ?_)
  refine lv_aload_n hx hb dX8_sayFraction_13 rfl (lv_at hl 1 rfl) ?_
  refine f_get X hH 0 rfl rfl 9 (by decide) inX8 fX8_61 rfl dX8_sayFraction_14 ?_
  refine lv_lload_n hx hb dX8_sayFraction_17 rfl (lv_at hl 2 rfl) ?_
  refine lv_aload_n hx hb dX8_sayFraction_18 rfl (lv_at hl 1 rfl) ?_
  refine f_get X hH 0 rfl rfl 4 (by decide) inX8 fX8_29 rfl dX8_sayFraction_19 ?_
  refine f_get X hH 22 rfl rfl 1 (by decide) inX0 fX8_178 rfl dX8_sayFraction_22 ?_
  refine lv_iconst (v := (0 : Int32)) hx hb dX8_sayFraction_25 (by decide) ?_
  obtain ⟨o2, ho2, h⟩ := bd_x h
  refine r_S X hH (ws1 := (wX8 g a i xs)) (As := [.long pa, .long (eq_below (w_equations xs)), .int (0 : Int32)]) (rest := [.ref (a (i + 42))]) (st1 := [.long o2, .ref (a (i + 42))]) (uX8_leastTerms  ho2) kX8_leastTerms mX8_182 sX8_leastTerms zX8 okX8_leastTerms ⟨Nat.le_of_ble_eq_true rfl, Nat.le_of_ble_eq_true rfl⟩ rfl rfl (pm_none _) (pm_none _) rfl hl.1 rfl (Nat.le_of_ble_eq_true rfl) ⟨Nat.le_refl 0, Nat.le_refl 0⟩ rfl dX8_sayFraction_26 (fun H locs hH => ?_)
  obtain ⟨o3, ho3, h⟩ := bd_x h
  obtain ⟨xs1, exs1, h⟩ := ltt_x h
  refine r_V X hH (ws1 := (wX8 g a i xs1)) (As := [.long o2]) (rest := []) (st1 := []) (uX4_addNumber (a := a) (i := (i + 42)) ho3) kX4_addNumber mX8_334 iX4_addNumber vX4_addNumber zX4 okX4_addNumber ⟨Nat.le_of_ble_eq_true rfl, Nat.le_of_ble_eq_true rfl⟩ rfl rfl (q0 := 42) rfl rfl (bX8_9) (by rw [exs1]; exact (bX8_9)) rfl hl.1 rfl (Nat.le_of_ble_eq_true rfl) ⟨Nat.le_refl 0, Nat.le_refl 0⟩ rfl dX8_sayFraction_29 (fun H locs hH => ?_)
  refine lv_lload_n hx hb dX8_sayFraction_32 rfl (lv_at hl 0 rfl) ?_
  refine lv_lconst (v := (1 : Int64)) hx hb dX8_sayFraction_33 (by decide) ?_
  refine W.lcmp hx hb dX8_sayFraction_34 ?_
  refine lv_if_eq (tgt := 56) hx hb dX8_sayFraction_35 (by decide) (fun c1 => ?_) (fun c1 => ?_)
  · have h := it_x h ((lg_cmp_eq o1 (1 : Int64)).mp c1)
    have h := Option.some.inj h
    subst h
    exact e_v X hH dX8_sayFraction_56
  · have h := ie_x h (mt (lg_cmp_eq o1 (1 : Int64)).mpr c1)
    refine lv_aload_n hx hb dX8_sayFraction_38 rfl (lv_at hl 1 rfl) ?_
    refine f_get X hH 0 rfl rfl 9 (by decide) inX8 fX8_61 rfl dX8_sayFraction_39 ?_
    refine va_ldcwS hx hb X.2.2.2.2.1 (X.2.2.2.2.2.2.2.1.2.2.2.2.2.2.1 9 (by decide)) dX8_sayFraction_42 ?_
    obtain ⟨o4, ho4, h⟩ := bd_x h
    obtain ⟨xs2, exs2, h⟩ := ltt_x h
    refine r_V X hH (ws1 := (wX8 g a i xs2)) (As := [.ref (g.2.2.1 (1 + 9))]) (rest := []) (st1 := []) (uX4_addText (a := a) (i := (i + 42)) ho4) kX4_addText mX8_340 iX4_addText vX4_addText zX4 okX4_addText ⟨Nat.le_of_ble_eq_true rfl, Nat.le_of_ble_eq_true rfl⟩ rfl rfl (q0 := 42) rfl rfl (bX8_9) (by rw [exs2]; exact (bX8_9)) rfl hl.1 rfl (Nat.le_of_ble_eq_true rfl) ⟨Nat.le_refl 0, Nat.le_refl 0⟩ rfl dX8_sayFraction_45 (fun H locs hH => ?_)
    refine lv_aload_n hx hb dX8_sayFraction_48 rfl (lv_at hl 1 rfl) ?_
    refine f_get X hH 0 rfl rfl 9 (by decide) inX8 fX8_61 rfl dX8_sayFraction_49 ?_
    refine lv_lload_n hx hb dX8_sayFraction_52 rfl (lv_at hl 0 rfl) ?_
    obtain ⟨o5, ho5, h⟩ := bd_x h
    obtain ⟨xs3, exs3, h⟩ := ltt_x h
    refine r_V X hH (ws1 := (wX8 g a i xs3)) (As := [.long o1]) (rest := []) (st1 := []) (uX4_addNumber (a := a) (i := (i + 42)) ho5) kX4_addNumber mX8_334 iX4_addNumber vX4_addNumber zX4 okX4_addNumber ⟨Nat.le_of_ble_eq_true rfl, Nat.le_of_ble_eq_true rfl⟩ rfl rfl (q0 := 42) rfl rfl (bX8_9) (by rw [exs3]; exact (bX8_9)) rfl hl.1 rfl (Nat.le_of_ble_eq_true rfl) ⟨Nat.le_refl 0, Nat.le_refl 0⟩ rfl dX8_sayFraction_53 (fun H locs hH => ?_)
    have h := Option.some.inj h
    subst h
    exact e_v X hH dX8_sayFraction_56

def fX8_say (xs : SX8) (pa : Int32) (pb : Int32) : Option SX8 :=
  ltt ((w_saying_s xs (sa_size_s (w_saying xs) (0 : Int32)))) fun xs1 =>
  (fX4_addNumber (w_saying xs1) (pa.toInt64)).bind fun o1 =>
  ltt ((w_saying_s xs1 o1)) fun xs2 =>
  (fX4_addText (w_saying xs2) 6).bind fun o2 =>
  ltt ((w_saying_s xs2 o2)) fun xs3 =>
  (fX4_addNumber (w_saying xs3) (pb.toInt64)).bind fun o3 =>
  ltt ((w_saying_s xs3 o3)) fun xs4 =>
  (fX4_addText (w_saying xs4) 7).bind fun o4 =>
  ltt ((w_saying_s xs4 o4)) fun xs5 =>
  (fX3_allWays (w_net xs5)).bind fun o5 =>
  (fX3_reached (w_net xs5) ((1 : Int32) <<< (pa &&& 31)) o5).bind fun o6 =>
  (fX8_has o6 pb).bind fun o7 =>
  (if o7 = (0 : Int32) then
  (fX4_addText (w_saying xs5) 8).bind fun o15 =>
  ltt ((w_saying_s xs5 o15)) fun xs9 =>
  some xs9
  else
  (fX3_allWays (w_net xs5)).bind fun o8 =>
  (fX0_timesTo (w_equations xs5) (w_net xs5) o8 pb).bind fun o9 =>
  ltt ((w_equations_s xs5 o9)) fun xs6 =>
  ga 6 pa fun j1 =>
  (fX8_sayFraction xs6 ((eq_above (w_equations xs6)) j1)).bind fun o10 =>
  (fX4_addText (w_saying o10) 10).bind fun o11 =>
  ltt ((w_saying_s o10 o11)) fun xs7 =>
  (fX8_commuteAbove xs7 pa pb).bind fun o12 =>
  (fX8_sayFraction o12.2 o12.1).bind fun o13 =>
  (fX4_addText (w_saying o13) 11).bind fun o14 =>
  ltt ((w_saying_s o13 o14)) fun xs8 =>
  some xs8)
set_option maxHeartbeats 4000000 in
set_option maxRecDepth 100000 in
theorem uX8_say {l : Launch} {g : GG} {a : Nat → Nat} {i : Nat} {xs : SX8} {pa : Int32} {pb : Int32} {o : SX8} (h : fX8_say xs pa pb = some o) : mC l g yX8_say cX8_say 5 none (rM 6 131) [.ref (a i), .int pa, .int pb] (wX8 g a i xs) (wX8 g a i o) none := by
  refine mC.ofW (by decide) (fun p e s m below meth c X hH ls _ hl => ?_) (Nat.le_of_ble_eq_true rfl)
  have hx := X.1
  have hb := X.2.1
  have hl : lv_has ls 5 [(0, .ref (a i)), (1, .int pa), (2, .int pb)] := hl
  unfold fX8_say at h
  suffices HH : ∀ (H : Heap) (locs : List Loc), mH g s (wX8 g a i xs) (wX8 g a i xs) H locs → W p l e (rM 6 131) s m _ below meth c H locs 0 0 (mZ g below _ s (wX8 g a i xs) (wX8 g a i o) none) (F0 m 0 ls []) from HH _ _ hH
  clear hH
  intro H locs hH
  refine lv_aload_n hx hb dX8_say_0 rfl (lv_at hl 0 rfl) ?_
  refine f_get X hH 0 rfl rfl 9 (by decide) inX8 fX8_61 rfl dX8_say_1 ?_
  refine lv_iconst (v := (0 : Int32)) hx hb dX8_say_4 (by decide) ?_
  obtain ⟨xs1, exs1, h⟩ := ltt_x h
  refine f_put X hH (ws1 := (wX8 g a i xs1)) 42 rfl rfl 0 (by decide) inX4 tyX4 tyX4_ok nmX4 fX8_268 rfl rfl rfl (Nat.le_of_ble_eq_true rfl) (by rw [exs1]; rfl) dX8_say_5 (fun H locs hH => ?_)
  refine lv_aload_n hx hb dX8_say_8 rfl (lv_at hl 0 rfl) ?_
  refine f_get X hH 0 rfl rfl 9 (by decide) inX8 fX8_61 rfl dX8_say_9 ?_
  refine lv_iload_n hx hb dX8_say_12 rfl (lv_at hl 1 rfl) ?_
  refine lv_i2l hx hb dX8_say_13 rfl ?_
  obtain ⟨o1, ho1, h⟩ := bd_x h
  obtain ⟨xs2, exs2, h⟩ := ltt_x h
  refine r_V X hH (ws1 := (wX8 g a i xs2)) (As := [.long (pa.toInt64)]) (rest := []) (st1 := []) (uX4_addNumber (a := a) (i := (i + 42)) ho1) kX4_addNumber mX8_334 iX4_addNumber vX4_addNumber zX4 okX4_addNumber ⟨Nat.le_of_ble_eq_true rfl, Nat.le_of_ble_eq_true rfl⟩ rfl rfl (q0 := 42) rfl rfl (bX8_9) (by rw [exs2]; exact (bX8_9)) rfl hl.1 rfl (Nat.le_of_ble_eq_true rfl) ⟨Nat.le_refl 0, Nat.le_refl 0⟩ rfl dX8_say_14 (fun H locs hH => ?_)
  refine lv_aload_n hx hb dX8_say_17 rfl (lv_at hl 0 rfl) ?_
  refine f_get X hH 0 rfl rfl 9 (by decide) inX8 fX8_61 rfl dX8_say_18 ?_
  refine va_ldcwS hx hb X.2.2.2.2.1 (X.2.2.2.2.2.2.2.1.2.2.2.2.2.2.1 6 (by decide)) dX8_say_21 ?_
  obtain ⟨o2, ho2, h⟩ := bd_x h
  obtain ⟨xs3, exs3, h⟩ := ltt_x h
  refine r_V X hH (ws1 := (wX8 g a i xs3)) (As := [.ref (g.2.2.1 (1 + 6))]) (rest := []) (st1 := []) (uX4_addText (a := a) (i := (i + 42)) ho2) kX4_addText mX8_340 iX4_addText vX4_addText zX4 okX4_addText ⟨Nat.le_of_ble_eq_true rfl, Nat.le_of_ble_eq_true rfl⟩ rfl rfl (q0 := 42) rfl rfl (bX8_9) (by rw [exs3]; exact (bX8_9)) rfl hl.1 rfl (Nat.le_of_ble_eq_true rfl) ⟨Nat.le_refl 0, Nat.le_refl 0⟩ rfl dX8_say_24 (fun H locs hH => ?_)
  refine lv_aload_n hx hb dX8_say_27 rfl (lv_at hl 0 rfl) ?_
  refine f_get X hH 0 rfl rfl 9 (by decide) inX8 fX8_61 rfl dX8_say_28 ?_
  refine lv_iload_n hx hb dX8_say_31 rfl (lv_at hl 2 rfl) ?_
  refine lv_i2l hx hb dX8_say_32 rfl ?_
  obtain ⟨o3, ho3, h⟩ := bd_x h
  obtain ⟨xs4, exs4, h⟩ := ltt_x h
  refine r_V X hH (ws1 := (wX8 g a i xs4)) (As := [.long (pb.toInt64)]) (rest := []) (st1 := []) (uX4_addNumber (a := a) (i := (i + 42)) ho3) kX4_addNumber mX8_334 iX4_addNumber vX4_addNumber zX4 okX4_addNumber ⟨Nat.le_of_ble_eq_true rfl, Nat.le_of_ble_eq_true rfl⟩ rfl rfl (q0 := 42) rfl rfl (bX8_9) (by rw [exs4]; exact (bX8_9)) rfl hl.1 rfl (Nat.le_of_ble_eq_true rfl) ⟨Nat.le_refl 0, Nat.le_refl 0⟩ rfl dX8_say_33 (fun H locs hH => ?_)
  refine lv_aload_n hx hb dX8_say_36 rfl (lv_at hl 0 rfl) ?_
  refine f_get X hH 0 rfl rfl 9 (by decide) inX8 fX8_61 rfl dX8_say_37 ?_
  refine va_ldcwS hx hb X.2.2.2.2.1 (X.2.2.2.2.2.2.2.1.2.2.2.2.2.2.1 7 (by decide)) dX8_say_40 ?_
  obtain ⟨o4, ho4, h⟩ := bd_x h
  obtain ⟨xs5, exs5, h⟩ := ltt_x h
  refine r_V X hH (ws1 := (wX8 g a i xs5)) (As := [.ref (g.2.2.1 (1 + 7))]) (rest := []) (st1 := []) (uX4_addText (a := a) (i := (i + 42)) ho4) kX4_addText mX8_340 iX4_addText vX4_addText zX4 okX4_addText ⟨Nat.le_of_ble_eq_true rfl, Nat.le_of_ble_eq_true rfl⟩ rfl rfl (q0 := 42) rfl rfl (bX8_9) (by rw [exs5]; exact (bX8_9)) rfl hl.1 rfl (Nat.le_of_ble_eq_true rfl) ⟨Nat.le_refl 0, Nat.le_refl 0⟩ rfl dX8_say_43 (fun H locs hH => ?_)
  refine lv_aload_n hx hb dX8_say_46 rfl (lv_at hl 0 rfl) ?_
  refine f_get X hH 0 rfl rfl 0 (by decide) inX8 fX8_10 rfl dX8_say_47 ?_
  refine lv_iconst (v := (1 : Int32)) hx hb dX8_say_50 (by decide) ?_
  refine lv_iload_n hx hb dX8_say_51 rfl (lv_at hl 1 rfl) ?_
  refine lv_ishl hx hb dX8_say_52 ?_
  refine lv_aload_n hx hb dX8_say_53 rfl (lv_at hl 0 rfl) ?_
  refine f_get X hH 0 rfl rfl 0 (by decide) inX8 fX8_10 rfl dX8_say_54 ?_
  obtain ⟨o5, ho5, h⟩ := bd_x h
  refine r_V X hH (ws1 := (wX8 g a i xs5)) (As := []) (rest := [.int ((1 : Int32) <<< (pa &&& 31)), .ref (a (i + 1))]) (st1 := [.int o5, .int ((1 : Int32) <<< (pa &&& 31)), .ref (a (i + 1))]) (uX3_allWays (a := a) (i := (i + 1)) ho5) kX3_allWays mX8_157 iX3_allWays vX3_allWays zX3 okX3_allWays ⟨Nat.le_of_ble_eq_true rfl, Nat.le_of_ble_eq_true rfl⟩ rfl rfl (q0 := 1) rfl rfl (bX8_1) (bX8_1) rfl hl.1 rfl (Nat.le_of_ble_eq_true rfl) ⟨Nat.le_refl 0, Nat.le_refl 0⟩ rfl dX8_say_57 (fun H locs hH => ?_)
  obtain ⟨o6, ho6, h⟩ := bd_x h
  refine r_V X hH (ws1 := (wX8 g a i xs5)) (As := [.int ((1 : Int32) <<< (pa &&& 31)), .int o5]) (rest := []) (st1 := [.int o6]) (uX3_reached (a := a) (i := (i + 1)) ho6) kX3_reached mX8_161 iX3_reached vX3_reached zX3 okX3_reached ⟨Nat.le_of_ble_eq_true rfl, Nat.le_of_ble_eq_true rfl⟩ rfl rfl (q0 := 1) rfl rfl (bX8_1) (bX8_1) rfl hl.1 rfl (Nat.le_of_ble_eq_true rfl) ⟨Nat.le_refl 0, Nat.le_refl 0⟩ rfl dX8_say_60 (fun H locs hH => ?_)
  refine lv_iload_n hx hb dX8_say_63 rfl (lv_at hl 2 rfl) ?_
  obtain ⟨o7, ho7, h⟩ := bd_x h
  refine r_S X hH (ws1 := (wX8 g a i xs5)) (As := [.int o6, .int pb]) (rest := []) (st1 := [.int o7]) (uX8_has  ho7) kX8_has mX8_203 sX8_has zX8 okX8_has ⟨Nat.le_of_ble_eq_true rfl, Nat.le_of_ble_eq_true rfl⟩ rfl rfl (pm_none _) (pm_none _) rfl hl.1 rfl (Nat.le_of_ble_eq_true rfl) ⟨Nat.le_refl 0, Nat.le_refl 0⟩ rfl dX8_say_64 (fun H locs hH => ?_)
  refine lv_if_ne (tgt := 81) hx hb dX8_say_67 (by decide) (fun c1 => ?_) (fun c1 => ?_)
  · have h := ie_x h c1
    refine lv_aload_n hx hb dX8_say_81 rfl (lv_at hl 0 rfl) ?_
    refine f_get X hH 0 rfl rfl 4 (by decide) inX8 fX8_29 rfl dX8_say_82 ?_
    refine lv_aload_n hx hb dX8_say_85 rfl (lv_at hl 0 rfl) ?_
    refine f_get X hH 0 rfl rfl 0 (by decide) inX8 fX8_10 rfl dX8_say_86 ?_
    refine lv_aload_n hx hb dX8_say_89 rfl (lv_at hl 0 rfl) ?_
    refine f_get X hH 0 rfl rfl 0 (by decide) inX8 fX8_10 rfl dX8_say_90 ?_
    obtain ⟨o8, ho8, h⟩ := bd_x h
    refine r_V X hH (ws1 := (wX8 g a i xs5)) (As := []) (rest := [.ref (a (i + 1)), .ref (a (i + 22))]) (st1 := [.int o8, .ref (a (i + 1)), .ref (a (i + 22))]) (uX3_allWays (a := a) (i := (i + 1)) ho8) kX3_allWays mX8_157 iX3_allWays vX3_allWays zX3 okX3_allWays ⟨Nat.le_of_ble_eq_true rfl, Nat.le_of_ble_eq_true rfl⟩ rfl rfl (q0 := 1) rfl rfl (bX8_1) (bX8_1) rfl hl.1 rfl (Nat.le_of_ble_eq_true rfl) ⟨Nat.le_refl 0, Nat.le_refl 0⟩ rfl dX8_say_93 (fun H locs hH => ?_)
    refine lv_iload_n hx hb dX8_say_96 rfl (lv_at hl 2 rfl) ?_
    obtain ⟨o9, ho9, h⟩ := bd_x h
    obtain ⟨xs6, exs6, h⟩ := ltt_x h
    refine r_V X hH (ws1 := (wX8 g a i xs6)) (As := [.ref (a (i + 1)), .int o8, .int pb]) (rest := []) (st1 := []) (uX0_timesTo (a := a) (i := (i + 22)) (b := a) (j := (i + 1)) ho9) kX0_timesTo mX8_171 iX0_timesTo vX0_timesTo zX0 okX0_timesTo ⟨Nat.le_of_ble_eq_true rfl, Nat.le_of_ble_eq_true rfl⟩ rfl rfl (q0 := 22) rfl rfl (pm_2 (bX8_4) (bX8_4_1)) (by rw [exs6]; exact (pm_2 (bX8_4) (bX8_4_1))) rfl hl.1 rfl (Nat.le_of_ble_eq_true rfl) ⟨Nat.le_refl 0, Nat.le_refl 0⟩ rfl dX8_say_97 (fun H locs hH => ?_)
    refine lv_aload_n hx hb dX8_say_100 rfl (lv_at hl 0 rfl) ?_
    refine lv_aload_n hx hb dX8_say_101 rfl (lv_at hl 0 rfl) ?_
    refine f_get X hH 0 rfl rfl 4 (by decide) inX8 fX8_29 rfl dX8_say_102 ?_
    refine f_get X hH 22 rfl rfl 0 (by decide) inX0 fX8_175 rfl dX8_say_105 ?_
    refine lv_iload_n hx hb dX8_say_108 rfl (lv_at hl 1 rfl) ?_
    obtain ⟨j1, ej1, hinj1, h⟩ := ga_x h
    refine a_ll X hH 23 rfl hinj1 ej1 dX8_say_109 ?_
    obtain ⟨o10, ho10, h⟩ := bd_x h
    refine r_V X hH (ws1 := (wX8 g a i o10)) (As := [.long ((eq_above (w_equations xs6)) j1)]) (rest := []) (st1 := []) (uX8_sayFraction (a := a) (i := i) ho10) kX8_sayFraction mX8_348 iX8_sayFraction vX8_sayFraction zX8 okX8_sayFraction ⟨Nat.le_of_ble_eq_true rfl, Nat.le_of_ble_eq_true rfl⟩ rfl rfl (q0 := 0) rfl rfl (pm_all _) (pm_all _) rfl hl.1 rfl (Nat.le_of_ble_eq_true rfl) ⟨Nat.le_refl 0, Nat.le_refl 0⟩ rfl dX8_say_110 (fun H locs hH => ?_)
    refine lv_aload_n hx hb dX8_say_113 rfl (lv_at hl 0 rfl) ?_
    refine f_get X hH 0 rfl rfl 9 (by decide) inX8 fX8_61 rfl dX8_say_114 ?_
    refine va_ldcwS hx hb X.2.2.2.2.1 (X.2.2.2.2.2.2.2.1.2.2.2.2.2.2.1 10 (by decide)) dX8_say_117 ?_
    obtain ⟨o11, ho11, h⟩ := bd_x h
    obtain ⟨xs7, exs7, h⟩ := ltt_x h
    refine r_V X hH (ws1 := (wX8 g a i xs7)) (As := [.ref (g.2.2.1 (1 + 10))]) (rest := []) (st1 := []) (uX4_addText (a := a) (i := (i + 42)) ho11) kX4_addText mX8_340 iX4_addText vX4_addText zX4 okX4_addText ⟨Nat.le_of_ble_eq_true rfl, Nat.le_of_ble_eq_true rfl⟩ rfl rfl (q0 := 42) rfl rfl (bX8_9) (by rw [exs7]; exact (bX8_9)) rfl hl.1 rfl (Nat.le_of_ble_eq_true rfl) ⟨Nat.le_refl 0, Nat.le_refl 0⟩ rfl dX8_say_120 (fun H locs hH => ?_)
    refine lv_aload_n hx hb dX8_say_123 rfl (lv_at hl 0 rfl) ?_
    refine lv_iload_n hx hb dX8_say_124 rfl (lv_at hl 1 rfl) ?_
    refine lv_iload_n hx hb dX8_say_125 rfl (lv_at hl 2 rfl) ?_
    obtain ⟨o12, ho12, h⟩ := bd_x h
    refine r_V X hH (ws1 := (wX8 g a i o12.2)) (As := [.int pa, .int pb]) (rest := []) (st1 := [.long o12.1]) (uX8_commuteAbove (a := a) (i := i) ho12) kX8_commuteAbove mX8_189 iX8_commuteAbove vX8_commuteAbove zX8 okX8_commuteAbove ⟨Nat.le_of_ble_eq_true rfl, Nat.le_of_ble_eq_true rfl⟩ rfl rfl (q0 := 0) rfl rfl (pm_all _) (pm_all _) rfl hl.1 rfl (Nat.le_of_ble_eq_true rfl) ⟨Nat.le_refl 0, Nat.le_refl 0⟩ rfl dX8_say_126 (fun H locs hH => ?_)
    refine s_ln X (lv' := [(3, .long o12.1), (0, .ref (a i)), (1, .int pa), (2, .int pb)]) hl rfl dX8_say_129 rfl (by decide) rfl (fun ls hl => ?_)
    refine lv_aload_n hx hb dX8_say_130 rfl (lv_at hl 1 rfl) ?_
    refine lv_lload_n hx hb dX8_say_131 rfl (lv_at hl 0 rfl) ?_
    obtain ⟨o13, ho13, h⟩ := bd_x h
    refine r_V X hH (ws1 := (wX8 g a i o13)) (As := [.long o12.1]) (rest := []) (st1 := []) (uX8_sayFraction (a := a) (i := i) ho13) kX8_sayFraction mX8_348 iX8_sayFraction vX8_sayFraction zX8 okX8_sayFraction ⟨Nat.le_of_ble_eq_true rfl, Nat.le_of_ble_eq_true rfl⟩ rfl rfl (q0 := 0) rfl rfl (pm_all _) (pm_all _) rfl hl.1 rfl (Nat.le_of_ble_eq_true rfl) ⟨Nat.le_refl 0, Nat.le_refl 0⟩ rfl dX8_say_132 (fun H locs hH => ?_)
    refine lv_aload_n hx hb dX8_say_135 rfl (lv_at hl 1 rfl) ?_
    refine f_get X hH 0 rfl rfl 9 (by decide) inX8 fX8_61 rfl dX8_say_136 ?_
    refine va_ldcwS hx hb X.2.2.2.2.1 (X.2.2.2.2.2.2.2.1.2.2.2.2.2.2.1 11 (by decide)) dX8_say_139 ?_
    obtain ⟨o14, ho14, h⟩ := bd_x h
    obtain ⟨xs8, exs8, h⟩ := ltt_x h
    refine r_V X hH (ws1 := (wX8 g a i xs8)) (As := [.ref (g.2.2.1 (1 + 11))]) (rest := []) (st1 := []) (uX4_addText (a := a) (i := (i + 42)) ho14) kX4_addText mX8_340 iX4_addText vX4_addText zX4 okX4_addText ⟨Nat.le_of_ble_eq_true rfl, Nat.le_of_ble_eq_true rfl⟩ rfl rfl (q0 := 42) rfl rfl (bX8_9) (by rw [exs8]; exact (bX8_9)) rfl hl.1 rfl (Nat.le_of_ble_eq_true rfl) ⟨Nat.le_refl 0, Nat.le_refl 0⟩ rfl dX8_say_142 (fun H locs hH => ?_)
    have h := Option.some.inj h
    subst h
    exact e_v X hH dX8_say_145
  · have h := it_x h c1
    refine lv_aload_n hx hb dX8_say_70 rfl (lv_at hl 0 rfl) ?_
    refine f_get X hH 0 rfl rfl 9 (by decide) inX8 fX8_61 rfl dX8_say_71 ?_
    refine va_ldcwS hx hb X.2.2.2.2.1 (X.2.2.2.2.2.2.2.1.2.2.2.2.2.2.1 8 (by decide)) dX8_say_74 ?_
    obtain ⟨o15, ho15, h⟩ := bd_x h
    obtain ⟨xs9, exs9, h⟩ := ltt_x h
    refine r_V X hH (ws1 := (wX8 g a i xs9)) (As := [.ref (g.2.2.1 (1 + 8))]) (rest := []) (st1 := []) (uX4_addText (a := a) (i := (i + 42)) ho15) kX4_addText mX8_340 iX4_addText vX4_addText zX4 okX4_addText ⟨Nat.le_of_ble_eq_true rfl, Nat.le_of_ble_eq_true rfl⟩ rfl rfl (q0 := 42) rfl rfl (bX8_9) (by rw [exs9]; exact (bX8_9)) rfl hl.1 rfl (Nat.le_of_ble_eq_true rfl) ⟨Nat.le_refl 0, Nat.le_refl 0⟩ rfl dX8_say_77 (fun H locs hH => ?_)
    have h := Option.some.inj h
    subst h
    exact e_v X hH dX8_say_80

def qX8_says_22 (pa : Int32) (pb : Int32) (pc_ : Int32)  (xs : SX8) : Option (Int32 × SX8) :=
  (fX8_counted xs (-1 : Int32)).bind fun o2 =>
  some (o2.1, o2.2)
def qX8_says_62 (pa : Int32) (pb : Int32) (pc_ : Int32)  (xs : SX8) : Option (Int32 × SX8) :=
  (fX8_counted xs (-1 : Int32)).bind fun o5 =>
  some (o5.1, o5.2)
def fX8_says (xs : SX8) (pa : Int32) (pb : Int32) (pc_ : Int32) : Option (Int32 × SX8) :=
  (fX3_isPoint (w_net xs) pa).bind fun o1 =>
  (if o1 = (0 : Int32) then
  qX8_says_22 pa pb pc_ xs
  else
  (fX3_isPoint (w_net xs) pb).bind fun o3 =>
  (if o3 = (0 : Int32) then
  qX8_says_22 pa pb pc_ xs
  else
  (fX8_say xs pa pb).bind fun o4 =>
  (if pc_ = (-1 : Int32) then
  some ((sa_size (w_saying o4)), o4)
  else
  (if pc_ < (0 : Int32) then
  qX8_says_62 pa pb pc_ o4
  else
  (if pc_ < (sa_size (w_saying o4)) then
  ga 120 pc_ fun j1 =>
  some (((sa_letters (w_saying o4)) j1), o4)
  else
  qX8_says_62 pa pb pc_ o4)))))
set_option maxHeartbeats 4000000 in
set_option maxRecDepth 100000 in
theorem pX8_says_22 {p : Program} {l : Launch} {e : Env} {s : State} {m : MethodId} {args : Array Value} {below : List Frame} {meth : Method} {c : Code} {g : GG} {w0 : va_W} {a : Nat → Nat} {i : Nat} {pa : Int32} {pb : Int32} {pc_ : Int32} {o : (Int32 × SX8)} (X : mX g yX8_says cX8_says 4 (some .int) p s m args meth c w0) :
  ∀ (xs : SX8) (H : Heap) (locs : List Loc) (ls : Array Slot), qX8_says_22 pa pb pc_ xs = some o → mH g s w0 (wX8 g a i xs) H locs → lv_has ls 4 [(0, .ref (a i)), (1, .int pa), (2, .int pb), (3, .int pc_)] → W p l e (rM 7 155) s m args below meth c H locs 0 0 (mZ g below args s w0 (wX8 g a i o.2) (some (.int o.1))) (F0 m 22 ls []) := by
  have hx := X.1
  have hb := X.2.1
  intro xs H locs ls h hH hl
  unfold qX8_says_22 at h
  refine lv_aload_n hx hb dX8_says_22 rfl (lv_at hl 0 rfl) ?_
  refine lv_iconst (v := (-1 : Int32)) hx hb dX8_says_23 (by decide) ?_
  obtain ⟨o2, ho2, h⟩ := bd_x h
  refine r_V X hH (ws1 := (wX8 g a i o2.2)) (As := [.int (-1 : Int32)]) (rest := []) (st1 := [.int o2.1]) (uX8_counted (a := a) (i := i) ho2) kX8_counted mX8_94 iX8_counted vX8_counted zX8 okX8_counted ⟨Nat.le_of_ble_eq_true rfl, Nat.le_of_ble_eq_true rfl⟩ rfl rfl (q0 := 0) rfl rfl (pm_all _) (pm_all _) rfl hl.1 rfl (Nat.le_of_ble_eq_true rfl) ⟨Nat.le_refl 0, Nat.le_refl 0⟩ rfl dX8_says_24 (fun H locs hH => ?_)
  have h := Option.some.inj h
  subst h
  exact e_i X hH dX8_says_27
set_option maxHeartbeats 4000000 in
set_option maxRecDepth 100000 in
theorem pX8_says_62 {p : Program} {l : Launch} {e : Env} {s : State} {m : MethodId} {args : Array Value} {below : List Frame} {meth : Method} {c : Code} {g : GG} {w0 : va_W} {a : Nat → Nat} {i : Nat} {pa : Int32} {pb : Int32} {pc_ : Int32} {o : (Int32 × SX8)} (X : mX g yX8_says cX8_says 4 (some .int) p s m args meth c w0) :
  ∀ (xs : SX8) (H : Heap) (locs : List Loc) (ls : Array Slot), qX8_says_62 pa pb pc_ xs = some o → mH g s w0 (wX8 g a i xs) H locs → lv_has ls 4 [(0, .ref (a i)), (1, .int pa), (2, .int pb), (3, .int pc_)] → W p l e (rM 7 155) s m args below meth c H locs 0 0 (mZ g below args s w0 (wX8 g a i o.2) (some (.int o.1))) (F0 m 62 ls []) := by
  have hx := X.1
  have hb := X.2.1
  intro xs H locs ls h hH hl
  unfold qX8_says_62 at h
  refine lv_aload_n hx hb dX8_says_62 rfl (lv_at hl 0 rfl) ?_
  refine lv_iconst (v := (-1 : Int32)) hx hb dX8_says_63 (by decide) ?_
  obtain ⟨o5, ho5, h⟩ := bd_x h
  refine r_V X hH (ws1 := (wX8 g a i o5.2)) (As := [.int (-1 : Int32)]) (rest := []) (st1 := [.int o5.1]) (uX8_counted (a := a) (i := i) ho5) kX8_counted mX8_94 iX8_counted vX8_counted zX8 okX8_counted ⟨Nat.le_of_ble_eq_true rfl, Nat.le_of_ble_eq_true rfl⟩ rfl rfl (q0 := 0) rfl rfl (pm_all _) (pm_all _) rfl hl.1 rfl (Nat.le_of_ble_eq_true rfl) ⟨Nat.le_refl 0, Nat.le_refl 0⟩ rfl dX8_says_64 (fun H locs hH => ?_)
  refine lv_goto (tgt := 79) hx hb dX8_says_67 (by decide) ?_
  have h := Option.some.inj h
  subst h
  exact e_i X hH dX8_says_79
set_option maxHeartbeats 4000000 in
set_option maxRecDepth 100000 in
theorem uX8_says {l : Launch} {g : GG} {a : Nat → Nat} {i : Nat} {xs : SX8} {pa : Int32} {pb : Int32} {pc_ : Int32} {o : (Int32 × SX8)} (h : fX8_says xs pa pb pc_ = some o) : mC l g yX8_says cX8_says 4 (some .int) (rM 7 155) [.ref (a i), .int pa, .int pb, .int pc_] (wX8 g a i xs) (wX8 g a i o.2) (some (.int o.1)) := by
  refine mC.ofW (by decide) (fun p e s m below meth c X hH ls _ hl => ?_) (Nat.le_of_ble_eq_true rfl)
  have hx := X.1
  have hb := X.2.1
  have hl : lv_has ls 4 [(0, .ref (a i)), (1, .int pa), (2, .int pb), (3, .int pc_)] := hl
  unfold fX8_says at h
  suffices HH : ∀ (H : Heap) (locs : List Loc), mH g s (wX8 g a i xs) (wX8 g a i xs) H locs → W p l e (rM 7 155) s m _ below meth c H locs 0 0 (mZ g below _ s (wX8 g a i xs) (wX8 g a i o.2) (some (.int o.1))) (F0 m 0 ls []) from HH _ _ hH
  clear hH
  intro H locs hH
  refine lv_aload_n hx hb dX8_says_0 rfl (lv_at hl 0 rfl) ?_
  refine f_get X hH 0 rfl rfl 0 (by decide) inX8 fX8_10 rfl dX8_says_1 ?_
  refine lv_iload_n hx hb dX8_says_4 rfl (lv_at hl 1 rfl) ?_
  obtain ⟨o1, ho1, h⟩ := bd_x h
  refine r_V X hH (ws1 := (wX8 g a i xs)) (As := [.int pa]) (rest := []) (st1 := [.int o1]) (uX3_isPoint (a := a) (i := (i + 1)) ho1) kX3_isPoint mX8_154 iX3_isPoint vX3_isPoint zX3 okX3_isPoint ⟨Nat.le_of_ble_eq_true rfl, Nat.le_of_ble_eq_true rfl⟩ rfl rfl (q0 := 1) rfl rfl (bX8_1) (bX8_1) rfl hl.1 rfl (Nat.le_of_ble_eq_true rfl) ⟨Nat.le_refl 0, Nat.le_refl 0⟩ rfl dX8_says_5 (fun H locs hH => ?_)
  refine lv_if_eq (tgt := 22) hx hb dX8_says_8 (by decide) (fun c1 => ?_) (fun c1 => ?_)
  · have h := it_x h c1
    exact pX8_says_22 X  xs H locs ls h hH (lv_sub hl [0, 1, 2, 3] rfl)
  · have h := ie_x h c1
    refine lv_aload_n hx hb dX8_says_11 rfl (lv_at hl 0 rfl) ?_
    refine f_get X hH 0 rfl rfl 0 (by decide) inX8 fX8_10 rfl dX8_says_12 ?_
    refine lv_iload_n hx hb dX8_says_15 rfl (lv_at hl 2 rfl) ?_
    obtain ⟨o3, ho3, h⟩ := bd_x h
    refine r_V X hH (ws1 := (wX8 g a i xs)) (As := [.int pb]) (rest := []) (st1 := [.int o3]) (uX3_isPoint (a := a) (i := (i + 1)) ho3) kX3_isPoint mX8_154 iX3_isPoint vX3_isPoint zX3 okX3_isPoint ⟨Nat.le_of_ble_eq_true rfl, Nat.le_of_ble_eq_true rfl⟩ rfl rfl (q0 := 1) rfl rfl (bX8_1) (bX8_1) rfl hl.1 rfl (Nat.le_of_ble_eq_true rfl) ⟨Nat.le_refl 0, Nat.le_refl 0⟩ rfl dX8_says_16 (fun H locs hH => ?_)
    refine lv_if_ne (tgt := 28) hx hb dX8_says_19 (by decide) (fun c2 => ?_) (fun c2 => ?_)
    · have h := ie_x h c2
      refine lv_aload_n hx hb dX8_says_28 rfl (lv_at hl 0 rfl) ?_
      refine lv_iload_n hx hb dX8_says_29 rfl (lv_at hl 1 rfl) ?_
      refine lv_iload_n hx hb dX8_says_30 rfl (lv_at hl 2 rfl) ?_
      obtain ⟨o4, ho4, h⟩ := bd_x h
      refine r_V X hH (ws1 := (wX8 g a i o4)) (As := [.int pa, .int pb]) (rest := []) (st1 := []) (uX8_say (a := a) (i := i) ho4) kX8_say mX8_264 iX8_say vX8_say zX8 okX8_say ⟨Nat.le_of_ble_eq_true rfl, Nat.le_of_ble_eq_true rfl⟩ rfl rfl (q0 := 0) rfl rfl (pm_all _) (pm_all _) rfl hl.1 rfl (Nat.le_of_ble_eq_true rfl) ⟨Nat.le_refl 0, Nat.le_refl 0⟩ rfl dX8_says_31 (fun H locs hH => ?_)
      refine lv_iload_n hx hb dX8_says_34 rfl (lv_at hl 3 rfl) ?_
      refine lv_iconst (v := (-1 : Int32)) hx hb dX8_says_35 (by decide) ?_
      refine lv_icmp_ne (tgt := 47) hx hb dX8_says_36 (by decide) (fun c3 => ?_) (fun c3 => ?_)
      · have h := ie_x h c3
        refine lv_iload_n hx hb dX8_says_47 rfl (lv_at hl 3 rfl) ?_
        refine lv_if_lt (tgt := 62) hx hb dX8_says_48 (by decide) (fun c4 => ?_) (fun c4 => ?_)
        · have h := it_x h c4
          exact pX8_says_62 X  o4 H locs ls h hH (lv_sub hl [0, 1, 2, 3] rfl)
        · have h := ie_x h c4
          refine lv_iload_n hx hb dX8_says_51 rfl (lv_at hl 3 rfl) ?_
          refine lv_aload_n hx hb dX8_says_52 rfl (lv_at hl 0 rfl) ?_
          refine f_get X hH 0 rfl rfl 9 (by decide) inX8 fX8_61 rfl dX8_says_53 ?_
          refine f_get X hH 42 rfl rfl 0 (by decide) inX4 fX8_268 rfl dX8_says_56 ?_
          refine lv_icmp_lt (tgt := 70) hx hb dX8_says_59 (by decide) (fun c5 => ?_) (fun c5 => ?_)
          · have h := it_x h c5
            refine lv_aload_n hx hb dX8_says_70 rfl (lv_at hl 0 rfl) ?_
            refine f_get X hH 0 rfl rfl 9 (by decide) inX8 fX8_61 rfl dX8_says_71 ?_
            refine f_get X hH 42 rfl rfl 1 (by decide) inX4 fX8_271 rfl dX8_says_74 ?_
            refine lv_iload_n hx hb dX8_says_77 rfl (lv_at hl 3 rfl) ?_
            obtain ⟨j1, ej1, hinj1, h⟩ := ga_x h
            refine a_il X hH 43 rfl hinj1 ej1 dX8_says_78 ?_
            have h := Option.some.inj h
            subst h
            exact e_i X hH dX8_says_79
          · have h := ie_x h c5
            exact pX8_says_62 X  o4 H locs ls h hH (lv_sub hl [0, 1, 2, 3] rfl)
      · have h := it_x h c3
        refine lv_aload_n hx hb dX8_says_39 rfl (lv_at hl 0 rfl) ?_
        refine f_get X hH 0 rfl rfl 9 (by decide) inX8 fX8_61 rfl dX8_says_40 ?_
        refine f_get X hH 42 rfl rfl 0 (by decide) inX4 fX8_268 rfl dX8_says_43 ?_
        have h := Option.some.inj h
        subst h
        exact e_i X hH dX8_says_46
    · have h := it_x h c2
      exact pX8_says_22 X  xs H locs ls h hH (lv_sub hl [0, 1, 2, 3] rfl)

def qX8_rowTells_2 (xs : SX8) (pa : Int32) (pb : Int32)  : Nat → Int32 → Option Int32
  | 0, _ => none
  | fu + 1, l3 =>
  (if (w_rowSize xs) ≤ l3 then
  some (1 : Int32)
  else
  ga 10 l3 fun j1 =>
  (fX8_weightOf pa pb (l3 + (1 : Int32))).bind fun o1 =>
  (if ((w_rowNumbers xs) j1) = o1 then
  ltt (l3 + (1 : Int32)) fun v1 =>
  qX8_rowTells_2 xs pa pb  fu v1
  else
  some (0 : Int32)))
def fX8_rowTells (xs : SX8) (pa : Int32) (pb : Int32) : Option Int32 :=
  qX8_rowTells_2 xs pa pb FU (0 : Int32)
set_option maxHeartbeats 4000000 in
set_option maxRecDepth 100000 in
theorem pX8_rowTells_2 {p : Program} {l : Launch} {e : Env} {s : State} {m : MethodId} {args : Array Value} {below : List Frame} {meth : Method} {c : Code} {g : GG} {w0 : va_W} {a : Nat → Nat} {i : Nat} {xs : SX8} {pa : Int32} {pb : Int32} {o : Int32} (X : mX g yX8_rowTells cX8_rowTells 4 (some .boolean) p s m args meth c w0) :
  ∀ (fu : Nat) (l3 : Int32) (H : Heap) (locs : List Loc) (ls : Array Slot), qX8_rowTells_2 xs pa pb fu l3 = some o → mH g s w0 (wX8 g a i xs) H locs → lv_has ls 4 [(0, .ref (a i)), (1, .int pa), (2, .int pb), (3, .int l3)] → W p l e (rM 1 22) s m args below meth c H locs 0 0 (mZ g below args s w0 (wX8 g a i xs) (some (.int o))) (F0 m 2 ls []) := by
  have hx := X.1
  have hb := X.2.1
  intro fu
  induction fu with
  | zero =>
    intro l3 H locs ls h
    unfold qX8_rowTells_2 at h
    cases h
  | succ fu ih =>
    intro l3 H locs ls h hH hl
    unfold qX8_rowTells_2 at h
    refine lv_iload_n hx hb dX8_rowTells_2 rfl (lv_at hl 3 rfl) ?_
    refine lv_aload_n hx hb dX8_rowTells_3 rfl (lv_at hl 0 rfl) ?_
    refine f_get X hH 0 rfl rfl 11 (by decide) inX8 fX8_69 rfl dX8_rowTells_4 ?_
    refine lv_icmp_ge (tgt := 35) hx hb dX8_rowTells_7 (by decide) (fun c1 => ?_) (fun c1 => ?_)
    · have h := it_x h c1
      refine lv_iconst (v := (1 : Int32)) hx hb dX8_rowTells_35 (by decide) ?_
      have h := Option.some.inj h
      subst h
      exact e_z X hH (Or.inr rfl) dX8_rowTells_36
    · have h := ie_x h c1
      refine lv_aload_n hx hb dX8_rowTells_10 rfl (lv_at hl 0 rfl) ?_
      refine f_get X hH 0 rfl rfl 10 (by decide) inX8 fX8_65 rfl dX8_rowTells_11 ?_
      refine lv_iload_n hx hb dX8_rowTells_14 rfl (lv_at hl 3 rfl) ?_
      obtain ⟨j1, ej1, hinj1, h⟩ := ga_x h
      refine a_il X hH 44 rfl hinj1 ej1 dX8_rowTells_15 ?_
      refine lv_iload_n hx hb dX8_rowTells_16 rfl (lv_at hl 1 rfl) ?_
      refine lv_iload_n hx hb dX8_rowTells_17 rfl (lv_at hl 2 rfl) ?_
      refine lv_iload_n hx hb dX8_rowTells_18 rfl (lv_at hl 3 rfl) ?_
      refine lv_iconst (v := (1 : Int32)) hx hb dX8_rowTells_19 (by decide) ?_
      refine lv_iadd hx hb dX8_rowTells_20 ?_
      obtain ⟨o1, ho1, h⟩ := bd_x h
      refine r_S X hH (ws1 := (wX8 g a i xs)) (As := [.int pa, .int pb, .int (l3 + (1 : Int32))]) (rest := [.int ((w_rowNumbers xs) j1)]) (st1 := [.int o1, .int ((w_rowNumbers xs) j1)]) (uX8_weightOf  ho1) kX8_weightOf mX8_357 sX8_weightOf zX8 okX8_weightOf ⟨Nat.le_of_ble_eq_true rfl, Nat.le_of_ble_eq_true rfl⟩ rfl rfl (pm_none _) (pm_none _) rfl hl.1 rfl (Nat.le_of_ble_eq_true rfl) ⟨Nat.le_refl 0, Nat.le_refl 0⟩ rfl dX8_rowTells_21 (fun H locs hH => ?_)
      refine lv_icmp_eq (tgt := 29) hx hb dX8_rowTells_24 (by decide) (fun c2 => ?_) (fun c2 => ?_)
      · have h := it_x h c2
        obtain ⟨v1, ev1, h⟩ := ltt_x h
        refine s_inc X (k := 3) (lv' := [(3, .int v1), (0, .ref (a i)), (1, .int pa), (2, .int pb)]) hl rfl (by rw [ev1]; rfl) dX8_rowTells_29 (by decide) rfl (fun ls hl => ?_)
        refine lv_goto (tgt := 2) hx hb dX8_rowTells_32 (by decide) ?_
        exact ih v1 H locs ls h hH (lv_sub hl [1, 2, 3, 0] rfl)
      · have h := ie_x h c2
        refine lv_iconst (v := (0 : Int32)) hx hb dX8_rowTells_27 (by decide) ?_
        have h := Option.some.inj h
        subst h
        exact e_z X hH (Or.inl rfl) dX8_rowTells_28
set_option maxHeartbeats 4000000 in
set_option maxRecDepth 100000 in
theorem uX8_rowTells {l : Launch} {g : GG} {a : Nat → Nat} {i : Nat} {xs : SX8} {pa : Int32} {pb : Int32} {o : Int32} (h : fX8_rowTells xs pa pb = some o) : mC l g yX8_rowTells cX8_rowTells 4 (some .boolean) (rM 1 22) [.ref (a i), .int pa, .int pb] (wX8 g a i xs) (wX8 g a i xs) (some (.int o)) := by
  refine mC.ofW (by decide) (fun p e s m below meth c X hH ls _ hl => ?_) (Nat.le_of_ble_eq_true rfl)
  have hx := X.1
  have hb := X.2.1
  have hl : lv_has ls 4 [(0, .ref (a i)), (1, .int pa), (2, .int pb)] := hl
  unfold fX8_rowTells at h
  suffices HH : ∀ (H : Heap) (locs : List Loc), mH g s (wX8 g a i xs) (wX8 g a i xs) H locs → W p l e (rM 1 22) s m _ below meth c H locs 0 0 (mZ g below _ s (wX8 g a i xs) (wX8 g a i xs) (some (.int o))) (F0 m 0 ls []) from HH _ _ hH
  clear hH
  intro H locs hH
  refine lv_iconst (v := (0 : Int32)) hx hb dX8_rowTells_0 (by decide) ?_
  refine s_in X (lv' := [(3, .int (0 : Int32)), (0, .ref (a i)), (1, .int pa), (2, .int pb)]) hl rfl dX8_rowTells_1 rfl (by decide) rfl (fun ls hl => ?_)
  exact pX8_rowTells_2 X FU (0 : Int32) H locs ls h hH (lv_sub hl [1, 2, 3, 0] rfl)

def qX8_whatIs_116 (pa : Int32) (pb : Int32) (k51 : SX8 → Int32 → Int32 → Int32 → Option (Int32 × SX8)) (xs : SX8) (l3 : Int32) (l4 : Int32) (l5 : Int32) : Option (Int32 × SX8) :=
  ltt (l5 + (1 : Int32)) fun v1 =>
  k51 xs l3 l4 v1
def qX8_whatIs_96 (pa : Int32) (pb : Int32) (k51 : SX8 → Int32 → Int32 → Int32 → Option (Int32 × SX8)) (xs : SX8) (l3 : Int32) (l4 : Int32) (l5 : Int32) (l6 : Int32) (t0 : Int32) : Option (Int32 × SX8) :=
  (fX8_rowTells xs l6 t0).bind fun o2 =>
  (if o2 = (0 : Int32) then
  qX8_whatIs_116 pa pb k51 xs l3 l4 l5
  else
  ltt ((l3 ||| ((1 : Int32) <<< (l5 &&& 31)))) fun v2 =>
  qX8_whatIs_116 pa pb k51 xs v2 l4 l5)
def qX8_whatIs_76 (pa : Int32) (pb : Int32) (k51 : SX8 → Int32 → Int32 → Int32 → Option (Int32 × SX8)) (xs : SX8) (l3 : Int32) (l4 : Int32) (l5 : Int32) (t0 : Int32) : Option (Int32 × SX8) :=
  (if pb = (0 : Int32) then
  ga 11 pa fun j2 =>
  qX8_whatIs_96 pa pb k51 xs l3 l4 l5 t0 ((n_figures (w_net xs)) j2)
  else
  qX8_whatIs_96 pa pb k51 xs l3 l4 l5 t0 l5)
def qX8_whatIs_51 (pa : Int32) (pb : Int32)  : Nat → SX8 → Int32 → Int32 → Int32 → Option (Int32 × SX8)
  | 0, _, _, _, _ => none
  | fu + 1, xs, l3, l4, l5 =>
  (if l4 ≤ l5 then
  some (l3, xs)
  else
  (if pb = (0 : Int32) then
  qX8_whatIs_76 pa pb (qX8_whatIs_51 pa pb  fu) xs l3 l4 l5 l5
  else
  ga 11 pa fun j1 =>
  qX8_whatIs_76 pa pb (qX8_whatIs_51 pa pb  fu) xs l3 l4 l5 ((n_kinds (w_net xs)) j1)))
def qX8_whatIs_46 (pa : Int32) (pb : Int32)  (xs : SX8) (l3 : Int32) (t0 : Int32) : Option (Int32 × SX8) :=
  qX8_whatIs_51 pa pb FU xs l3 t0 (0 : Int32)
def qX8_whatIs_33 (pa : Int32) (pb : Int32)  (xs : SX8) : Option (Int32 × SX8) :=
  (if pb = (0 : Int32) then
  qX8_whatIs_46 pa pb xs (0 : Int32) (6 : Int32)
  else
  qX8_whatIs_46 pa pb xs (0 : Int32) (10 : Int32))
def fX8_whatIs (xs : SX8) (pa : Int32) (pb : Int32) : Option (Int32 × SX8) :=
  (fX3_isWay (w_net xs) pa).bind fun o1 =>
  (if o1 = (0 : Int32) then
  (fX8_counted xs (-1 : Int32)).bind fun o4 =>
  some (o4.1, o4.2)
  else
  (if pb = (0 : Int32) then
  qX8_whatIs_33 pa pb xs
  else
  (if pb = (1 : Int32) then
  qX8_whatIs_33 pa pb xs
  else
  (fX8_counted xs (-2 : Int32)).bind fun o3 =>
  some (o3.1, o3.2))))
set_option maxHeartbeats 4000000 in
set_option maxRecDepth 100000 in
theorem pX8_whatIs_116 {p : Program} {l : Launch} {e : Env} {s : State} {m : MethodId} {args : Array Value} {below : List Frame} {meth : Method} {c : Code} {g : GG} {w0 : va_W} {a : Nat → Nat} {i : Nat} {pa : Int32} {pb : Int32} {o : (Int32 × SX8)} (X : mX g yX8_whatIs cX8_whatIs 8 (some .int) p s m args meth c w0)
  {k51 : SX8 → Int32 → Int32 → Int32 → Option (Int32 × SX8)} (K51 : ∀ (xs : SX8) (l3 : Int32) (l4 : Int32) (l5 : Int32) (H : Heap) (locs : List Loc) (ls : Array Slot), k51 xs l3 l4 l5 = some o → mH g s w0 (wX8 g a i xs) H locs → lv_has ls 8 [(0, .ref (a i)), (1, .int pa), (2, .int pb), (3, .int l3), (4, .int l4), (5, .int l5)] → W p l e (rM 2 45) s m args below meth c H locs 0 0 (mZ g below args s w0 (wX8 g a i o.2) (some (.int o.1))) (F0 m 51 ls [])) :
  ∀ (xs : SX8) (l3 : Int32) (l4 : Int32) (l5 : Int32) (H : Heap) (locs : List Loc) (ls : Array Slot), qX8_whatIs_116 pa pb k51 xs l3 l4 l5 = some o → mH g s w0 (wX8 g a i xs) H locs → lv_has ls 8 [(0, .ref (a i)), (1, .int pa), (2, .int pb), (3, .int l3), (4, .int l4), (5, .int l5)] → W p l e (rM 2 45) s m args below meth c H locs 0 0 (mZ g below args s w0 (wX8 g a i o.2) (some (.int o.1))) (F0 m 116 ls []) := by
  have hx := X.1
  have hb := X.2.1
  intro xs l3 l4 l5 H locs ls h hH hl
  unfold qX8_whatIs_116 at h
  obtain ⟨v1, ev1, h⟩ := ltt_x h
  refine s_inc X (k := 5) (lv' := [(5, .int v1), (0, .ref (a i)), (1, .int pa), (2, .int pb), (3, .int l3), (4, .int l4)]) hl rfl (by rw [ev1]; rfl) dX8_whatIs_116 (by decide) rfl (fun ls hl => ?_)
  refine lv_goto (tgt := 51) hx hb dX8_whatIs_119 (by decide) ?_
  exact K51 xs l3 l4 v1 H locs ls h hH (lv_sub hl [1, 2, 3, 4, 5, 0] rfl)
set_option maxHeartbeats 4000000 in
set_option maxRecDepth 100000 in
theorem pX8_whatIs_96 {p : Program} {l : Launch} {e : Env} {s : State} {m : MethodId} {args : Array Value} {below : List Frame} {meth : Method} {c : Code} {g : GG} {w0 : va_W} {a : Nat → Nat} {i : Nat} {pa : Int32} {pb : Int32} {o : (Int32 × SX8)} (X : mX g yX8_whatIs cX8_whatIs 8 (some .int) p s m args meth c w0)
  {k51 : SX8 → Int32 → Int32 → Int32 → Option (Int32 × SX8)} (K51 : ∀ (xs : SX8) (l3 : Int32) (l4 : Int32) (l5 : Int32) (H : Heap) (locs : List Loc) (ls : Array Slot), k51 xs l3 l4 l5 = some o → mH g s w0 (wX8 g a i xs) H locs → lv_has ls 8 [(0, .ref (a i)), (1, .int pa), (2, .int pb), (3, .int l3), (4, .int l4), (5, .int l5)] → W p l e (rM 2 45) s m args below meth c H locs 0 0 (mZ g below args s w0 (wX8 g a i o.2) (some (.int o.1))) (F0 m 51 ls [])) :
  ∀ (xs : SX8) (l3 : Int32) (l4 : Int32) (l5 : Int32) (l6 : Int32) (t0 : Int32) (H : Heap) (locs : List Loc) (ls : Array Slot), qX8_whatIs_96 pa pb k51 xs l3 l4 l5 l6 t0 = some o → mH g s w0 (wX8 g a i xs) H locs → lv_has ls 8 [(0, .ref (a i)), (1, .int pa), (2, .int pb), (3, .int l3), (4, .int l4), (5, .int l5), (6, .int l6)] → W p l e (rM 2 45) s m args below meth c H locs 0 0 (mZ g below args s w0 (wX8 g a i o.2) (some (.int o.1))) (F0 m 96 ls [.int t0]) := by
  have hx := X.1
  have hb := X.2.1
  intro xs l3 l4 l5 l6 t0 H locs ls h hH hl
  unfold qX8_whatIs_96 at h
  refine s_i X (lv' := [(7, .int t0), (0, .ref (a i)), (1, .int pa), (2, .int pb), (3, .int l3), (4, .int l4), (5, .int l5), (6, .int l6)]) hl rfl dX8_whatIs_96 (by decide) rfl (fun ls hl => ?_)
  refine lv_aload_n hx hb dX8_whatIs_98 rfl (lv_at hl 1 rfl) ?_
  refine lv_iload hx hb dX8_whatIs_99 (lv_at hl 7 rfl) ?_
  refine lv_iload hx hb dX8_whatIs_101 (lv_at hl 0 rfl) ?_
  obtain ⟨o2, ho2, h⟩ := bd_x h
  refine r_V X hH (ws1 := (wX8 g a i xs)) (As := [.int l6, .int t0]) (rest := []) (st1 := [.int o2]) (uX8_rowTells (a := a) (i := i) ho2) kX8_rowTells mX8_274 iX8_rowTells vX8_rowTells zX8 okX8_rowTells ⟨Nat.le_of_ble_eq_true rfl, Nat.le_of_ble_eq_true rfl⟩ rfl rfl (q0 := 0) rfl rfl (pm_all _) (pm_all _) rfl hl.1 rfl (Nat.le_of_ble_eq_true rfl) ⟨Nat.le_refl 0, Nat.le_refl 0⟩ rfl dX8_whatIs_103 (fun H locs hH => ?_)
  refine lv_if_eq (tgt := 116) hx hb dX8_whatIs_106 (by decide) (fun c7 => ?_) (fun c7 => ?_)
  · have h := it_x h c7
    exact pX8_whatIs_116 X K51 xs l3 l4 l5 H locs ls h hH (lv_sub hl [1, 2, 3, 4, 5, 6] rfl)
  · have h := ie_x h c7
    refine lv_iload_n hx hb dX8_whatIs_109 rfl (lv_at hl 4 rfl) ?_
    refine lv_iconst (v := (1 : Int32)) hx hb dX8_whatIs_110 (by decide) ?_
    refine lv_iload hx hb dX8_whatIs_111 (lv_at hl 6 rfl) ?_
    refine lv_ishl hx hb dX8_whatIs_113 ?_
    refine lv_ior hx hb dX8_whatIs_114 ?_
    obtain ⟨v2, ev2, h⟩ := ltt_x h
    refine s_in X (lv' := [(3, .int v2), (7, .int t0), (0, .ref (a i)), (1, .int pa), (2, .int pb), (4, .int l4), (5, .int l5), (6, .int l6)]) hl ev2 dX8_whatIs_115 rfl (by decide) rfl (fun ls hl => ?_)
    exact pX8_whatIs_116 X K51 xs v2 l4 l5 H locs ls h hH (lv_sub hl [2, 3, 4, 0, 5, 6] rfl)
set_option maxHeartbeats 4000000 in
set_option maxRecDepth 100000 in
theorem pX8_whatIs_76 {p : Program} {l : Launch} {e : Env} {s : State} {m : MethodId} {args : Array Value} {below : List Frame} {meth : Method} {c : Code} {g : GG} {w0 : va_W} {a : Nat → Nat} {i : Nat} {pa : Int32} {pb : Int32} {o : (Int32 × SX8)} (X : mX g yX8_whatIs cX8_whatIs 8 (some .int) p s m args meth c w0)
  {k51 : SX8 → Int32 → Int32 → Int32 → Option (Int32 × SX8)} (K51 : ∀ (xs : SX8) (l3 : Int32) (l4 : Int32) (l5 : Int32) (H : Heap) (locs : List Loc) (ls : Array Slot), k51 xs l3 l4 l5 = some o → mH g s w0 (wX8 g a i xs) H locs → lv_has ls 8 [(0, .ref (a i)), (1, .int pa), (2, .int pb), (3, .int l3), (4, .int l4), (5, .int l5)] → W p l e (rM 2 45) s m args below meth c H locs 0 0 (mZ g below args s w0 (wX8 g a i o.2) (some (.int o.1))) (F0 m 51 ls [])) :
  ∀ (xs : SX8) (l3 : Int32) (l4 : Int32) (l5 : Int32) (t0 : Int32) (H : Heap) (locs : List Loc) (ls : Array Slot), qX8_whatIs_76 pa pb k51 xs l3 l4 l5 t0 = some o → mH g s w0 (wX8 g a i xs) H locs → lv_has ls 8 [(0, .ref (a i)), (1, .int pa), (2, .int pb), (3, .int l3), (4, .int l4), (5, .int l5)] → W p l e (rM 2 45) s m args below meth c H locs 0 0 (mZ g below args s w0 (wX8 g a i o.2) (some (.int o.1))) (F0 m 76 ls [.int t0]) := by
  have hx := X.1
  have hb := X.2.1
  intro xs l3 l4 l5 t0 H locs ls h hH hl
  unfold qX8_whatIs_76 at h
  refine s_i X (lv' := [(6, .int t0), (0, .ref (a i)), (1, .int pa), (2, .int pb), (3, .int l3), (4, .int l4), (5, .int l5)]) hl rfl dX8_whatIs_76 (by decide) rfl (fun ls hl => ?_)
  refine lv_iload_n hx hb dX8_whatIs_78 rfl (lv_at hl 3 rfl) ?_
  refine lv_if_ne (tgt := 94) hx hb dX8_whatIs_79 (by decide) (fun c6 => ?_) (fun c6 => ?_)
  · have h := ie_x h c6
    refine lv_iload hx hb dX8_whatIs_94 (lv_at hl 6 rfl) ?_
    exact pX8_whatIs_96 X K51 xs l3 l4 l5 t0 l5 H locs ls h hH (lv_sub hl [1, 2, 3, 4, 5, 6, 0] rfl)
  · have h := it_x h c6
    refine lv_aload_n hx hb dX8_whatIs_82 rfl (lv_at hl 1 rfl) ?_
    refine f_get X hH 0 rfl rfl 0 (by decide) inX8 fX8_10 rfl dX8_whatIs_83 ?_
    refine f_get X hH 1 rfl rfl 5 (by decide) inX3 fX8_139 rfl dX8_whatIs_86 ?_
    refine lv_iload_n hx hb dX8_whatIs_89 rfl (lv_at hl 2 rfl) ?_
    obtain ⟨j2, ej2, hinj2, h⟩ := ga_x h
    refine a_il X hH 5 rfl hinj2 ej2 dX8_whatIs_90 ?_
    refine lv_goto (tgt := 96) hx hb dX8_whatIs_91 (by decide) ?_
    exact pX8_whatIs_96 X K51 xs l3 l4 l5 t0 ((n_figures (w_net xs)) j2) H locs ls h hH (lv_sub hl [1, 2, 3, 4, 5, 6, 0] rfl)
set_option maxHeartbeats 4000000 in
set_option maxRecDepth 100000 in
theorem pX8_whatIs_51 {p : Program} {l : Launch} {e : Env} {s : State} {m : MethodId} {args : Array Value} {below : List Frame} {meth : Method} {c : Code} {g : GG} {w0 : va_W} {a : Nat → Nat} {i : Nat} {pa : Int32} {pb : Int32} {o : (Int32 × SX8)} (X : mX g yX8_whatIs cX8_whatIs 8 (some .int) p s m args meth c w0) :
  ∀ (fu : Nat) (xs : SX8) (l3 : Int32) (l4 : Int32) (l5 : Int32) (H : Heap) (locs : List Loc) (ls : Array Slot), qX8_whatIs_51 pa pb fu xs l3 l4 l5 = some o → mH g s w0 (wX8 g a i xs) H locs → lv_has ls 8 [(0, .ref (a i)), (1, .int pa), (2, .int pb), (3, .int l3), (4, .int l4), (5, .int l5)] → W p l e (rM 2 45) s m args below meth c H locs 0 0 (mZ g below args s w0 (wX8 g a i o.2) (some (.int o.1))) (F0 m 51 ls []) := by
  have hx := X.1
  have hb := X.2.1
  intro fu
  induction fu with
  | zero =>
    intro xs l3 l4 l5 H locs ls h
    unfold qX8_whatIs_51 at h
    cases h
  | succ fu ih =>
    intro xs l3 l4 l5 H locs ls h hH hl
    unfold qX8_whatIs_51 at h
    refine lv_iload hx hb dX8_whatIs_51 (lv_at hl 5 rfl) ?_
    refine lv_iload hx hb dX8_whatIs_53 (lv_at hl 4 rfl) ?_
    refine lv_icmp_ge (tgt := 122) hx hb dX8_whatIs_55 (by decide) (fun c4 => ?_) (fun c4 => ?_)
    · have h := it_x h c4
      refine lv_iload_n hx hb dX8_whatIs_122 rfl (lv_at hl 3 rfl) ?_
      have h := Option.some.inj h
      subst h
      exact e_i X hH dX8_whatIs_123
    · have h := ie_x h c4
      refine lv_iload_n hx hb dX8_whatIs_58 rfl (lv_at hl 2 rfl) ?_
      refine lv_if_ne (tgt := 67) hx hb dX8_whatIs_59 (by decide) (fun c5 => ?_) (fun c5 => ?_)
      · have h := ie_x h c5
        refine lv_aload_n hx hb dX8_whatIs_67 rfl (lv_at hl 0 rfl) ?_
        refine f_get X hH 0 rfl rfl 0 (by decide) inX8 fX8_10 rfl dX8_whatIs_68 ?_
        refine f_get X hH 1 rfl rfl 4 (by decide) inX3 fX8_136 rfl dX8_whatIs_71 ?_
        refine lv_iload_n hx hb dX8_whatIs_74 rfl (lv_at hl 1 rfl) ?_
        obtain ⟨j1, ej1, hinj1, h⟩ := ga_x h
        refine a_il X hH 4 rfl hinj1 ej1 dX8_whatIs_75 ?_
        exact pX8_whatIs_76 X ih xs l3 l4 l5 ((n_kinds (w_net xs)) j1) H locs ls h hH (lv_sub hl [0, 1, 2, 3, 4, 5] rfl)
      · have h := it_x h c5
        refine lv_iload hx hb dX8_whatIs_62 (lv_at hl 5 rfl) ?_
        refine lv_goto (tgt := 76) hx hb dX8_whatIs_64 (by decide) ?_
        exact pX8_whatIs_76 X ih xs l3 l4 l5 l5 H locs ls h hH (lv_sub hl [0, 1, 2, 3, 4, 5] rfl)
set_option maxHeartbeats 4000000 in
set_option maxRecDepth 100000 in
theorem pX8_whatIs_46 {p : Program} {l : Launch} {e : Env} {s : State} {m : MethodId} {args : Array Value} {below : List Frame} {meth : Method} {c : Code} {g : GG} {w0 : va_W} {a : Nat → Nat} {i : Nat} {pa : Int32} {pb : Int32} {o : (Int32 × SX8)} (X : mX g yX8_whatIs cX8_whatIs 8 (some .int) p s m args meth c w0) :
  ∀ (xs : SX8) (l3 : Int32) (t0 : Int32) (H : Heap) (locs : List Loc) (ls : Array Slot), qX8_whatIs_46 pa pb xs l3 t0 = some o → mH g s w0 (wX8 g a i xs) H locs → lv_has ls 8 [(0, .ref (a i)), (1, .int pa), (2, .int pb), (3, .int l3)] → W p l e (rM 2 45) s m args below meth c H locs 0 0 (mZ g below args s w0 (wX8 g a i o.2) (some (.int o.1))) (F0 m 46 ls [.int t0]) := by
  have hx := X.1
  have hb := X.2.1
  intro xs l3 t0 H locs ls h hH hl
  unfold qX8_whatIs_46 at h
  refine s_i X (lv' := [(4, .int t0), (0, .ref (a i)), (1, .int pa), (2, .int pb), (3, .int l3)]) hl rfl dX8_whatIs_46 (by decide) rfl (fun ls hl => ?_)
  refine lv_iconst (v := (0 : Int32)) hx hb dX8_whatIs_48 (by decide) ?_
  refine s_i X (lv' := [(5, .int (0 : Int32)), (4, .int t0), (0, .ref (a i)), (1, .int pa), (2, .int pb), (3, .int l3)]) hl rfl dX8_whatIs_49 (by decide) rfl (fun ls hl => ?_)
  exact pX8_whatIs_51 X FU xs l3 t0 (0 : Int32) H locs ls h hH (lv_sub hl [2, 3, 4, 5, 1, 0] rfl)
set_option maxHeartbeats 4000000 in
set_option maxRecDepth 100000 in
theorem pX8_whatIs_33 {p : Program} {l : Launch} {e : Env} {s : State} {m : MethodId} {args : Array Value} {below : List Frame} {meth : Method} {c : Code} {g : GG} {w0 : va_W} {a : Nat → Nat} {i : Nat} {pa : Int32} {pb : Int32} {o : (Int32 × SX8)} (X : mX g yX8_whatIs cX8_whatIs 8 (some .int) p s m args meth c w0) :
  ∀ (xs : SX8) (H : Heap) (locs : List Loc) (ls : Array Slot), qX8_whatIs_33 pa pb xs = some o → mH g s w0 (wX8 g a i xs) H locs → lv_has ls 8 [(0, .ref (a i)), (1, .int pa), (2, .int pb)] → W p l e (rM 2 45) s m args below meth c H locs 0 0 (mZ g below args s w0 (wX8 g a i o.2) (some (.int o.1))) (F0 m 33 ls []) := by
  have hx := X.1
  have hb := X.2.1
  intro xs H locs ls h hH hl
  unfold qX8_whatIs_33 at h
  refine lv_iconst (v := (0 : Int32)) hx hb dX8_whatIs_33 (by decide) ?_
  refine s_in X (lv' := [(3, .int (0 : Int32)), (0, .ref (a i)), (1, .int pa), (2, .int pb)]) hl rfl dX8_whatIs_34 rfl (by decide) rfl (fun ls hl => ?_)
  refine lv_iload_n hx hb dX8_whatIs_35 rfl (lv_at hl 3 rfl) ?_
  refine lv_if_ne (tgt := 44) hx hb dX8_whatIs_36 (by decide) (fun c3 => ?_) (fun c3 => ?_)
  · have h := ie_x h c3
    refine lv_bipush (v := (10 : Int32)) hx hb dX8_whatIs_44 (by decide) ?_
    exact pX8_whatIs_46 X  xs (0 : Int32) (10 : Int32) H locs ls h hH (lv_sub hl [1, 2, 3, 0] rfl)
  · have h := it_x h c3
    refine lv_bipush (v := (6 : Int32)) hx hb dX8_whatIs_39 (by decide) ?_
    refine lv_goto (tgt := 46) hx hb dX8_whatIs_41 (by decide) ?_
    exact pX8_whatIs_46 X  xs (0 : Int32) (6 : Int32) H locs ls h hH (lv_sub hl [1, 2, 3, 0] rfl)
set_option maxHeartbeats 4000000 in
set_option maxRecDepth 100000 in
theorem uX8_whatIs {l : Launch} {g : GG} {a : Nat → Nat} {i : Nat} {xs : SX8} {pa : Int32} {pb : Int32} {o : (Int32 × SX8)} (h : fX8_whatIs xs pa pb = some o) : mC l g yX8_whatIs cX8_whatIs 8 (some .int) (rM 2 45) [.ref (a i), .int pa, .int pb] (wX8 g a i xs) (wX8 g a i o.2) (some (.int o.1)) := by
  refine mC.ofW (by decide) (fun p e s m below meth c X hH ls _ hl => ?_) (Nat.le_of_ble_eq_true rfl)
  have hx := X.1
  have hb := X.2.1
  have hl : lv_has ls 8 [(0, .ref (a i)), (1, .int pa), (2, .int pb)] := hl
  unfold fX8_whatIs at h
  suffices HH : ∀ (H : Heap) (locs : List Loc), mH g s (wX8 g a i xs) (wX8 g a i xs) H locs → W p l e (rM 2 45) s m _ below meth c H locs 0 0 (mZ g below _ s (wX8 g a i xs) (wX8 g a i o.2) (some (.int o.1))) (F0 m 0 ls []) from HH _ _ hH
  clear hH
  intro H locs hH
  refine lv_aload_n hx hb dX8_whatIs_0 rfl (lv_at hl 0 rfl) ?_
  refine f_get X hH 0 rfl rfl 0 (by decide) inX8 fX8_10 rfl dX8_whatIs_1 ?_
  refine lv_iload_n hx hb dX8_whatIs_4 rfl (lv_at hl 1 rfl) ?_
  obtain ⟨o1, ho1, h⟩ := bd_x h
  refine r_V X hH (ws1 := (wX8 g a i xs)) (As := [.int pa]) (rest := []) (st1 := [.int o1]) (uX3_isWay (a := a) (i := (i + 1)) ho1) kX3_isWay mX8_126 iX3_isWay vX3_isWay zX3 okX3_isWay ⟨Nat.le_of_ble_eq_true rfl, Nat.le_of_ble_eq_true rfl⟩ rfl rfl (q0 := 1) rfl rfl (bX8_1) (bX8_1) rfl hl.1 rfl (Nat.le_of_ble_eq_true rfl) ⟨Nat.le_refl 0, Nat.le_refl 0⟩ rfl dX8_whatIs_5 (fun H locs hH => ?_)
  refine lv_if_ne (tgt := 17) hx hb dX8_whatIs_8 (by decide) (fun c1 => ?_) (fun c1 => ?_)
  · have h := ie_x h c1
    refine lv_iload_n hx hb dX8_whatIs_17 rfl (lv_at hl 2 rfl) ?_
    refine lv_if_eq (tgt := 33) hx hb dX8_whatIs_18 (by decide) (fun c2 => ?_) (fun c2 => ?_)
    · have h := it_x h c2
      exact pX8_whatIs_33 X  xs H locs ls h hH (lv_sub hl [0, 1, 2] rfl)
    · have h := ie_x h c2
      refine lv_iload_n hx hb dX8_whatIs_21 rfl (lv_at hl 2 rfl) ?_
      refine lv_iconst (v := (1 : Int32)) hx hb dX8_whatIs_22 (by decide) ?_
      refine lv_icmp_eq (tgt := 33) hx hb dX8_whatIs_23 (by decide) (fun c8 => ?_) (fun c8 => ?_)
      · have h := it_x h c8
        exact pX8_whatIs_33 X  xs H locs ls h hH (lv_sub hl [0, 1, 2] rfl)
      · have h := ie_x h c8
        refine lv_aload_n hx hb dX8_whatIs_26 rfl (lv_at hl 0 rfl) ?_
        refine lv_bipush (v := (-2 : Int32)) hx hb dX8_whatIs_27 (by decide) ?_
        obtain ⟨o3, ho3, h⟩ := bd_x h
        refine r_V X hH (ws1 := (wX8 g a i o3.2)) (As := [.int (-2 : Int32)]) (rest := []) (st1 := [.int o3.1]) (uX8_counted (a := a) (i := i) ho3) kX8_counted mX8_94 iX8_counted vX8_counted zX8 okX8_counted ⟨Nat.le_of_ble_eq_true rfl, Nat.le_of_ble_eq_true rfl⟩ rfl rfl (q0 := 0) rfl rfl (pm_all _) (pm_all _) rfl hl.1 rfl (Nat.le_of_ble_eq_true rfl) ⟨Nat.le_refl 0, Nat.le_refl 0⟩ rfl dX8_whatIs_29 (fun H locs hH => ?_)
        have h := Option.some.inj h
        subst h
        exact e_i X hH dX8_whatIs_32
  · have h := it_x h c1
    refine lv_aload_n hx hb dX8_whatIs_11 rfl (lv_at hl 0 rfl) ?_
    refine lv_iconst (v := (-1 : Int32)) hx hb dX8_whatIs_12 (by decide) ?_
    obtain ⟨o4, ho4, h⟩ := bd_x h
    refine r_V X hH (ws1 := (wX8 g a i o4.2)) (As := [.int (-1 : Int32)]) (rest := []) (st1 := [.int o4.1]) (uX8_counted (a := a) (i := i) ho4) kX8_counted mX8_94 iX8_counted vX8_counted zX8 okX8_counted ⟨Nat.le_of_ble_eq_true rfl, Nat.le_of_ble_eq_true rfl⟩ rfl rfl (q0 := 0) rfl rfl (pm_all _) (pm_all _) rfl hl.1 rfl (Nat.le_of_ble_eq_true rfl) ⟨Nat.le_refl 0, Nat.le_refl 0⟩ rfl dX8_whatIs_13 (fun H locs hH => ?_)
    have h := Option.some.inj h
    subst h
    exact e_i X hH dX8_whatIs_16

def qX8_row_24 (pa : Int32)  (xs : SX8) (l2 : Int32) : Option (Int32 × SX8) :=
  (if l2 = (0 : Int32) then
  ga 10 (w_rowSize xs) fun j1 =>
  ltt ((w_rowNumbers_s xs (upd (w_rowNumbers xs) j1 pa))) fun xs1 =>
  ltt (((w_rowSize xs1) + (1 : Int32))) fun v1 =>
  ltt ((w_rowSize_s xs1 v1)) fun xs2 =>
  some ((w_rowSize xs2), xs2)
  else
  (fX8_counted xs l2).bind fun o2 =>
  some (o2.1, o2.2))
def fX8_row (xs : SX8) (pa : Int32) : Option (Int32 × SX8) :=
  (fX8_refusalOfNumber pa (0 : Int32) (99 : Int32)).bind fun o1 =>
  (if o1 = (0 : Int32) then
  (if (w_rowSize xs) < (10 : Int32) then
  qX8_row_24 pa xs o1
  else
  qX8_row_24 pa xs (-6 : Int32))
  else
  qX8_row_24 pa xs o1)
set_option maxHeartbeats 4000000 in
set_option maxRecDepth 100000 in
theorem pX8_row_24 {p : Program} {l : Launch} {e : Env} {s : State} {m : MethodId} {args : Array Value} {below : List Frame} {meth : Method} {c : Code} {g : GG} {w0 : va_W} {a : Nat → Nat} {i : Nat} {pa : Int32} {o : (Int32 × SX8)} (X : mX g yX8_row cX8_row 3 (some .int) p s m args meth c w0) :
  ∀ (xs : SX8) (l2 : Int32) (H : Heap) (locs : List Loc) (ls : Array Slot), qX8_row_24 pa xs l2 = some o → mH g s w0 (wX8 g a i xs) H locs → lv_has ls 3 [(0, .ref (a i)), (1, .int pa), (2, .int l2)] → W p l e (rM 1 22) s m args below meth c H locs 0 0 (mZ g below args s w0 (wX8 g a i o.2) (some (.int o.1))) (F0 m 24 ls []) := by
  have hx := X.1
  have hb := X.2.1
  intro xs l2 H locs ls h hH hl
  unfold qX8_row_24 at h
  refine lv_iload_n hx hb dX8_row_24 rfl (lv_at hl 2 rfl) ?_
  refine lv_if_eq (tgt := 34) hx hb dX8_row_25 (by decide) (fun c2 => ?_) (fun c2 => ?_)
  · have h := it_x h c2
    refine lv_aload_n hx hb dX8_row_34 rfl (lv_at hl 0 rfl) ?_
    refine f_get X hH 0 rfl rfl 10 (by decide) inX8 fX8_65 rfl dX8_row_35 ?_
    refine lv_aload_n hx hb dX8_row_38 rfl (lv_at hl 0 rfl) ?_
    refine f_get X hH 0 rfl rfl 11 (by decide) inX8 fX8_69 rfl dX8_row_39 ?_
    refine lv_iload_n hx hb dX8_row_42 rfl (lv_at hl 1 rfl) ?_
    obtain ⟨j1, ej1, hinj1, h⟩ := ga_x h
    obtain ⟨xs1, exs1, h⟩ := ltt_x h
    refine a_is X hH (ws1 := (wX8 g a i xs1)) 44 rfl hinj1 ej1 (by rw [exs1]; rfl) dX8_row_43 (fun H locs hH => ?_)
    refine lv_aload_n hx hb dX8_row_44 rfl (lv_at hl 0 rfl) ?_
    refine lv_dup hx hb dX8_row_45 rfl ?_
    refine f_get X hH 0 rfl rfl 11 (by decide) inX8 fX8_69 rfl dX8_row_46 ?_
    refine lv_iconst (v := (1 : Int32)) hx hb dX8_row_49 (by decide) ?_
    refine lv_iadd hx hb dX8_row_50 ?_
    obtain ⟨v1, ev1, h⟩ := ltt_x h
    refine lv_topi (fun y0 e0 => ?_)
    rw [← ev1] at e0
    subst y0
    obtain ⟨xs2, exs2, h⟩ := ltt_x h
    refine f_put X hH (ws1 := (wX8 g a i xs2)) 0 rfl rfl 11 (by decide) inX8 tyX8 tyX8_ok nmX8 fX8_69 rfl rfl rfl (Nat.le_of_ble_eq_true rfl) (by rw [exs2]; rfl) dX8_row_51 (fun H locs hH => ?_)
    refine lv_aload_n hx hb dX8_row_54 rfl (lv_at hl 0 rfl) ?_
    refine f_get X hH 0 rfl rfl 11 (by decide) inX8 fX8_69 rfl dX8_row_55 ?_
    have h := Option.some.inj h
    subst h
    exact e_i X hH dX8_row_58
  · have h := ie_x h c2
    refine lv_aload_n hx hb dX8_row_28 rfl (lv_at hl 0 rfl) ?_
    refine lv_iload_n hx hb dX8_row_29 rfl (lv_at hl 2 rfl) ?_
    obtain ⟨o2, ho2, h⟩ := bd_x h
    refine r_V X hH (ws1 := (wX8 g a i o2.2)) (As := [.int l2]) (rest := []) (st1 := [.int o2.1]) (uX8_counted (a := a) (i := i) ho2) kX8_counted mX8_94 iX8_counted vX8_counted zX8 okX8_counted ⟨Nat.le_of_ble_eq_true rfl, Nat.le_of_ble_eq_true rfl⟩ rfl rfl (q0 := 0) rfl rfl (pm_all _) (pm_all _) rfl hl.1 rfl (Nat.le_of_ble_eq_true rfl) ⟨Nat.le_refl 0, Nat.le_refl 0⟩ rfl dX8_row_30 (fun H locs hH => ?_)
    have h := Option.some.inj h
    subst h
    exact e_i X hH dX8_row_33
set_option maxHeartbeats 4000000 in
set_option maxRecDepth 100000 in
theorem uX8_row {l : Launch} {g : GG} {a : Nat → Nat} {i : Nat} {xs : SX8} {pa : Int32} {o : (Int32 × SX8)} (h : fX8_row xs pa = some o) : mC l g yX8_row cX8_row 3 (some .int) (rM 1 22) [.ref (a i), .int pa] (wX8 g a i xs) (wX8 g a i o.2) (some (.int o.1)) := by
  refine mC.ofW (by decide) (fun p e s m below meth c X hH ls _ hl => ?_) (Nat.le_of_ble_eq_true rfl)
  have hx := X.1
  have hb := X.2.1
  have hl : lv_has ls 3 [(0, .ref (a i)), (1, .int pa)] := hl
  unfold fX8_row at h
  suffices HH : ∀ (H : Heap) (locs : List Loc), mH g s (wX8 g a i xs) (wX8 g a i xs) H locs → W p l e (rM 1 22) s m _ below meth c H locs 0 0 (mZ g below _ s (wX8 g a i xs) (wX8 g a i o.2) (some (.int o.1))) (F0 m 0 ls []) from HH _ _ hH
  clear hH
  intro H locs hH
  refine lv_iload_n hx hb dX8_row_0 rfl (lv_at hl 1 rfl) ?_
  refine lv_iconst (v := (0 : Int32)) hx hb dX8_row_1 (by decide) ?_
  refine lv_bipush (v := (99 : Int32)) hx hb dX8_row_2 (by decide) ?_
  obtain ⟨o1, ho1, h⟩ := bd_x h
  refine r_S X hH (ws1 := (wX8 g a i xs)) (As := [.int pa, .int (0 : Int32), .int (99 : Int32)]) (rest := []) (st1 := [.int o1]) (uX8_refusalOfNumber  ho1) kX8_refusalOfNumber mX8_241 sX8_refusalOfNumber zX8 okX8_refusalOfNumber ⟨Nat.le_of_ble_eq_true rfl, Nat.le_of_ble_eq_true rfl⟩ rfl rfl (pm_none _) (pm_none _) rfl hl.1 rfl (Nat.le_of_ble_eq_true rfl) ⟨Nat.le_refl 0, Nat.le_refl 0⟩ rfl dX8_row_4 (fun H locs hH => ?_)
  refine s_in X (lv' := [(2, .int o1), (0, .ref (a i)), (1, .int pa)]) hl rfl dX8_row_7 rfl (by decide) rfl (fun ls hl => ?_)
  refine lv_iload_n hx hb dX8_row_8 rfl (lv_at hl 0 rfl) ?_
  refine lv_if_ne (tgt := 24) hx hb dX8_row_9 (by decide) (fun c1 => ?_) (fun c1 => ?_)
  · have h := ie_x h c1
    exact pX8_row_24 X  xs o1 H locs ls h hH (lv_sub hl [1, 2, 0] rfl)
  · have h := it_x h c1
    refine lv_aload_n hx hb dX8_row_12 rfl (lv_at hl 1 rfl) ?_
    refine f_get X hH 0 rfl rfl 11 (by decide) inX8 fX8_69 rfl dX8_row_13 ?_
    refine lv_bipush (v := (10 : Int32)) hx hb dX8_row_16 (by decide) ?_
    refine lv_icmp_lt (tgt := 24) hx hb dX8_row_18 (by decide) (fun c3 => ?_) (fun c3 => ?_)
    · have h := it_x h c3
      exact pX8_row_24 X  xs o1 H locs ls h hH (lv_sub hl [1, 2, 0] rfl)
    · have h := ie_x h c3
      refine lv_bipush (v := (-6 : Int32)) hx hb dX8_row_21 (by decide) ?_
      refine s_in X (lv' := [(2, .int (-6 : Int32)), (0, .ref (a i)), (1, .int pa)]) hl rfl dX8_row_23 rfl (by decide) rfl (fun ls hl => ?_)
      exact pX8_row_24 X  xs (-6 : Int32) H locs ls h hH (lv_sub hl [1, 2, 0] rfl)

def fX8_clear (xs : SX8) : Option (Int32 × SX8) :=
  ltt ((w_rowSize xs)) fun v1 =>
  ltt ((w_rowSize_s xs (0 : Int32))) fun xs1 =>
  some (v1, xs1)
set_option maxHeartbeats 4000000 in
set_option maxRecDepth 100000 in
theorem uX8_clear {l : Launch} {g : GG} {a : Nat → Nat} {i : Nat} {xs : SX8} {o : (Int32 × SX8)} (h : fX8_clear xs = some o) : mC l g yX8_clear cX8_clear 2 (some .int) (rM 0 0) [.ref (a i)] (wX8 g a i xs) (wX8 g a i o.2) (some (.int o.1)) := by
  refine mC.ofW (by decide) (fun p e s m below meth c X hH ls _ hl => ?_) (Nat.le_of_ble_eq_true rfl)
  have hx := X.1
  have hb := X.2.1
  have hl : lv_has ls 2 [(0, .ref (a i))] := hl
  unfold fX8_clear at h
  suffices HH : ∀ (H : Heap) (locs : List Loc), mH g s (wX8 g a i xs) (wX8 g a i xs) H locs → W p l e (rM 0 0) s m _ below meth c H locs 0 0 (mZ g below _ s (wX8 g a i xs) (wX8 g a i o.2) (some (.int o.1))) (F0 m 0 ls []) from HH _ _ hH
  clear hH
  intro H locs hH
  refine lv_aload_n hx hb dX8_clear_0 rfl (lv_at hl 0 rfl) ?_
  refine f_get X hH 0 rfl rfl 11 (by decide) inX8 fX8_69 rfl dX8_clear_1 ?_
  obtain ⟨v1, ev1, h⟩ := ltt_x h
  refine s_in X (lv' := [(1, .int v1), (0, .ref (a i))]) hl ev1 dX8_clear_4 rfl (by decide) rfl (fun ls hl => ?_)
  refine lv_aload_n hx hb dX8_clear_5 rfl (lv_at hl 1 rfl) ?_
  refine lv_iconst (v := (0 : Int32)) hx hb dX8_clear_6 (by decide) ?_
  obtain ⟨xs1, exs1, h⟩ := ltt_x h
  refine f_put X hH (ws1 := (wX8 g a i xs1)) 0 rfl rfl 11 (by decide) inX8 tyX8 tyX8_ok nmX8 fX8_69 rfl rfl rfl (Nat.le_of_ble_eq_true rfl) (by rw [exs1]; rfl) dX8_clear_7 (fun H locs hH => ?_)
  refine lv_iload_n hx hb dX8_clear_10 rfl (lv_at hl 0 rfl) ?_
  have h := Option.some.inj h
  subst h
  exact e_i X hH dX8_clear_11

def fX8_list (xs : SX8) (pa : Int32) (pb : Int32) : Option (Int32 × SX8) :=
  (fX1_make (w_listRows xs) pa pb).bind fun o1 =>
  ltt ((w_listRows_s xs o1.2)) fun xs1 =>
  (fX8_counted xs1 o1.1).bind fun o2 =>
  some (o2.1, o2.2)
set_option maxHeartbeats 4000000 in
set_option maxRecDepth 100000 in
theorem uX8_list {l : Launch} {g : GG} {a : Nat → Nat} {i : Nat} {xs : SX8} {pa : Int32} {pb : Int32} {o : (Int32 × SX8)} (h : fX8_list xs pa pb = some o) : mC l g yX8_list cX8_list 3 (some .int) (rM 1 23) [.ref (a i), .int pa, .int pb] (wX8 g a i xs) (wX8 g a i o.2) (some (.int o.1)) := by
  refine mC.ofW (by decide) (fun p e s m below meth c X hH ls _ hl => ?_) (Nat.le_of_ble_eq_true rfl)
  have hx := X.1
  have hb := X.2.1
  have hl : lv_has ls 3 [(0, .ref (a i)), (1, .int pa), (2, .int pb)] := hl
  unfold fX8_list at h
  suffices HH : ∀ (H : Heap) (locs : List Loc), mH g s (wX8 g a i xs) (wX8 g a i xs) H locs → W p l e (rM 1 23) s m _ below meth c H locs 0 0 (mZ g below _ s (wX8 g a i xs) (wX8 g a i o.2) (some (.int o.1))) (F0 m 0 ls []) from HH _ _ hH
  clear hH
  intro H locs hH
  refine lv_aload_n hx hb dX8_list_0 rfl (lv_at hl 0 rfl) ?_
  refine lv_aload_n hx hb dX8_list_1 rfl (lv_at hl 0 rfl) ?_
  refine f_get X hH 0 rfl rfl 12 (by decide) inX8 fX8_76 rfl dX8_list_2 ?_
  refine lv_iload_n hx hb dX8_list_5 rfl (lv_at hl 1 rfl) ?_
  refine lv_iload_n hx hb dX8_list_6 rfl (lv_at hl 2 rfl) ?_
  obtain ⟨o1, ho1, h⟩ := bd_x h
  obtain ⟨xs1, exs1, h⟩ := ltt_x h
  refine r_V X hH (ws1 := (wX8 g a i xs1)) (As := [.int pa, .int pb]) (rest := [.ref (a i)]) (st1 := [.int o1.1, .ref (a i)]) (uX1_make (a := a) (i := (i + 45)) ho1) kX1_make mX8_277 iX1_make vX1_make zX1 okX1_make ⟨Nat.le_of_ble_eq_true rfl, Nat.le_of_ble_eq_true rfl⟩ rfl rfl (q0 := 45) rfl rfl (bX8_11) (by rw [exs1]; exact (bX8_11)) rfl hl.1 rfl (Nat.le_of_ble_eq_true rfl) ⟨Nat.le_refl 0, Nat.le_refl 0⟩ rfl dX8_list_7 (fun H locs hH => ?_)
  obtain ⟨o2, ho2, h⟩ := bd_x h
  refine r_V X hH (ws1 := (wX8 g a i o2.2)) (As := [.int o1.1]) (rest := []) (st1 := [.int o2.1]) (uX8_counted (a := a) (i := i) ho2) kX8_counted mX8_94 iX8_counted vX8_counted zX8 okX8_counted ⟨Nat.le_of_ble_eq_true rfl, Nat.le_of_ble_eq_true rfl⟩ rfl rfl (q0 := 0) rfl rfl (pm_all _) (pm_all _) rfl hl.1 rfl (Nat.le_of_ble_eq_true rfl) ⟨Nat.le_refl 0, Nat.le_refl 0⟩ rfl dX8_list_10 (fun H locs hH => ?_)
  have h := Option.some.inj h
  subst h
  exact e_i X hH dX8_list_13

def fX8_put (xs : SX8) (pa : Int32) (pb : Int32) (pc_ : Int64) : Option (Int32 × SX8) :=
  (fX1_refusalOf_ (w_listRows xs) pa pb).bind fun o1 =>
  (if o1 = (0 : Int32) then
  ga 3 pa fun j1 =>
  ga 20 pb fun j2 =>
  ltt ((w_listRows_s xs (li_rows_s (w_listRows xs) (va_up (li_rows (w_listRows xs)) j1 (vp_updL ((li_rows (w_listRows xs)) j1) j2 pc_))))) fun xs1 =>
  some ((1 : Int32), xs1)
  else
  (fX8_counted xs o1).bind fun o2 =>
  some (o2.1, o2.2))
set_option maxHeartbeats 4000000 in
set_option maxRecDepth 100000 in
theorem uX8_put {l : Launch} {g : GG} {a : Nat → Nat} {i : Nat} {xs : SX8} {pa : Int32} {pb : Int32} {pc_ : Int64} {o : (Int32 × SX8)} (h : fX8_put xs pa pb pc_ = some o) : mC l g yX8_put cX8_put 6 (some .int) (rM 2 45) [.ref (a i), .int pa, .int pb, .long pc_] (wX8 g a i xs) (wX8 g a i o.2) (some (.int o.1)) := by
  refine mC.ofW (by decide) (fun p e s m below meth c X hH ls _ hl => ?_) (Nat.le_of_ble_eq_true rfl)
  have hx := X.1
  have hb := X.2.1
  have hl : lv_has ls 6 [(0, .ref (a i)), (1, .int pa), (2, .int pb), (3, .long pc_)] := hl
  unfold fX8_put at h
  suffices HH : ∀ (H : Heap) (locs : List Loc), mH g s (wX8 g a i xs) (wX8 g a i xs) H locs → W p l e (rM 2 45) s m _ below meth c H locs 0 0 (mZ g below _ s (wX8 g a i xs) (wX8 g a i o.2) (some (.int o.1))) (F0 m 0 ls []) from HH _ _ hH
  clear hH
  intro H locs hH
  refine lv_aload_n hx hb dX8_put_0 rfl (lv_at hl 0 rfl) ?_
  refine f_get X hH 0 rfl rfl 12 (by decide) inX8 fX8_76 rfl dX8_put_1 ?_
  refine lv_iload_n hx hb dX8_put_4 rfl (lv_at hl 1 rfl) ?_
  refine lv_iload_n hx hb dX8_put_5 rfl (lv_at hl 2 rfl) ?_
  obtain ⟨o1, ho1, h⟩ := bd_x h
  refine r_V X hH (ws1 := (wX8 g a i xs)) (As := [.int pa, .int pb]) (rest := []) (st1 := [.int o1]) (uX1_refusalOf_ (a := a) (i := (i + 45)) ho1) kX1_refusalOf_ mX8_280 iX1_refusalOf_ vX1_refusalOf_ zX1 okX1_refusalOf_ ⟨Nat.le_of_ble_eq_true rfl, Nat.le_of_ble_eq_true rfl⟩ rfl rfl (q0 := 45) rfl rfl (bX8_11) (bX8_11) rfl hl.1 rfl (Nat.le_of_ble_eq_true rfl) ⟨Nat.le_refl 0, Nat.le_refl 0⟩ rfl dX8_put_6 (fun H locs hH => ?_)
  refine s_i X (lv' := [(5, .int o1), (0, .ref (a i)), (1, .int pa), (2, .int pb), (3, .long pc_)]) hl rfl dX8_put_9 (by decide) rfl (fun ls hl => ?_)
  refine lv_iload hx hb dX8_put_11 (lv_at hl 0 rfl) ?_
  refine lv_if_eq (tgt := 23) hx hb dX8_put_13 (by decide) (fun c1 => ?_) (fun c1 => ?_)
  · have h := it_x h c1
    refine lv_aload_n hx hb dX8_put_23 rfl (lv_at hl 1 rfl) ?_
    refine f_get X hH 0 rfl rfl 12 (by decide) inX8 fX8_76 rfl dX8_put_24 ?_
    refine f_get X hH 45 rfl rfl 0 (by decide) inX1 fX8_283 rfl dX8_put_27 ?_
    refine lv_iload_n hx hb dX8_put_30 rfl (lv_at hl 2 rfl) ?_
    obtain ⟨j1, ej1, hinj1, h⟩ := ga_x h
    have hltj1 : j1 < 3 := by rw [ej1]; exact vp_lt hinj1
    refine a_al X hH (v := .ref (a ((i + 45) + 2 + j1))) 46 4 rfl rfl hinj1 ej1 (rf_in hltj1) dX8_put_31 ?_
    refine lv_iload_n hx hb dX8_put_32 rfl (lv_at hl 3 rfl) ?_
    refine lv_lload_n hx hb dX8_put_33 rfl (lv_at hl 4 rfl) ?_
    obtain ⟨j2, ej2, hinj2, h⟩ := ga_x h
    obtain ⟨xs1, exs1, h⟩ := ltt_x h
    have hwxs1 := co_3 (P := fun jj => ((wX8 g a i xs)).set (47 + jj) (a ((i + 45) + 2 + jj), .inl (g.2.1 1, 20, .inr (.inl (vp_updL ((li_rows (w_listRows xs)) jj) j2 pc_)))) = (wX8 g a i (w_listRows_s xs (li_rows_s (w_listRows xs) (va_up (li_rows (w_listRows xs)) jj (vp_updL ((li_rows (w_listRows xs)) jj) j2 pc_)))))) rfl rfl rfl hltj1
    refine a_ls X hH (ws1 := (wX8 g a i xs1)) (47 + j1) (co_3 (P := fun jj => ((wX8 g a i xs))[47 + jj]? = some (a ((i + 45) + 2 + jj), .inl (g.2.1 1, 20, .inr (.inl ((li_rows (w_listRows xs)) jj))))) rfl rfl rfl hltj1) hinj2 ej2 (hwxs1.trans (by rw [exs1])) dX8_put_34 (fun H locs hH => ?_)
    refine lv_iconst (v := (1 : Int32)) hx hb dX8_put_35 (by decide) ?_
    have h := Option.some.inj h
    subst h
    exact e_i X hH dX8_put_36
  · have h := ie_x h c1
    refine lv_aload_n hx hb dX8_put_16 rfl (lv_at hl 1 rfl) ?_
    refine lv_iload hx hb dX8_put_17 (lv_at hl 0 rfl) ?_
    obtain ⟨o2, ho2, h⟩ := bd_x h
    refine r_V X hH (ws1 := (wX8 g a i o2.2)) (As := [.int o1]) (rest := []) (st1 := [.int o2.1]) (uX8_counted (a := a) (i := i) ho2) kX8_counted mX8_94 iX8_counted vX8_counted zX8 okX8_counted ⟨Nat.le_of_ble_eq_true rfl, Nat.le_of_ble_eq_true rfl⟩ rfl rfl (q0 := 0) rfl rfl (pm_all _) (pm_all _) rfl hl.1 rfl (Nat.le_of_ble_eq_true rfl) ⟨Nat.le_refl 0, Nat.le_refl 0⟩ rfl dX8_put_19 (fun H locs hH => ?_)
    have h := Option.some.inj h
    subst h
    exact e_i X hH dX8_put_22

def fX8_look (xs : SX8) (pa : Int32) (pb : Int32) : Option (Int64 × SX8) :=
  (fX1_refusalOf_ (w_listRows xs) pa pb).bind fun o1 =>
  (if o1 = (0 : Int32) then
  ga 3 pa fun j1 =>
  ga 20 pb fun j2 =>
  some (((li_rows (w_listRows xs)) j1 j2), xs)
  else
  (fX8_refused xs o1).bind fun o2 =>
  some (o2.1, o2.2))
set_option maxHeartbeats 4000000 in
set_option maxRecDepth 100000 in
theorem uX8_look {l : Launch} {g : GG} {a : Nat → Nat} {i : Nat} {xs : SX8} {pa : Int32} {pb : Int32} {o : (Int64 × SX8)} (h : fX8_look xs pa pb = some o) : mC l g yX8_look cX8_look 4 (some .long) (rM 2 45) [.ref (a i), .int pa, .int pb] (wX8 g a i xs) (wX8 g a i o.2) (some (.long o.1)) := by
  refine mC.ofW (by decide) (fun p e s m below meth c X hH ls _ hl => ?_) (Nat.le_of_ble_eq_true rfl)
  have hx := X.1
  have hb := X.2.1
  have hl : lv_has ls 4 [(0, .ref (a i)), (1, .int pa), (2, .int pb)] := hl
  unfold fX8_look at h
  suffices HH : ∀ (H : Heap) (locs : List Loc), mH g s (wX8 g a i xs) (wX8 g a i xs) H locs → W p l e (rM 2 45) s m _ below meth c H locs 0 0 (mZ g below _ s (wX8 g a i xs) (wX8 g a i o.2) (some (.long o.1))) (F0 m 0 ls []) from HH _ _ hH
  clear hH
  intro H locs hH
  refine lv_aload_n hx hb dX8_look_0 rfl (lv_at hl 0 rfl) ?_
  refine f_get X hH 0 rfl rfl 12 (by decide) inX8 fX8_76 rfl dX8_look_1 ?_
  refine lv_iload_n hx hb dX8_look_4 rfl (lv_at hl 1 rfl) ?_
  refine lv_iload_n hx hb dX8_look_5 rfl (lv_at hl 2 rfl) ?_
  obtain ⟨o1, ho1, h⟩ := bd_x h
  refine r_V X hH (ws1 := (wX8 g a i xs)) (As := [.int pa, .int pb]) (rest := []) (st1 := [.int o1]) (uX1_refusalOf_ (a := a) (i := (i + 45)) ho1) kX1_refusalOf_ mX8_280 iX1_refusalOf_ vX1_refusalOf_ zX1 okX1_refusalOf_ ⟨Nat.le_of_ble_eq_true rfl, Nat.le_of_ble_eq_true rfl⟩ rfl rfl (q0 := 45) rfl rfl (bX8_11) (bX8_11) rfl hl.1 rfl (Nat.le_of_ble_eq_true rfl) ⟨Nat.le_refl 0, Nat.le_refl 0⟩ rfl dX8_look_6 (fun H locs hH => ?_)
  refine s_in X (lv' := [(3, .int o1), (0, .ref (a i)), (1, .int pa), (2, .int pb)]) hl rfl dX8_look_9 rfl (by decide) rfl (fun ls hl => ?_)
  refine lv_iload_n hx hb dX8_look_10 rfl (lv_at hl 0 rfl) ?_
  refine lv_if_eq (tgt := 22) hx hb dX8_look_11 (by decide) (fun c1 => ?_) (fun c1 => ?_)
  · have h := it_x h c1
    refine lv_aload_n hx hb dX8_look_22 rfl (lv_at hl 1 rfl) ?_
    refine f_get X hH 0 rfl rfl 12 (by decide) inX8 fX8_76 rfl dX8_look_23 ?_
    refine f_get X hH 45 rfl rfl 0 (by decide) inX1 fX8_283 rfl dX8_look_26 ?_
    refine lv_iload_n hx hb dX8_look_29 rfl (lv_at hl 2 rfl) ?_
    obtain ⟨j1, ej1, hinj1, h⟩ := ga_x h
    have hltj1 : j1 < 3 := by rw [ej1]; exact vp_lt hinj1
    refine a_al X hH (v := .ref (a ((i + 45) + 2 + j1))) 46 4 rfl rfl hinj1 ej1 (rf_in hltj1) dX8_look_30 ?_
    refine lv_iload_n hx hb dX8_look_31 rfl (lv_at hl 3 rfl) ?_
    obtain ⟨j2, ej2, hinj2, h⟩ := ga_x h
    refine a_ll X hH (47 + j1) (co_3 (P := fun jj => ((wX8 g a i xs))[47 + jj]? = some (a ((i + 45) + 2 + jj), .inl (g.2.1 1, 20, .inr (.inl ((li_rows (w_listRows xs)) jj))))) rfl rfl rfl hltj1) hinj2 ej2 dX8_look_32 ?_
    have h := Option.some.inj h
    subst h
    exact e_l X hH dX8_look_33
  · have h := ie_x h c1
    refine lv_aload_n hx hb dX8_look_14 rfl (lv_at hl 1 rfl) ?_
    refine lv_iload_n hx hb dX8_look_15 rfl (lv_at hl 0 rfl) ?_
    obtain ⟨o2, ho2, h⟩ := bd_x h
    refine r_V X hH (ws1 := (wX8 g a i o2.2)) (As := [.int o1]) (rest := []) (st1 := [.long o2.1]) (uX8_refused (a := a) (i := i) ho2) kX8_refused mX8_167 iX8_refused vX8_refused zX8 okX8_refused ⟨Nat.le_of_ble_eq_true rfl, Nat.le_of_ble_eq_true rfl⟩ rfl rfl (q0 := 0) rfl rfl (pm_all _) (pm_all _) rfl hl.1 rfl (Nat.le_of_ble_eq_true rfl) ⟨Nat.le_refl 0, Nat.le_refl 0⟩ rfl dX8_look_16 (fun H locs hH => ?_)
    refine lv_goto (tgt := 33) hx hb dX8_look_19 (by decide) ?_
    have h := Option.some.inj h
    subst h
    exact e_l X hH dX8_look_33

def fX8_toldTime (xs : SX8) (pa : Int32) (pb : Int32) : Option Int64 :=
  ltt ((pb / (2 : Int32))) fun v1 =>
  ltt ((pb - pb / (2 : Int32) * (2 : Int32))) fun v2 =>
  (fX8_has pa v1).bind fun o1 =>
  (if o1 = (0 : Int32) then
  (if v2 = (0 : Int32) then
  some (1 : Int64)
  else
  some (0 : Int64))
  else
  ga 6 v1 fun j1 =>
  (fX8_leastTerms ((eq_above (w_equations xs)) j1) (eq_below (w_equations xs)) v2).bind fun o2 =>
  some o2)
set_option maxHeartbeats 4000000 in
set_option maxRecDepth 100000 in
theorem uX8_toldTime {l : Launch} {g : GG} {a : Nat → Nat} {i : Nat} {xs : SX8} {pa : Int32} {pb : Int32} {o : Int64} (h : fX8_toldTime xs pa pb = some o) : mC l g yX8_toldTime cX8_toldTime 5 (some .long) (rM 2 54) [.ref (a i), .int pa, .int pb] (wX8 g a i xs) (wX8 g a i xs) (some (.long o)) := by
  refine mC.ofW (by decide) (fun p e s m below meth c X hH ls _ hl => ?_) (Nat.le_of_ble_eq_true rfl)
  have hx := X.1
  have hb := X.2.1
  have hl : lv_has ls 5 [(0, .ref (a i)), (1, .int pa), (2, .int pb)] := hl
  unfold fX8_toldTime at h
  suffices HH : ∀ (H : Heap) (locs : List Loc), mH g s (wX8 g a i xs) (wX8 g a i xs) H locs → W p l e (rM 2 54) s m _ below meth c H locs 0 0 (mZ g below _ s (wX8 g a i xs) (wX8 g a i xs) (some (.long o))) (F0 m 0 ls []) from HH _ _ hH
  clear hH
  intro H locs hH
  refine lv_iload_n hx hb dX8_toldTime_0 rfl (lv_at hl 2 rfl) ?_
  refine lv_iconst (v := (2 : Int32)) hx hb dX8_toldTime_1 (by decide) ?_
  refine lv_idiv hx hb dX8_toldTime_2 (by decide) ?_
  obtain ⟨v1, ev1, h⟩ := ltt_x h
  refine s_in X (lv' := [(3, .int v1), (0, .ref (a i)), (1, .int pa), (2, .int pb)]) hl ev1 dX8_toldTime_3 rfl (by decide) rfl (fun ls hl => ?_)
  refine lv_iload_n hx hb dX8_toldTime_4 rfl (lv_at hl 3 rfl) ?_
  refine lv_iconst (v := (2 : Int32)) hx hb dX8_toldTime_5 (by decide) ?_
  refine lv_irem hx hb dX8_toldTime_6 (by decide) ?_
  obtain ⟨v2, ev2, h⟩ := ltt_x h
  refine s_i X (lv' := [(4, .int v2), (3, .int v1), (0, .ref (a i)), (1, .int pa), (2, .int pb)]) hl ev2 dX8_toldTime_7 (by decide) rfl (fun ls hl => ?_)
  refine lv_iload_n hx hb dX8_toldTime_9 rfl (lv_at hl 3 rfl) ?_
  refine lv_iload_n hx hb dX8_toldTime_10 rfl (lv_at hl 1 rfl) ?_
  obtain ⟨o1, ho1, h⟩ := bd_x h
  refine r_S X hH (ws1 := (wX8 g a i xs)) (As := [.int pa, .int v1]) (rest := []) (st1 := [.int o1]) (uX8_has  ho1) kX8_has mX8_203 sX8_has zX8 okX8_has ⟨Nat.le_of_ble_eq_true rfl, Nat.le_of_ble_eq_true rfl⟩ rfl rfl (pm_none _) (pm_none _) rfl hl.1 rfl (Nat.le_of_ble_eq_true rfl) ⟨Nat.le_refl 0, Nat.le_refl 0⟩ rfl dX8_toldTime_11 (fun H locs hH => ?_)
  refine lv_if_ne (tgt := 28) hx hb dX8_toldTime_14 (by decide) (fun c1 => ?_) (fun c1 => ?_)
  · have h := ie_x h c1
    refine lv_aload_n hx hb dX8_toldTime_28 rfl (lv_at hl 2 rfl) ?_
    refine f_get X hH 0 rfl rfl 4 (by decide) inX8 fX8_29 rfl dX8_toldTime_29 ?_
    refine f_get X hH 22 rfl rfl 0 (by decide) inX0 fX8_175 rfl dX8_toldTime_32 ?_
    refine lv_iload_n hx hb dX8_toldTime_35 rfl (lv_at hl 1 rfl) ?_
    obtain ⟨j1, ej1, hinj1, h⟩ := ga_x h
    refine a_ll X hH 23 rfl hinj1 ej1 dX8_toldTime_36 ?_
    refine lv_aload_n hx hb dX8_toldTime_37 rfl (lv_at hl 2 rfl) ?_
    refine f_get X hH 0 rfl rfl 4 (by decide) inX8 fX8_29 rfl dX8_toldTime_38 ?_
    refine f_get X hH 22 rfl rfl 1 (by decide) inX0 fX8_178 rfl dX8_toldTime_41 ?_
    refine lv_iload hx hb dX8_toldTime_44 (lv_at hl 0 rfl) ?_
    obtain ⟨o2, ho2, h⟩ := bd_x h
    refine r_S X hH (ws1 := (wX8 g a i xs)) (As := [.long ((eq_above (w_equations xs)) j1), .long (eq_below (w_equations xs)), .int v2]) (rest := []) (st1 := [.long o2]) (uX8_leastTerms  ho2) kX8_leastTerms mX8_182 sX8_leastTerms zX8 okX8_leastTerms ⟨Nat.le_of_ble_eq_true rfl, Nat.le_of_ble_eq_true rfl⟩ rfl rfl (pm_none _) (pm_none _) rfl hl.1 rfl (Nat.le_of_ble_eq_true rfl) ⟨Nat.le_refl 0, Nat.le_refl 0⟩ rfl dX8_toldTime_46 (fun H locs hH => ?_)
    have h := Option.some.inj h
    subst h
    exact e_l X hH dX8_toldTime_49
  · have h := it_x h c1
    refine lv_iload hx hb dX8_toldTime_17 (lv_at hl 0 rfl) ?_
    refine lv_if_ne (tgt := 26) hx hb dX8_toldTime_19 (by decide) (fun c2 => ?_) (fun c2 => ?_)
    · have h := ie_x h c2
      refine lv_lconst (v := (0 : Int64)) hx hb dX8_toldTime_26 (by decide) ?_
      have h := Option.some.inj h
      subst h
      exact e_l X hH dX8_toldTime_27
    · have h := it_x h c2
      refine lv_lconst (v := (1 : Int64)) hx hb dX8_toldTime_22 (by decide) ?_
      refine lv_goto (tgt := 27) hx hb dX8_toldTime_23 (by decide) ?_
      have h := Option.some.inj h
      subst h
      exact e_l X hH dX8_toldTime_27

def qX8_lays_81 (pa : Int32) (pb : Int32) (pc_ : Int32)  : Nat → SX8 → Int32 → Int32 → Int32 → Option (Int32 × SX8)
  | 0, _, _, _, _ => none
  | fu + 1, xs, l5, l6, l7 =>
  (if ((2 : Int32) * (n_points (w_net xs))) ≤ l7 then
  some ((n_points (w_net xs)), xs)
  else
  (fX1_hasPlace (w_listRows xs) pa l6).bind fun o6 =>
  (if o6 = (0 : Int32) then
  some ((-13 : Int32), xs)
  else
  ga 3 pa fun j1 =>
  (fX8_toldTime xs l5 l7).bind fun o7 =>
  ga 20 l6 fun j2 =>
  ltt ((w_listRows_s xs (li_rows_s (w_listRows xs) (va_up (li_rows (w_listRows xs)) j1 (vp_updL ((li_rows (w_listRows xs)) j1) j2 o7))))) fun xs2 =>
  ltt (l6 + (1 : Int32)) fun v1 =>
  ltt (l7 + (1 : Int32)) fun v2 =>
  qX8_lays_81 pa pb pc_  fu xs2 l5 v1 v2))
def qX8_lays_23 (pa : Int32) (pb : Int32) (pc_ : Int32)  (xs : SX8) (t0 : Int32) : Option (Int32 × SX8) :=
  (if t0 = (0 : Int32) then
  (fX3_allWays (w_net xs)).bind fun o2 =>
  (fX3_reached (w_net xs) ((1 : Int32) <<< (pb &&& 31)) o2).bind fun o3 =>
  (fX3_allWays (w_net xs)).bind fun o4 =>
  (fX0_timesTo (w_equations xs) (w_net xs) o4 pb).bind fun o5 =>
  ltt ((w_equations_s xs o5)) fun xs1 =>
  qX8_lays_81 pa pb pc_ FU xs1 o3 pc_ (0 : Int32)
  else
  (fX8_counted xs t0).bind fun o8 =>
  some (o8.1, o8.2))
def fX8_lays (xs : SX8) (pa : Int32) (pb : Int32) (pc_ : Int32) : Option (Int32 × SX8) :=
  (fX3_isPoint (w_net xs) pb).bind fun o1 =>
  (if o1 = (0 : Int32) then
  qX8_lays_23 pa pb pc_ xs (-1 : Int32)
  else
  (fX1_refusalOf (w_listRows xs) pa).bind fun o9 =>
  qX8_lays_23 pa pb pc_ xs o9)
set_option maxHeartbeats 4000000 in
set_option maxRecDepth 100000 in
theorem pX8_lays_81 {p : Program} {l : Launch} {e : Env} {s : State} {m : MethodId} {args : Array Value} {below : List Frame} {meth : Method} {c : Code} {g : GG} {w0 : va_W} {a : Nat → Nat} {i : Nat} {pa : Int32} {pb : Int32} {pc_ : Int32} {o : (Int32 × SX8)} (X : mX g yX8_lays cX8_lays 8 (some .int) p s m args meth c w0) :
  ∀ (fu : Nat) (xs : SX8) (l5 : Int32) (l6 : Int32) (l7 : Int32) (H : Heap) (locs : List Loc) (ls : Array Slot), qX8_lays_81 pa pb pc_ fu xs l5 l6 l7 = some o → mH g s w0 (wX8 g a i xs) H locs → lv_has ls 8 [(0, .ref (a i)), (1, .int pa), (2, .int pb), (3, .int pc_), (5, .int l5), (6, .int l6), (7, .int l7)] → W p l e (rM 4 102) s m args below meth c H locs 0 0 (mZ g below args s w0 (wX8 g a i o.2) (some (.int o.1))) (F0 m 81 ls []) := by
  have hx := X.1
  have hb := X.2.1
  intro fu
  induction fu with
  | zero =>
    intro xs l5 l6 l7 H locs ls h
    unfold qX8_lays_81 at h
    cases h
  | succ fu ih =>
    intro xs l5 l6 l7 H locs ls h hH hl
    unfold qX8_lays_81 at h
    refine lv_iload hx hb dX8_lays_81 (lv_at hl 6 rfl) ?_
    refine lv_iconst (v := (2 : Int32)) hx hb dX8_lays_83 (by decide) ?_
    refine lv_aload_n hx hb dX8_lays_84 rfl (lv_at hl 0 rfl) ?_
    refine f_get X hH 0 rfl rfl 0 (by decide) inX8 fX8_10 rfl dX8_lays_85 ?_
    refine f_get X hH 1 rfl rfl 0 (by decide) inX3 fX8_216 rfl dX8_lays_88 ?_
    refine lv_imul hx hb dX8_lays_91 ?_
    refine lv_icmp_ge (tgt := 140) hx hb dX8_lays_92 (by decide) (fun c3 => ?_) (fun c3 => ?_)
    · have h := it_x h c3
      refine lv_aload_n hx hb dX8_lays_140 rfl (lv_at hl 0 rfl) ?_
      refine f_get X hH 0 rfl rfl 0 (by decide) inX8 fX8_10 rfl dX8_lays_141 ?_
      refine f_get X hH 1 rfl rfl 0 (by decide) inX3 fX8_216 rfl dX8_lays_144 ?_
      have h := Option.some.inj h
      subst h
      exact e_i X hH dX8_lays_147
    · have h := ie_x h c3
      refine lv_aload_n hx hb dX8_lays_95 rfl (lv_at hl 0 rfl) ?_
      refine f_get X hH 0 rfl rfl 12 (by decide) inX8 fX8_76 rfl dX8_lays_96 ?_
      refine lv_iload_n hx hb dX8_lays_99 rfl (lv_at hl 1 rfl) ?_
      refine lv_iload hx hb dX8_lays_100 (lv_at hl 5 rfl) ?_
      obtain ⟨o6, ho6, h⟩ := bd_x h
      refine r_V X hH (ws1 := (wX8 g a i xs)) (As := [.int pa, .int l6]) (rest := []) (st1 := [.int o6]) (uX1_hasPlace (a := a) (i := (i + 45)) ho6) kX1_hasPlace mX8_289 iX1_hasPlace vX1_hasPlace zX1 okX1_hasPlace ⟨Nat.le_of_ble_eq_true rfl, Nat.le_of_ble_eq_true rfl⟩ rfl rfl (q0 := 45) rfl rfl (bX8_11) (bX8_11) rfl hl.1 rfl (Nat.le_of_ble_eq_true rfl) ⟨Nat.le_refl 0, Nat.le_refl 0⟩ rfl dX8_lays_102 (fun H locs hH => ?_)
      refine lv_if_ne (tgt := 111) hx hb dX8_lays_105 (by decide) (fun c4 => ?_) (fun c4 => ?_)
      · have h := ie_x h c4
        refine lv_aload_n hx hb dX8_lays_111 rfl (lv_at hl 0 rfl) ?_
        refine f_get X hH 0 rfl rfl 12 (by decide) inX8 fX8_76 rfl dX8_lays_112 ?_
        refine f_get X hH 45 rfl rfl 0 (by decide) inX1 fX8_283 rfl dX8_lays_115 ?_
        refine lv_iload_n hx hb dX8_lays_118 rfl (lv_at hl 1 rfl) ?_
        obtain ⟨j1, ej1, hinj1, h⟩ := ga_x h
        have hltj1 : j1 < 3 := by rw [ej1]; exact vp_lt hinj1
        refine a_al X hH (v := .ref (a ((i + 45) + 2 + j1))) 46 4 rfl rfl hinj1 ej1 (rf_in hltj1) dX8_lays_119 ?_
        refine lv_iload hx hb dX8_lays_120 (lv_at hl 5 rfl) ?_
        refine lv_aload_n hx hb dX8_lays_122 rfl (lv_at hl 0 rfl) ?_
        refine lv_iload hx hb dX8_lays_123 (lv_at hl 4 rfl) ?_
        refine lv_iload hx hb dX8_lays_125 (lv_at hl 6 rfl) ?_
        obtain ⟨o7, ho7, h⟩ := bd_x h
        refine r_V X hH (ws1 := (wX8 g a i xs)) (As := [.int l5, .int l7]) (rest := [.int l6, .ref (a ((i + 45) + 2 + j1))]) (st1 := [.long o7, .int l6, .ref (a ((i + 45) + 2 + j1))]) (uX8_toldTime (a := a) (i := i) ho7) kX8_toldTime mX8_292 iX8_toldTime vX8_toldTime zX8 okX8_toldTime ⟨Nat.le_of_ble_eq_true rfl, Nat.le_of_ble_eq_true rfl⟩ rfl rfl (q0 := 0) rfl rfl (pm_all _) (pm_all _) rfl hl.1 rfl (Nat.le_of_ble_eq_true rfl) ⟨Nat.le_refl 0, Nat.le_refl 0⟩ rfl dX8_lays_127 (fun H locs hH => ?_)
        obtain ⟨j2, ej2, hinj2, h⟩ := ga_x h
        obtain ⟨xs2, exs2, h⟩ := ltt_x h
        have hwxs2 := co_3 (P := fun jj => ((wX8 g a i xs)).set (47 + jj) (a ((i + 45) + 2 + jj), .inl (g.2.1 1, 20, .inr (.inl (vp_updL ((li_rows (w_listRows xs)) jj) j2 o7)))) = (wX8 g a i (w_listRows_s xs (li_rows_s (w_listRows xs) (va_up (li_rows (w_listRows xs)) jj (vp_updL ((li_rows (w_listRows xs)) jj) j2 o7)))))) rfl rfl rfl hltj1
        refine a_ls X hH (ws1 := (wX8 g a i xs2)) (47 + j1) (co_3 (P := fun jj => ((wX8 g a i xs))[47 + jj]? = some (a ((i + 45) + 2 + jj), .inl (g.2.1 1, 20, .inr (.inl ((li_rows (w_listRows xs)) jj))))) rfl rfl rfl hltj1) hinj2 ej2 (hwxs2.trans (by rw [exs2])) dX8_lays_130 (fun H locs hH => ?_)
        obtain ⟨v1, ev1, h⟩ := ltt_x h
        refine s_inc X (k := 5) (lv' := [(6, .int v1), (0, .ref (a i)), (1, .int pa), (2, .int pb), (3, .int pc_), (5, .int l5), (7, .int l7)]) hl rfl (by rw [ev1]; rfl) dX8_lays_131 (by decide) rfl (fun ls hl => ?_)
        obtain ⟨v2, ev2, h⟩ := ltt_x h
        refine s_inc X (k := 6) (lv' := [(7, .int v2), (6, .int v1), (0, .ref (a i)), (1, .int pa), (2, .int pb), (3, .int pc_), (5, .int l5)]) hl rfl (by rw [ev2]; rfl) dX8_lays_134 (by decide) rfl (fun ls hl => ?_)
        refine lv_goto (tgt := 81) hx hb dX8_lays_137 (by decide) ?_
        exact ih xs2 l5 v1 v2 H locs ls h hH (lv_sub hl [2, 3, 4, 5, 6, 1, 0] rfl)
      · have h := it_x h c4
        refine lv_bipush (v := (-13 : Int32)) hx hb dX8_lays_108 (by decide) ?_
        have h := Option.some.inj h
        subst h
        exact e_i X hH dX8_lays_110
set_option maxHeartbeats 4000000 in
set_option maxRecDepth 100000 in
theorem pX8_lays_23 {p : Program} {l : Launch} {e : Env} {s : State} {m : MethodId} {args : Array Value} {below : List Frame} {meth : Method} {c : Code} {g : GG} {w0 : va_W} {a : Nat → Nat} {i : Nat} {pa : Int32} {pb : Int32} {pc_ : Int32} {o : (Int32 × SX8)} (X : mX g yX8_lays cX8_lays 8 (some .int) p s m args meth c w0) :
  ∀ (xs : SX8) (t0 : Int32) (H : Heap) (locs : List Loc) (ls : Array Slot), qX8_lays_23 pa pb pc_ xs t0 = some o → mH g s w0 (wX8 g a i xs) H locs → lv_has ls 8 [(0, .ref (a i)), (1, .int pa), (2, .int pb), (3, .int pc_)] → W p l e (rM 4 102) s m args below meth c H locs 0 0 (mZ g below args s w0 (wX8 g a i o.2) (some (.int o.1))) (F0 m 23 ls [.int t0]) := by
  have hx := X.1
  have hb := X.2.1
  intro xs t0 H locs ls h hH hl
  unfold qX8_lays_23 at h
  refine s_i X (lv' := [(4, .int t0), (0, .ref (a i)), (1, .int pa), (2, .int pb), (3, .int pc_)]) hl rfl dX8_lays_23 (by decide) rfl (fun ls hl => ?_)
  refine lv_iload hx hb dX8_lays_25 (lv_at hl 0 rfl) ?_
  refine lv_if_eq (tgt := 37) hx hb dX8_lays_27 (by decide) (fun c2 => ?_) (fun c2 => ?_)
  · have h := it_x h c2
    refine lv_aload_n hx hb dX8_lays_37 rfl (lv_at hl 1 rfl) ?_
    refine f_get X hH 0 rfl rfl 0 (by decide) inX8 fX8_10 rfl dX8_lays_38 ?_
    refine lv_iconst (v := (1 : Int32)) hx hb dX8_lays_41 (by decide) ?_
    refine lv_iload_n hx hb dX8_lays_42 rfl (lv_at hl 3 rfl) ?_
    refine lv_ishl hx hb dX8_lays_43 ?_
    refine lv_aload_n hx hb dX8_lays_44 rfl (lv_at hl 1 rfl) ?_
    refine f_get X hH 0 rfl rfl 0 (by decide) inX8 fX8_10 rfl dX8_lays_45 ?_
    obtain ⟨o2, ho2, h⟩ := bd_x h
    refine r_V X hH (ws1 := (wX8 g a i xs)) (As := []) (rest := [.int ((1 : Int32) <<< (pb &&& 31)), .ref (a (i + 1))]) (st1 := [.int o2, .int ((1 : Int32) <<< (pb &&& 31)), .ref (a (i + 1))]) (uX3_allWays (a := a) (i := (i + 1)) ho2) kX3_allWays mX8_157 iX3_allWays vX3_allWays zX3 okX3_allWays ⟨Nat.le_of_ble_eq_true rfl, Nat.le_of_ble_eq_true rfl⟩ rfl rfl (q0 := 1) rfl rfl (bX8_1) (bX8_1) rfl hl.1 rfl (Nat.le_of_ble_eq_true rfl) ⟨Nat.le_refl 0, Nat.le_refl 0⟩ rfl dX8_lays_48 (fun H locs hH => ?_)
    obtain ⟨o3, ho3, h⟩ := bd_x h
    refine r_V X hH (ws1 := (wX8 g a i xs)) (As := [.int ((1 : Int32) <<< (pb &&& 31)), .int o2]) (rest := []) (st1 := [.int o3]) (uX3_reached (a := a) (i := (i + 1)) ho3) kX3_reached mX8_161 iX3_reached vX3_reached zX3 okX3_reached ⟨Nat.le_of_ble_eq_true rfl, Nat.le_of_ble_eq_true rfl⟩ rfl rfl (q0 := 1) rfl rfl (bX8_1) (bX8_1) rfl hl.1 rfl (Nat.le_of_ble_eq_true rfl) ⟨Nat.le_refl 0, Nat.le_refl 0⟩ rfl dX8_lays_51 (fun H locs hH => ?_)
    refine s_i X (lv' := [(5, .int o3), (4, .int t0), (0, .ref (a i)), (1, .int pa), (2, .int pb), (3, .int pc_)]) hl rfl dX8_lays_54 (by decide) rfl (fun ls hl => ?_)
    refine lv_aload_n hx hb dX8_lays_56 rfl (lv_at hl 2 rfl) ?_
    refine f_get X hH 0 rfl rfl 4 (by decide) inX8 fX8_29 rfl dX8_lays_57 ?_
    refine lv_aload_n hx hb dX8_lays_60 rfl (lv_at hl 2 rfl) ?_
    refine f_get X hH 0 rfl rfl 0 (by decide) inX8 fX8_10 rfl dX8_lays_61 ?_
    refine lv_aload_n hx hb dX8_lays_64 rfl (lv_at hl 2 rfl) ?_
    refine f_get X hH 0 rfl rfl 0 (by decide) inX8 fX8_10 rfl dX8_lays_65 ?_
    obtain ⟨o4, ho4, h⟩ := bd_x h
    refine r_V X hH (ws1 := (wX8 g a i xs)) (As := []) (rest := [.ref (a (i + 1)), .ref (a (i + 22))]) (st1 := [.int o4, .ref (a (i + 1)), .ref (a (i + 22))]) (uX3_allWays (a := a) (i := (i + 1)) ho4) kX3_allWays mX8_157 iX3_allWays vX3_allWays zX3 okX3_allWays ⟨Nat.le_of_ble_eq_true rfl, Nat.le_of_ble_eq_true rfl⟩ rfl rfl (q0 := 1) rfl rfl (bX8_1) (bX8_1) rfl hl.1 rfl (Nat.le_of_ble_eq_true rfl) ⟨Nat.le_refl 0, Nat.le_refl 0⟩ rfl dX8_lays_68 (fun H locs hH => ?_)
    refine lv_iload_n hx hb dX8_lays_71 rfl (lv_at hl 4 rfl) ?_
    obtain ⟨o5, ho5, h⟩ := bd_x h
    obtain ⟨xs1, exs1, h⟩ := ltt_x h
    refine r_V X hH (ws1 := (wX8 g a i xs1)) (As := [.ref (a (i + 1)), .int o4, .int pb]) (rest := []) (st1 := []) (uX0_timesTo (a := a) (i := (i + 22)) (b := a) (j := (i + 1)) ho5) kX0_timesTo mX8_171 iX0_timesTo vX0_timesTo zX0 okX0_timesTo ⟨Nat.le_of_ble_eq_true rfl, Nat.le_of_ble_eq_true rfl⟩ rfl rfl (q0 := 22) rfl rfl (pm_2 (bX8_4) (bX8_4_1)) (by rw [exs1]; exact (pm_2 (bX8_4) (bX8_4_1))) rfl hl.1 rfl (Nat.le_of_ble_eq_true rfl) ⟨Nat.le_refl 0, Nat.le_refl 0⟩ rfl dX8_lays_72 (fun H locs hH => ?_)
    refine lv_iload_n hx hb dX8_lays_75 rfl (lv_at hl 5 rfl) ?_
    refine s_i X (lv' := [(6, .int pc_), (5, .int o3), (4, .int t0), (0, .ref (a i)), (1, .int pa), (2, .int pb), (3, .int pc_)]) hl rfl dX8_lays_76 (by decide) rfl (fun ls hl => ?_)
    refine lv_iconst (v := (0 : Int32)) hx hb dX8_lays_78 (by decide) ?_
    refine s_i X (lv' := [(7, .int (0 : Int32)), (6, .int pc_), (5, .int o3), (4, .int t0), (0, .ref (a i)), (1, .int pa), (2, .int pb), (3, .int pc_)]) hl rfl dX8_lays_79 (by decide) rfl (fun ls hl => ?_)
    exact pX8_lays_81 X FU xs1 o3 pc_ (0 : Int32) H locs ls h hH (lv_sub hl [4, 5, 6, 7, 2, 1, 0] rfl)
  · have h := ie_x h c2
    refine lv_aload_n hx hb dX8_lays_30 rfl (lv_at hl 1 rfl) ?_
    refine lv_iload hx hb dX8_lays_31 (lv_at hl 0 rfl) ?_
    obtain ⟨o8, ho8, h⟩ := bd_x h
    refine r_V X hH (ws1 := (wX8 g a i o8.2)) (As := [.int t0]) (rest := []) (st1 := [.int o8.1]) (uX8_counted (a := a) (i := i) ho8) kX8_counted mX8_94 iX8_counted vX8_counted zX8 okX8_counted ⟨Nat.le_of_ble_eq_true rfl, Nat.le_of_ble_eq_true rfl⟩ rfl rfl (q0 := 0) rfl rfl (pm_all _) (pm_all _) rfl hl.1 rfl (Nat.le_of_ble_eq_true rfl) ⟨Nat.le_refl 0, Nat.le_refl 0⟩ rfl dX8_lays_33 (fun H locs hH => ?_)
    have h := Option.some.inj h
    subst h
    exact e_i X hH dX8_lays_36
set_option maxHeartbeats 4000000 in
set_option maxRecDepth 100000 in
theorem uX8_lays {l : Launch} {g : GG} {a : Nat → Nat} {i : Nat} {xs : SX8} {pa : Int32} {pb : Int32} {pc_ : Int32} {o : (Int32 × SX8)} (h : fX8_lays xs pa pb pc_ = some o) : mC l g yX8_lays cX8_lays 8 (some .int) (rM 4 102) [.ref (a i), .int pa, .int pb, .int pc_] (wX8 g a i xs) (wX8 g a i o.2) (some (.int o.1)) := by
  refine mC.ofW (by decide) (fun p e s m below meth c X hH ls _ hl => ?_) (Nat.le_of_ble_eq_true rfl)
  have hx := X.1
  have hb := X.2.1
  have hl : lv_has ls 8 [(0, .ref (a i)), (1, .int pa), (2, .int pb), (3, .int pc_)] := hl
  unfold fX8_lays at h
  suffices HH : ∀ (H : Heap) (locs : List Loc), mH g s (wX8 g a i xs) (wX8 g a i xs) H locs → W p l e (rM 4 102) s m _ below meth c H locs 0 0 (mZ g below _ s (wX8 g a i xs) (wX8 g a i o.2) (some (.int o.1))) (F0 m 0 ls []) from HH _ _ hH
  clear hH
  intro H locs hH
  refine lv_aload_n hx hb dX8_lays_0 rfl (lv_at hl 0 rfl) ?_
  refine f_get X hH 0 rfl rfl 0 (by decide) inX8 fX8_10 rfl dX8_lays_1 ?_
  refine lv_iload_n hx hb dX8_lays_4 rfl (lv_at hl 2 rfl) ?_
  obtain ⟨o1, ho1, h⟩ := bd_x h
  refine r_V X hH (ws1 := (wX8 g a i xs)) (As := [.int pb]) (rest := []) (st1 := [.int o1]) (uX3_isPoint (a := a) (i := (i + 1)) ho1) kX3_isPoint mX8_154 iX3_isPoint vX3_isPoint zX3 okX3_isPoint ⟨Nat.le_of_ble_eq_true rfl, Nat.le_of_ble_eq_true rfl⟩ rfl rfl (q0 := 1) rfl rfl (bX8_1) (bX8_1) rfl hl.1 rfl (Nat.le_of_ble_eq_true rfl) ⟨Nat.le_refl 0, Nat.le_refl 0⟩ rfl dX8_lays_5 (fun H locs hH => ?_)
  refine lv_if_eq (tgt := 22) hx hb dX8_lays_8 (by decide) (fun c1 => ?_) (fun c1 => ?_)
  · have h := it_x h c1
    refine lv_iconst (v := (-1 : Int32)) hx hb dX8_lays_22 (by decide) ?_
    exact pX8_lays_23 X  xs (-1 : Int32) H locs ls h hH (lv_sub hl [0, 1, 2, 3] rfl)
  · have h := ie_x h c1
    refine lv_aload_n hx hb dX8_lays_11 rfl (lv_at hl 0 rfl) ?_
    refine f_get X hH 0 rfl rfl 12 (by decide) inX8 fX8_76 rfl dX8_lays_12 ?_
    refine lv_iload_n hx hb dX8_lays_15 rfl (lv_at hl 1 rfl) ?_
    obtain ⟨o9, ho9, h⟩ := bd_x h
    refine r_V X hH (ws1 := (wX8 g a i xs)) (As := [.int pa]) (rest := []) (st1 := [.int o9]) (uX1_refusalOf (a := a) (i := (i + 45)) ho9) kX1_refusalOf mX8_287 iX1_refusalOf vX1_refusalOf zX1 okX1_refusalOf ⟨Nat.le_of_ble_eq_true rfl, Nat.le_of_ble_eq_true rfl⟩ rfl rfl (q0 := 45) rfl rfl (bX8_11) (bX8_11) rfl hl.1 rfl (Nat.le_of_ble_eq_true rfl) ⟨Nat.le_refl 0, Nat.le_refl 0⟩ rfl dX8_lays_16 (fun H locs hH => ?_)
    refine lv_goto (tgt := 23) hx hb dX8_lays_19 (by decide) ?_
    exact pX8_lays_23 X  xs o9 H locs ls h hH (lv_sub hl [0, 1, 2, 3] rfl)

def qX8_judge_75 (pa : Int32) (pb : Int32)  : Nat → SX8 → Int32 → Int32 → Option (Int32 × SX8)
  | 0, _, _, _ => none
  | fu + 1, xs, l4, l5 =>
  (if ((2 : Int32) * (n_points (w_net xs))) ≤ l5 then
  some ((-9 : Int32), xs)
  else
  (fX1_hasPlace (w_listRows xs) pa l5).bind fun o6 =>
  (if o6 = (0 : Int32) then
  some (((100 : Int32) + (l5 / (2 : Int32))), xs)
  else
  ga 3 pa fun j1 =>
  ga 20 l5 fun j2 =>
  (fX8_toldTime xs l4 l5).bind fun o7 =>
  (if ((li_rows (w_listRows xs)) j1 j2) = o7 then
  ltt (l5 + (1 : Int32)) fun v1 =>
  qX8_judge_75 pa pb  fu xs l4 v1
  else
  some ((l5 / (2 : Int32)), xs))))
def qX8_judge_23 (pa : Int32) (pb : Int32)  (xs : SX8) (t0 : Int32) : Option (Int32 × SX8) :=
  (if t0 = (0 : Int32) then
  (fX3_allWays (w_net xs)).bind fun o2 =>
  (fX3_reached (w_net xs) ((1 : Int32) <<< (pb &&& 31)) o2).bind fun o3 =>
  (fX3_allWays (w_net xs)).bind fun o4 =>
  (fX0_timesTo (w_equations xs) (w_net xs) o4 pb).bind fun o5 =>
  ltt ((w_equations_s xs o5)) fun xs1 =>
  qX8_judge_75 pa pb FU xs1 o3 (0 : Int32)
  else
  (fX8_counted xs t0).bind fun o8 =>
  some (o8.1, o8.2))
def fX8_judge (xs : SX8) (pa : Int32) (pb : Int32) : Option (Int32 × SX8) :=
  (fX3_isPoint (w_net xs) pb).bind fun o1 =>
  (if o1 = (0 : Int32) then
  qX8_judge_23 pa pb xs (-1 : Int32)
  else
  (fX1_refusalOf (w_listRows xs) pa).bind fun o9 =>
  qX8_judge_23 pa pb xs o9)
set_option maxHeartbeats 4000000 in
set_option maxRecDepth 100000 in
theorem pX8_judge_75 {p : Program} {l : Launch} {e : Env} {s : State} {m : MethodId} {args : Array Value} {below : List Frame} {meth : Method} {c : Code} {g : GG} {w0 : va_W} {a : Nat → Nat} {i : Nat} {pa : Int32} {pb : Int32} {o : (Int32 × SX8)} (X : mX g yX8_judge cX8_judge 6 (some .int) p s m args meth c w0) :
  ∀ (fu : Nat) (xs : SX8) (l4 : Int32) (l5 : Int32) (H : Heap) (locs : List Loc) (ls : Array Slot), qX8_judge_75 pa pb fu xs l4 l5 = some o → mH g s w0 (wX8 g a i xs) H locs → lv_has ls 6 [(0, .ref (a i)), (1, .int pa), (2, .int pb), (4, .int l4), (5, .int l5)] → W p l e (rM 4 102) s m args below meth c H locs 0 0 (mZ g below args s w0 (wX8 g a i o.2) (some (.int o.1))) (F0 m 75 ls []) := by
  have hx := X.1
  have hb := X.2.1
  intro fu
  induction fu with
  | zero =>
    intro xs l4 l5 H locs ls h
    unfold qX8_judge_75 at h
    cases h
  | succ fu ih =>
    intro xs l4 l5 H locs ls h hH hl
    unfold qX8_judge_75 at h
    refine lv_iload hx hb dX8_judge_75 (lv_at hl 4 rfl) ?_
    refine lv_iconst (v := (2 : Int32)) hx hb dX8_judge_77 (by decide) ?_
    refine lv_aload_n hx hb dX8_judge_78 rfl (lv_at hl 0 rfl) ?_
    refine f_get X hH 0 rfl rfl 0 (by decide) inX8 fX8_10 rfl dX8_judge_79 ?_
    refine f_get X hH 1 rfl rfl 0 (by decide) inX3 fX8_216 rfl dX8_judge_82 ?_
    refine lv_imul hx hb dX8_judge_85 ?_
    refine lv_icmp_ge (tgt := 145) hx hb dX8_judge_86 (by decide) (fun c3 => ?_) (fun c3 => ?_)
    · have h := it_x h c3
      refine lv_bipush (v := (-9 : Int32)) hx hb dX8_judge_145 (by decide) ?_
      have h := Option.some.inj h
      subst h
      exact e_i X hH dX8_judge_147
    · have h := ie_x h c3
      refine lv_aload_n hx hb dX8_judge_89 rfl (lv_at hl 0 rfl) ?_
      refine f_get X hH 0 rfl rfl 12 (by decide) inX8 fX8_76 rfl dX8_judge_90 ?_
      refine lv_iload_n hx hb dX8_judge_93 rfl (lv_at hl 1 rfl) ?_
      refine lv_iload hx hb dX8_judge_94 (lv_at hl 4 rfl) ?_
      obtain ⟨o6, ho6, h⟩ := bd_x h
      refine r_V X hH (ws1 := (wX8 g a i xs)) (As := [.int pa, .int l5]) (rest := []) (st1 := [.int o6]) (uX1_hasPlace (a := a) (i := (i + 45)) ho6) kX1_hasPlace mX8_289 iX1_hasPlace vX1_hasPlace zX1 okX1_hasPlace ⟨Nat.le_of_ble_eq_true rfl, Nat.le_of_ble_eq_true rfl⟩ rfl rfl (q0 := 45) rfl rfl (bX8_11) (bX8_11) rfl hl.1 rfl (Nat.le_of_ble_eq_true rfl) ⟨Nat.le_refl 0, Nat.le_refl 0⟩ rfl dX8_judge_96 (fun H locs hH => ?_)
      refine lv_if_ne (tgt := 110) hx hb dX8_judge_99 (by decide) (fun c4 => ?_) (fun c4 => ?_)
      · have h := ie_x h c4
        refine lv_aload_n hx hb dX8_judge_110 rfl (lv_at hl 0 rfl) ?_
        refine f_get X hH 0 rfl rfl 12 (by decide) inX8 fX8_76 rfl dX8_judge_111 ?_
        refine f_get X hH 45 rfl rfl 0 (by decide) inX1 fX8_283 rfl dX8_judge_114 ?_
        refine lv_iload_n hx hb dX8_judge_117 rfl (lv_at hl 1 rfl) ?_
        obtain ⟨j1, ej1, hinj1, h⟩ := ga_x h
        have hltj1 : j1 < 3 := by rw [ej1]; exact vp_lt hinj1
        refine a_al X hH (v := .ref (a ((i + 45) + 2 + j1))) 46 4 rfl rfl hinj1 ej1 (rf_in hltj1) dX8_judge_118 ?_
        refine lv_iload hx hb dX8_judge_119 (lv_at hl 4 rfl) ?_
        obtain ⟨j2, ej2, hinj2, h⟩ := ga_x h
        refine a_ll X hH (47 + j1) (co_3 (P := fun jj => ((wX8 g a i xs))[47 + jj]? = some (a ((i + 45) + 2 + jj), .inl (g.2.1 1, 20, .inr (.inl ((li_rows (w_listRows xs)) jj))))) rfl rfl rfl hltj1) hinj2 ej2 dX8_judge_121 ?_
        refine lv_aload_n hx hb dX8_judge_122 rfl (lv_at hl 0 rfl) ?_
        refine lv_iload hx hb dX8_judge_123 (lv_at hl 3 rfl) ?_
        refine lv_iload hx hb dX8_judge_125 (lv_at hl 4 rfl) ?_
        obtain ⟨o7, ho7, h⟩ := bd_x h
        refine r_V X hH (ws1 := (wX8 g a i xs)) (As := [.int l4, .int l5]) (rest := [.long ((li_rows (w_listRows xs)) j1 j2)]) (st1 := [.long o7, .long ((li_rows (w_listRows xs)) j1 j2)]) (uX8_toldTime (a := a) (i := i) ho7) kX8_toldTime mX8_292 iX8_toldTime vX8_toldTime zX8 okX8_toldTime ⟨Nat.le_of_ble_eq_true rfl, Nat.le_of_ble_eq_true rfl⟩ rfl rfl (q0 := 0) rfl rfl (pm_all _) (pm_all _) rfl hl.1 rfl (Nat.le_of_ble_eq_true rfl) ⟨Nat.le_refl 0, Nat.le_refl 0⟩ rfl dX8_judge_127 (fun H locs hH => ?_)
        refine W.lcmp hx hb dX8_judge_130 ?_
        refine lv_if_eq (tgt := 139) hx hb dX8_judge_131 (by decide) (fun c5 => ?_) (fun c5 => ?_)
        · have h := it_x h ((lg_cmp_eq ((li_rows (w_listRows xs)) j1 j2) o7).mp c5)
          obtain ⟨v1, ev1, h⟩ := ltt_x h
          refine s_inc X (k := 4) (lv' := [(5, .int v1), (0, .ref (a i)), (1, .int pa), (2, .int pb), (4, .int l4)]) hl rfl (by rw [ev1]; rfl) dX8_judge_139 (by decide) rfl (fun ls hl => ?_)
          refine lv_goto (tgt := 75) hx hb dX8_judge_142 (by decide) ?_
          exact ih xs l4 v1 H locs ls h hH (lv_sub hl [1, 2, 3, 4, 0] rfl)
        · have h := ie_x h (mt (lg_cmp_eq ((li_rows (w_listRows xs)) j1 j2) o7).mpr c5)
          refine lv_iload hx hb dX8_judge_134 (lv_at hl 4 rfl) ?_
          refine lv_iconst (v := (2 : Int32)) hx hb dX8_judge_136 (by decide) ?_
          refine lv_idiv hx hb dX8_judge_137 (by decide) ?_
          have h := Option.some.inj h
          subst h
          exact e_i X hH dX8_judge_138
      · have h := it_x h c4
        refine lv_bipush (v := (100 : Int32)) hx hb dX8_judge_102 (by decide) ?_
        refine lv_iload hx hb dX8_judge_104 (lv_at hl 4 rfl) ?_
        refine lv_iconst (v := (2 : Int32)) hx hb dX8_judge_106 (by decide) ?_
        refine lv_idiv hx hb dX8_judge_107 (by decide) ?_
        refine lv_iadd hx hb dX8_judge_108 ?_
        have h := Option.some.inj h
        subst h
        exact e_i X hH dX8_judge_109
set_option maxHeartbeats 4000000 in
set_option maxRecDepth 100000 in
theorem pX8_judge_23 {p : Program} {l : Launch} {e : Env} {s : State} {m : MethodId} {args : Array Value} {below : List Frame} {meth : Method} {c : Code} {g : GG} {w0 : va_W} {a : Nat → Nat} {i : Nat} {pa : Int32} {pb : Int32} {o : (Int32 × SX8)} (X : mX g yX8_judge cX8_judge 6 (some .int) p s m args meth c w0) :
  ∀ (xs : SX8) (t0 : Int32) (H : Heap) (locs : List Loc) (ls : Array Slot), qX8_judge_23 pa pb xs t0 = some o → mH g s w0 (wX8 g a i xs) H locs → lv_has ls 6 [(0, .ref (a i)), (1, .int pa), (2, .int pb)] → W p l e (rM 4 102) s m args below meth c H locs 0 0 (mZ g below args s w0 (wX8 g a i o.2) (some (.int o.1))) (F0 m 23 ls [.int t0]) := by
  have hx := X.1
  have hb := X.2.1
  intro xs t0 H locs ls h hH hl
  unfold qX8_judge_23 at h
  refine s_in X (lv' := [(3, .int t0), (0, .ref (a i)), (1, .int pa), (2, .int pb)]) hl rfl dX8_judge_23 rfl (by decide) rfl (fun ls hl => ?_)
  refine lv_iload_n hx hb dX8_judge_24 rfl (lv_at hl 0 rfl) ?_
  refine lv_if_eq (tgt := 34) hx hb dX8_judge_25 (by decide) (fun c2 => ?_) (fun c2 => ?_)
  · have h := it_x h c2
    refine lv_aload_n hx hb dX8_judge_34 rfl (lv_at hl 1 rfl) ?_
    refine f_get X hH 0 rfl rfl 0 (by decide) inX8 fX8_10 rfl dX8_judge_35 ?_
    refine lv_iconst (v := (1 : Int32)) hx hb dX8_judge_38 (by decide) ?_
    refine lv_iload_n hx hb dX8_judge_39 rfl (lv_at hl 3 rfl) ?_
    refine lv_ishl hx hb dX8_judge_40 ?_
    refine lv_aload_n hx hb dX8_judge_41 rfl (lv_at hl 1 rfl) ?_
    refine f_get X hH 0 rfl rfl 0 (by decide) inX8 fX8_10 rfl dX8_judge_42 ?_
    obtain ⟨o2, ho2, h⟩ := bd_x h
    refine r_V X hH (ws1 := (wX8 g a i xs)) (As := []) (rest := [.int ((1 : Int32) <<< (pb &&& 31)), .ref (a (i + 1))]) (st1 := [.int o2, .int ((1 : Int32) <<< (pb &&& 31)), .ref (a (i + 1))]) (uX3_allWays (a := a) (i := (i + 1)) ho2) kX3_allWays mX8_157 iX3_allWays vX3_allWays zX3 okX3_allWays ⟨Nat.le_of_ble_eq_true rfl, Nat.le_of_ble_eq_true rfl⟩ rfl rfl (q0 := 1) rfl rfl (bX8_1) (bX8_1) rfl hl.1 rfl (Nat.le_of_ble_eq_true rfl) ⟨Nat.le_refl 0, Nat.le_refl 0⟩ rfl dX8_judge_45 (fun H locs hH => ?_)
    obtain ⟨o3, ho3, h⟩ := bd_x h
    refine r_V X hH (ws1 := (wX8 g a i xs)) (As := [.int ((1 : Int32) <<< (pb &&& 31)), .int o2]) (rest := []) (st1 := [.int o3]) (uX3_reached (a := a) (i := (i + 1)) ho3) kX3_reached mX8_161 iX3_reached vX3_reached zX3 okX3_reached ⟨Nat.le_of_ble_eq_true rfl, Nat.le_of_ble_eq_true rfl⟩ rfl rfl (q0 := 1) rfl rfl (bX8_1) (bX8_1) rfl hl.1 rfl (Nat.le_of_ble_eq_true rfl) ⟨Nat.le_refl 0, Nat.le_refl 0⟩ rfl dX8_judge_48 (fun H locs hH => ?_)
    refine s_i X (lv' := [(4, .int o3), (3, .int t0), (0, .ref (a i)), (1, .int pa), (2, .int pb)]) hl rfl dX8_judge_51 (by decide) rfl (fun ls hl => ?_)
    refine lv_aload_n hx hb dX8_judge_53 rfl (lv_at hl 2 rfl) ?_
    refine f_get X hH 0 rfl rfl 4 (by decide) inX8 fX8_29 rfl dX8_judge_54 ?_
    refine lv_aload_n hx hb dX8_judge_57 rfl (lv_at hl 2 rfl) ?_
    refine f_get X hH 0 rfl rfl 0 (by decide) inX8 fX8_10 rfl dX8_judge_58 ?_
    refine lv_aload_n hx hb dX8_judge_61 rfl (lv_at hl 2 rfl) ?_
    refine f_get X hH 0 rfl rfl 0 (by decide) inX8 fX8_10 rfl dX8_judge_62 ?_
    obtain ⟨o4, ho4, h⟩ := bd_x h
    refine r_V X hH (ws1 := (wX8 g a i xs)) (As := []) (rest := [.ref (a (i + 1)), .ref (a (i + 22))]) (st1 := [.int o4, .ref (a (i + 1)), .ref (a (i + 22))]) (uX3_allWays (a := a) (i := (i + 1)) ho4) kX3_allWays mX8_157 iX3_allWays vX3_allWays zX3 okX3_allWays ⟨Nat.le_of_ble_eq_true rfl, Nat.le_of_ble_eq_true rfl⟩ rfl rfl (q0 := 1) rfl rfl (bX8_1) (bX8_1) rfl hl.1 rfl (Nat.le_of_ble_eq_true rfl) ⟨Nat.le_refl 0, Nat.le_refl 0⟩ rfl dX8_judge_65 (fun H locs hH => ?_)
    refine lv_iload_n hx hb dX8_judge_68 rfl (lv_at hl 4 rfl) ?_
    obtain ⟨o5, ho5, h⟩ := bd_x h
    obtain ⟨xs1, exs1, h⟩ := ltt_x h
    refine r_V X hH (ws1 := (wX8 g a i xs1)) (As := [.ref (a (i + 1)), .int o4, .int pb]) (rest := []) (st1 := []) (uX0_timesTo (a := a) (i := (i + 22)) (b := a) (j := (i + 1)) ho5) kX0_timesTo mX8_171 iX0_timesTo vX0_timesTo zX0 okX0_timesTo ⟨Nat.le_of_ble_eq_true rfl, Nat.le_of_ble_eq_true rfl⟩ rfl rfl (q0 := 22) rfl rfl (pm_2 (bX8_4) (bX8_4_1)) (by rw [exs1]; exact (pm_2 (bX8_4) (bX8_4_1))) rfl hl.1 rfl (Nat.le_of_ble_eq_true rfl) ⟨Nat.le_refl 0, Nat.le_refl 0⟩ rfl dX8_judge_69 (fun H locs hH => ?_)
    refine lv_iconst (v := (0 : Int32)) hx hb dX8_judge_72 (by decide) ?_
    refine s_i X (lv' := [(5, .int (0 : Int32)), (4, .int o3), (3, .int t0), (0, .ref (a i)), (1, .int pa), (2, .int pb)]) hl rfl dX8_judge_73 (by decide) rfl (fun ls hl => ?_)
    exact pX8_judge_75 X FU xs1 o3 (0 : Int32) H locs ls h hH (lv_sub hl [3, 4, 5, 1, 0] rfl)
  · have h := ie_x h c2
    refine lv_aload_n hx hb dX8_judge_28 rfl (lv_at hl 1 rfl) ?_
    refine lv_iload_n hx hb dX8_judge_29 rfl (lv_at hl 0 rfl) ?_
    obtain ⟨o8, ho8, h⟩ := bd_x h
    refine r_V X hH (ws1 := (wX8 g a i o8.2)) (As := [.int t0]) (rest := []) (st1 := [.int o8.1]) (uX8_counted (a := a) (i := i) ho8) kX8_counted mX8_94 iX8_counted vX8_counted zX8 okX8_counted ⟨Nat.le_of_ble_eq_true rfl, Nat.le_of_ble_eq_true rfl⟩ rfl rfl (q0 := 0) rfl rfl (pm_all _) (pm_all _) rfl hl.1 rfl (Nat.le_of_ble_eq_true rfl) ⟨Nat.le_refl 0, Nat.le_refl 0⟩ rfl dX8_judge_30 (fun H locs hH => ?_)
    have h := Option.some.inj h
    subst h
    exact e_i X hH dX8_judge_33
set_option maxHeartbeats 4000000 in
set_option maxRecDepth 100000 in
theorem uX8_judge {l : Launch} {g : GG} {a : Nat → Nat} {i : Nat} {xs : SX8} {pa : Int32} {pb : Int32} {o : (Int32 × SX8)} (h : fX8_judge xs pa pb = some o) : mC l g yX8_judge cX8_judge 6 (some .int) (rM 4 102) [.ref (a i), .int pa, .int pb] (wX8 g a i xs) (wX8 g a i o.2) (some (.int o.1)) := by
  refine mC.ofW (by decide) (fun p e s m below meth c X hH ls _ hl => ?_) (Nat.le_of_ble_eq_true rfl)
  have hx := X.1
  have hb := X.2.1
  have hl : lv_has ls 6 [(0, .ref (a i)), (1, .int pa), (2, .int pb)] := hl
  unfold fX8_judge at h
  suffices HH : ∀ (H : Heap) (locs : List Loc), mH g s (wX8 g a i xs) (wX8 g a i xs) H locs → W p l e (rM 4 102) s m _ below meth c H locs 0 0 (mZ g below _ s (wX8 g a i xs) (wX8 g a i o.2) (some (.int o.1))) (F0 m 0 ls []) from HH _ _ hH
  clear hH
  intro H locs hH
  refine lv_aload_n hx hb dX8_judge_0 rfl (lv_at hl 0 rfl) ?_
  refine f_get X hH 0 rfl rfl 0 (by decide) inX8 fX8_10 rfl dX8_judge_1 ?_
  refine lv_iload_n hx hb dX8_judge_4 rfl (lv_at hl 2 rfl) ?_
  obtain ⟨o1, ho1, h⟩ := bd_x h
  refine r_V X hH (ws1 := (wX8 g a i xs)) (As := [.int pb]) (rest := []) (st1 := [.int o1]) (uX3_isPoint (a := a) (i := (i + 1)) ho1) kX3_isPoint mX8_154 iX3_isPoint vX3_isPoint zX3 okX3_isPoint ⟨Nat.le_of_ble_eq_true rfl, Nat.le_of_ble_eq_true rfl⟩ rfl rfl (q0 := 1) rfl rfl (bX8_1) (bX8_1) rfl hl.1 rfl (Nat.le_of_ble_eq_true rfl) ⟨Nat.le_refl 0, Nat.le_refl 0⟩ rfl dX8_judge_5 (fun H locs hH => ?_)
  refine lv_if_eq (tgt := 22) hx hb dX8_judge_8 (by decide) (fun c1 => ?_) (fun c1 => ?_)
  · have h := it_x h c1
    refine lv_iconst (v := (-1 : Int32)) hx hb dX8_judge_22 (by decide) ?_
    exact pX8_judge_23 X  xs (-1 : Int32) H locs ls h hH (lv_sub hl [0, 1, 2] rfl)
  · have h := ie_x h c1
    refine lv_aload_n hx hb dX8_judge_11 rfl (lv_at hl 0 rfl) ?_
    refine f_get X hH 0 rfl rfl 12 (by decide) inX8 fX8_76 rfl dX8_judge_12 ?_
    refine lv_iload_n hx hb dX8_judge_15 rfl (lv_at hl 1 rfl) ?_
    obtain ⟨o9, ho9, h⟩ := bd_x h
    refine r_V X hH (ws1 := (wX8 g a i xs)) (As := [.int pa]) (rest := []) (st1 := [.int o9]) (uX1_refusalOf (a := a) (i := (i + 45)) ho9) kX1_refusalOf mX8_287 iX1_refusalOf vX1_refusalOf zX1 okX1_refusalOf ⟨Nat.le_of_ble_eq_true rfl, Nat.le_of_ble_eq_true rfl⟩ rfl rfl (q0 := 45) rfl rfl (bX8_11) (bX8_11) rfl hl.1 rfl (Nat.le_of_ble_eq_true rfl) ⟨Nat.le_refl 0, Nat.le_refl 0⟩ rfl dX8_judge_16 (fun H locs hH => ?_)
    refine lv_goto (tgt := 23) hx hb dX8_judge_19 (by decide) ?_
    exact pX8_judge_23 X  xs o9 H locs ls h hH (lv_sub hl [0, 1, 2] rfl)

def fX8_slot (xs : SX8) (pa : Int32) (pb : Int32) (pc_ : Int32) : Option (Int32 × SX8) :=
  (fX5_make (w_slotRows xs) pa pb pc_).bind fun o1 =>
  ltt ((w_slotRows_s xs o1.2)) fun xs1 =>
  (fX8_counted xs1 o1.1).bind fun o2 =>
  some (o2.1, o2.2)
set_option maxHeartbeats 4000000 in
set_option maxRecDepth 100000 in
theorem uX8_slot {l : Launch} {g : GG} {a : Nat → Nat} {i : Nat} {xs : SX8} {pa : Int32} {pb : Int32} {pc_ : Int32} {o : (Int32 × SX8)} (h : fX8_slot xs pa pb pc_ = some o) : mC l g yX8_slot cX8_slot 4 (some .int) (rM 2 44) [.ref (a i), .int pa, .int pb, .int pc_] (wX8 g a i xs) (wX8 g a i o.2) (some (.int o.1)) := by
  refine mC.ofW (by decide) (fun p e s m below meth c X hH ls _ hl => ?_) (Nat.le_of_ble_eq_true rfl)
  have hx := X.1
  have hb := X.2.1
  have hl : lv_has ls 4 [(0, .ref (a i)), (1, .int pa), (2, .int pb), (3, .int pc_)] := hl
  unfold fX8_slot at h
  suffices HH : ∀ (H : Heap) (locs : List Loc), mH g s (wX8 g a i xs) (wX8 g a i xs) H locs → W p l e (rM 2 44) s m _ below meth c H locs 0 0 (mZ g below _ s (wX8 g a i xs) (wX8 g a i o.2) (some (.int o.1))) (F0 m 0 ls []) from HH _ _ hH
  clear hH
  intro H locs hH
  refine lv_aload_n hx hb dX8_slot_0 rfl (lv_at hl 0 rfl) ?_
  refine lv_aload_n hx hb dX8_slot_1 rfl (lv_at hl 0 rfl) ?_
  refine f_get X hH 0 rfl rfl 13 (by decide) inX8 fX8_83 rfl dX8_slot_2 ?_
  refine lv_iload_n hx hb dX8_slot_5 rfl (lv_at hl 1 rfl) ?_
  refine lv_iload_n hx hb dX8_slot_6 rfl (lv_at hl 2 rfl) ?_
  refine lv_iload_n hx hb dX8_slot_7 rfl (lv_at hl 3 rfl) ?_
  obtain ⟨o1, ho1, h⟩ := bd_x h
  obtain ⟨xs1, exs1, h⟩ := ltt_x h
  refine r_V X hH (ws1 := (wX8 g a i xs1)) (As := [.int pa, .int pb, .int pc_]) (rest := [.ref (a i)]) (st1 := [.int o1.1, .ref (a i)]) (uX5_make (a := a) (i := (i + 51)) ho1) kX5_make mX8_295 iX5_make vX5_make zX5 okX5_make ⟨Nat.le_of_ble_eq_true rfl, Nat.le_of_ble_eq_true rfl⟩ rfl rfl (q0 := 51) rfl rfl (bX8_12) (by rw [exs1]; exact (bX8_12)) rfl hl.1 rfl (Nat.le_of_ble_eq_true rfl) ⟨Nat.le_refl 0, Nat.le_refl 0⟩ rfl dX8_slot_8 (fun H locs hH => ?_)
  obtain ⟨o2, ho2, h⟩ := bd_x h
  refine r_V X hH (ws1 := (wX8 g a i o2.2)) (As := [.int o1.1]) (rest := []) (st1 := [.int o2.1]) (uX8_counted (a := a) (i := i) ho2) kX8_counted mX8_94 iX8_counted vX8_counted zX8 okX8_counted ⟨Nat.le_of_ble_eq_true rfl, Nat.le_of_ble_eq_true rfl⟩ rfl rfl (q0 := 0) rfl rfl (pm_all _) (pm_all _) rfl hl.1 rfl (Nat.le_of_ble_eq_true rfl) ⟨Nat.le_refl 0, Nat.le_refl 0⟩ rfl dX8_slot_11 (fun H locs hH => ?_)
  have h := Option.some.inj h
  subst h
  exact e_i X hH dX8_slot_14

def qX8_slots_60 (pa : Int32) (pb : Int32) (pc_ : Int32)  (xs : SX8) (l4 : Int32) (t0 : Int32) : Option (Int32 × SX8) :=
  (fX5_lay (w_slotRows xs) pa pb l4 t0).bind fun o1 =>
  ltt ((w_slotRows_s xs o1.2)) fun xs1 =>
  (fX8_counted xs1 o1.1).bind fun o2 =>
  some (o2.1, o2.2)
def qX8_slots_40 (pa : Int32) (pb : Int32) (pc_ : Int32)  (xs : SX8) (t0 : Int32) : Option (Int32 × SX8) :=
  (if pc_ = (-1 : Int32) then
  qX8_slots_60 pa pb pc_ xs t0 (0 : Int32)
  else
  ga 11 pc_ fun j2 =>
  qX8_slots_60 pa pb pc_ xs t0 ((n_figures (w_net xs)) j2))
def qX8_slots_22 (pa : Int32) (pb : Int32) (pc_ : Int32)  (xs : SX8) : Option (Int32 × SX8) :=
  (if pc_ = (-1 : Int32) then
  qX8_slots_40 pa pb pc_ xs (-1 : Int32)
  else
  ga 11 pc_ fun j1 =>
  qX8_slots_40 pa pb pc_ xs ((n_kinds (w_net xs)) j1))
def fX8_slots (xs : SX8) (pa : Int32) (pb : Int32) (pc_ : Int32) : Option (Int32 × SX8) :=
  (if pc_ = (-1 : Int32) then
  qX8_slots_22 pa pb pc_ xs
  else
  (fX3_isWay (w_net xs) pc_).bind fun o3 =>
  (if o3 = (0 : Int32) then
  (fX8_counted xs (-1 : Int32)).bind fun o4 =>
  some (o4.1, o4.2)
  else
  qX8_slots_22 pa pb pc_ xs))
set_option maxHeartbeats 4000000 in
set_option maxRecDepth 100000 in
theorem pX8_slots_60 {p : Program} {l : Launch} {e : Env} {s : State} {m : MethodId} {args : Array Value} {below : List Frame} {meth : Method} {c : Code} {g : GG} {w0 : va_W} {a : Nat → Nat} {i : Nat} {pa : Int32} {pb : Int32} {pc_ : Int32} {o : (Int32 × SX8)} (X : mX g yX8_slots cX8_slots 6 (some .int) p s m args meth c w0) :
  ∀ (xs : SX8) (l4 : Int32) (t0 : Int32) (H : Heap) (locs : List Loc) (ls : Array Slot), qX8_slots_60 pa pb pc_ xs l4 t0 = some o → mH g s w0 (wX8 g a i xs) H locs → lv_has ls 6 [(0, .ref (a i)), (1, .int pa), (2, .int pb), (3, .int pc_), (4, .int l4)] → W p l e (rM 3 68) s m args below meth c H locs 0 0 (mZ g below args s w0 (wX8 g a i o.2) (some (.int o.1))) (F0 m 60 ls [.int t0]) := by
  have hx := X.1
  have hb := X.2.1
  intro xs l4 t0 H locs ls h hH hl
  unfold qX8_slots_60 at h
  refine s_i X (lv' := [(5, .int t0), (0, .ref (a i)), (1, .int pa), (2, .int pb), (3, .int pc_), (4, .int l4)]) hl rfl dX8_slots_60 (by decide) rfl (fun ls hl => ?_)
  refine lv_aload_n hx hb dX8_slots_62 rfl (lv_at hl 1 rfl) ?_
  refine lv_aload_n hx hb dX8_slots_63 rfl (lv_at hl 1 rfl) ?_
  refine f_get X hH 0 rfl rfl 13 (by decide) inX8 fX8_83 rfl dX8_slots_64 ?_
  refine lv_iload_n hx hb dX8_slots_67 rfl (lv_at hl 2 rfl) ?_
  refine lv_iload_n hx hb dX8_slots_68 rfl (lv_at hl 3 rfl) ?_
  refine lv_iload hx hb dX8_slots_69 (lv_at hl 5 rfl) ?_
  refine lv_iload hx hb dX8_slots_71 (lv_at hl 0 rfl) ?_
  obtain ⟨o1, ho1, h⟩ := bd_x h
  obtain ⟨xs1, exs1, h⟩ := ltt_x h
  refine r_V X hH (ws1 := (wX8 g a i xs1)) (As := [.int pa, .int pb, .int l4, .int t0]) (rest := [.ref (a i)]) (st1 := [.int o1.1, .ref (a i)]) (uX5_lay (a := a) (i := (i + 51)) ho1) kX5_lay mX8_297 iX5_lay vX5_lay zX5 okX5_lay ⟨Nat.le_of_ble_eq_true rfl, Nat.le_of_ble_eq_true rfl⟩ rfl rfl (q0 := 51) rfl rfl (bX8_12) (by rw [exs1]; exact (bX8_12)) rfl hl.1 rfl (Nat.le_of_ble_eq_true rfl) ⟨Nat.le_refl 0, Nat.le_refl 0⟩ rfl dX8_slots_73 (fun H locs hH => ?_)
  obtain ⟨o2, ho2, h⟩ := bd_x h
  refine r_V X hH (ws1 := (wX8 g a i o2.2)) (As := [.int o1.1]) (rest := []) (st1 := [.int o2.1]) (uX8_counted (a := a) (i := i) ho2) kX8_counted mX8_94 iX8_counted vX8_counted zX8 okX8_counted ⟨Nat.le_of_ble_eq_true rfl, Nat.le_of_ble_eq_true rfl⟩ rfl rfl (q0 := 0) rfl rfl (pm_all _) (pm_all _) rfl hl.1 rfl (Nat.le_of_ble_eq_true rfl) ⟨Nat.le_refl 0, Nat.le_refl 0⟩ rfl dX8_slots_76 (fun H locs hH => ?_)
  have h := Option.some.inj h
  subst h
  exact e_i X hH dX8_slots_79
set_option maxHeartbeats 4000000 in
set_option maxRecDepth 100000 in
theorem pX8_slots_40 {p : Program} {l : Launch} {e : Env} {s : State} {m : MethodId} {args : Array Value} {below : List Frame} {meth : Method} {c : Code} {g : GG} {w0 : va_W} {a : Nat → Nat} {i : Nat} {pa : Int32} {pb : Int32} {pc_ : Int32} {o : (Int32 × SX8)} (X : mX g yX8_slots cX8_slots 6 (some .int) p s m args meth c w0) :
  ∀ (xs : SX8) (t0 : Int32) (H : Heap) (locs : List Loc) (ls : Array Slot), qX8_slots_40 pa pb pc_ xs t0 = some o → mH g s w0 (wX8 g a i xs) H locs → lv_has ls 6 [(0, .ref (a i)), (1, .int pa), (2, .int pb), (3, .int pc_)] → W p l e (rM 3 68) s m args below meth c H locs 0 0 (mZ g below args s w0 (wX8 g a i o.2) (some (.int o.1))) (F0 m 40 ls [.int t0]) := by
  have hx := X.1
  have hb := X.2.1
  intro xs t0 H locs ls h hH hl
  unfold qX8_slots_40 at h
  refine s_i X (lv' := [(4, .int t0), (0, .ref (a i)), (1, .int pa), (2, .int pb), (3, .int pc_)]) hl rfl dX8_slots_40 (by decide) rfl (fun ls hl => ?_)
  refine lv_iload_n hx hb dX8_slots_42 rfl (lv_at hl 4 rfl) ?_
  refine lv_iconst (v := (-1 : Int32)) hx hb dX8_slots_43 (by decide) ?_
  refine lv_icmp_ne (tgt := 51) hx hb dX8_slots_44 (by decide) (fun c3 => ?_) (fun c3 => ?_)
  · have h := ie_x h c3
    refine lv_aload_n hx hb dX8_slots_51 rfl (lv_at hl 1 rfl) ?_
    refine f_get X hH 0 rfl rfl 0 (by decide) inX8 fX8_10 rfl dX8_slots_52 ?_
    refine f_get X hH 1 rfl rfl 5 (by decide) inX3 fX8_139 rfl dX8_slots_55 ?_
    refine lv_iload_n hx hb dX8_slots_58 rfl (lv_at hl 4 rfl) ?_
    obtain ⟨j2, ej2, hinj2, h⟩ := ga_x h
    refine a_il X hH 5 rfl hinj2 ej2 dX8_slots_59 ?_
    exact pX8_slots_60 X  xs t0 ((n_figures (w_net xs)) j2) H locs ls h hH (lv_sub hl [1, 2, 3, 4, 0] rfl)
  · have h := it_x h c3
    refine lv_iconst (v := (0 : Int32)) hx hb dX8_slots_47 (by decide) ?_
    refine lv_goto (tgt := 60) hx hb dX8_slots_48 (by decide) ?_
    exact pX8_slots_60 X  xs t0 (0 : Int32) H locs ls h hH (lv_sub hl [1, 2, 3, 4, 0] rfl)
set_option maxHeartbeats 4000000 in
set_option maxRecDepth 100000 in
theorem pX8_slots_22 {p : Program} {l : Launch} {e : Env} {s : State} {m : MethodId} {args : Array Value} {below : List Frame} {meth : Method} {c : Code} {g : GG} {w0 : va_W} {a : Nat → Nat} {i : Nat} {pa : Int32} {pb : Int32} {pc_ : Int32} {o : (Int32 × SX8)} (X : mX g yX8_slots cX8_slots 6 (some .int) p s m args meth c w0) :
  ∀ (xs : SX8) (H : Heap) (locs : List Loc) (ls : Array Slot), qX8_slots_22 pa pb pc_ xs = some o → mH g s w0 (wX8 g a i xs) H locs → lv_has ls 6 [(0, .ref (a i)), (1, .int pa), (2, .int pb), (3, .int pc_)] → W p l e (rM 3 68) s m args below meth c H locs 0 0 (mZ g below args s w0 (wX8 g a i o.2) (some (.int o.1))) (F0 m 22 ls []) := by
  have hx := X.1
  have hb := X.2.1
  intro xs H locs ls h hH hl
  unfold qX8_slots_22 at h
  refine lv_iload_n hx hb dX8_slots_22 rfl (lv_at hl 3 rfl) ?_
  refine lv_iconst (v := (-1 : Int32)) hx hb dX8_slots_23 (by decide) ?_
  refine lv_icmp_ne (tgt := 31) hx hb dX8_slots_24 (by decide) (fun c2 => ?_) (fun c2 => ?_)
  · have h := ie_x h c2
    refine lv_aload_n hx hb dX8_slots_31 rfl (lv_at hl 0 rfl) ?_
    refine f_get X hH 0 rfl rfl 0 (by decide) inX8 fX8_10 rfl dX8_slots_32 ?_
    refine f_get X hH 1 rfl rfl 4 (by decide) inX3 fX8_136 rfl dX8_slots_35 ?_
    refine lv_iload_n hx hb dX8_slots_38 rfl (lv_at hl 3 rfl) ?_
    obtain ⟨j1, ej1, hinj1, h⟩ := ga_x h
    refine a_il X hH 4 rfl hinj1 ej1 dX8_slots_39 ?_
    exact pX8_slots_40 X  xs ((n_kinds (w_net xs)) j1) H locs ls h hH (lv_sub hl [0, 1, 2, 3] rfl)
  · have h := it_x h c2
    refine lv_iconst (v := (-1 : Int32)) hx hb dX8_slots_27 (by decide) ?_
    refine lv_goto (tgt := 40) hx hb dX8_slots_28 (by decide) ?_
    exact pX8_slots_40 X  xs (-1 : Int32) H locs ls h hH (lv_sub hl [0, 1, 2, 3] rfl)
set_option maxHeartbeats 4000000 in
set_option maxRecDepth 100000 in
theorem uX8_slots {l : Launch} {g : GG} {a : Nat → Nat} {i : Nat} {xs : SX8} {pa : Int32} {pb : Int32} {pc_ : Int32} {o : (Int32 × SX8)} (h : fX8_slots xs pa pb pc_ = some o) : mC l g yX8_slots cX8_slots 6 (some .int) (rM 3 68) [.ref (a i), .int pa, .int pb, .int pc_] (wX8 g a i xs) (wX8 g a i o.2) (some (.int o.1)) := by
  refine mC.ofW (by decide) (fun p e s m below meth c X hH ls _ hl => ?_) (Nat.le_of_ble_eq_true rfl)
  have hx := X.1
  have hb := X.2.1
  have hl : lv_has ls 6 [(0, .ref (a i)), (1, .int pa), (2, .int pb), (3, .int pc_)] := hl
  unfold fX8_slots at h
  suffices HH : ∀ (H : Heap) (locs : List Loc), mH g s (wX8 g a i xs) (wX8 g a i xs) H locs → W p l e (rM 3 68) s m _ below meth c H locs 0 0 (mZ g below _ s (wX8 g a i xs) (wX8 g a i o.2) (some (.int o.1))) (F0 m 0 ls []) from HH _ _ hH
  clear hH
  intro H locs hH
  refine lv_iload_n hx hb dX8_slots_0 rfl (lv_at hl 3 rfl) ?_
  refine lv_iconst (v := (-1 : Int32)) hx hb dX8_slots_1 (by decide) ?_
  refine lv_icmp_eq (tgt := 22) hx hb dX8_slots_2 (by decide) (fun c1 => ?_) (fun c1 => ?_)
  · have h := it_x h c1
    exact pX8_slots_22 X  xs H locs ls h hH (lv_sub hl [0, 1, 2, 3] rfl)
  · have h := ie_x h c1
    refine lv_aload_n hx hb dX8_slots_5 rfl (lv_at hl 0 rfl) ?_
    refine f_get X hH 0 rfl rfl 0 (by decide) inX8 fX8_10 rfl dX8_slots_6 ?_
    refine lv_iload_n hx hb dX8_slots_9 rfl (lv_at hl 3 rfl) ?_
    obtain ⟨o3, ho3, h⟩ := bd_x h
    refine r_V X hH (ws1 := (wX8 g a i xs)) (As := [.int pc_]) (rest := []) (st1 := [.int o3]) (uX3_isWay (a := a) (i := (i + 1)) ho3) kX3_isWay mX8_126 iX3_isWay vX3_isWay zX3 okX3_isWay ⟨Nat.le_of_ble_eq_true rfl, Nat.le_of_ble_eq_true rfl⟩ rfl rfl (q0 := 1) rfl rfl (bX8_1) (bX8_1) rfl hl.1 rfl (Nat.le_of_ble_eq_true rfl) ⟨Nat.le_refl 0, Nat.le_refl 0⟩ rfl dX8_slots_10 (fun H locs hH => ?_)
    refine lv_if_ne (tgt := 22) hx hb dX8_slots_13 (by decide) (fun c4 => ?_) (fun c4 => ?_)
    · have h := ie_x h c4
      exact pX8_slots_22 X  xs H locs ls h hH (lv_sub hl [0, 1, 2, 3] rfl)
    · have h := it_x h c4
      refine lv_aload_n hx hb dX8_slots_16 rfl (lv_at hl 0 rfl) ?_
      refine lv_iconst (v := (-1 : Int32)) hx hb dX8_slots_17 (by decide) ?_
      obtain ⟨o4, ho4, h⟩ := bd_x h
      refine r_V X hH (ws1 := (wX8 g a i o4.2)) (As := [.int (-1 : Int32)]) (rest := []) (st1 := [.int o4.1]) (uX8_counted (a := a) (i := i) ho4) kX8_counted mX8_94 iX8_counted vX8_counted zX8 okX8_counted ⟨Nat.le_of_ble_eq_true rfl, Nat.le_of_ble_eq_true rfl⟩ rfl rfl (q0 := 0) rfl rfl (pm_all _) (pm_all _) rfl hl.1 rfl (Nat.le_of_ble_eq_true rfl) ⟨Nat.le_refl 0, Nat.le_refl 0⟩ rfl dX8_slots_18 (fun H locs hH => ?_)
      have h := Option.some.inj h
      subst h
      exact e_i X hH dX8_slots_21
