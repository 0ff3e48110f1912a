def fX9_findResistance (xs : SX9) (pa : Int32) (pb : Int32) : Option (Int32 × SX9) :=
  ltt ((m_up_s xs (0 : Int64))) fun xs1 =>
  ltt ((m_down_s xs1 (1 : Int64))) fun xs2 =>
  (if pa = pb then
  some ((1 : Int32), xs2)
  else
  (fX9_reach xs2 pa).bind fun o1 =>
  (fX9_has o1 pb).bind fun o2 =>
  (if o2 = (0 : Int32) then
  some ((0 : Int32), xs2)
  else
  (fX9_findDown xs2 pb).bind fun o3 =>
  (fX9_share o3 pa pb pa).bind fun o4 =>
  ltt ((m_up_s o4.2 o4.1)) fun xs3 =>
  some ((1 : Int32), xs3)))
set_option maxHeartbeats 4000000 in
set_option maxRecDepth 100000 in
theorem uX9_findResistance {l : Launch} {g : GG} {a : Nat → Nat} {i : Nat} {xs : SX9} {pa : Int32} {pb : Int32} {o : (Int32 × SX9)} (h : fX9_findResistance xs pa pb = some o) : mC l g yX9_findResistance cX9_findResistance 3 (some .boolean) (rM 5 114) [.ref (a i), .int pa, .int pb] (wX9 g a i xs) (wX9 g a i o.2) (some (.int o.1)) := by
  refine mC.ofW (by decide) (fun p e s m below meth c X hH ls _ hl => ?_) (Nat.le_of_ble_eq_true rfl)
  have hx := X.1
  have hb := X.2.1
  have hl : lv_has ls 3 [(0, .ref (a i)), (1, .int pa), (2, .int pb)] := hl
  unfold fX9_findResistance at h
  suffices HH : ∀ (H : Heap) (locs : List Loc), mH g s (wX9 g a i xs) (wX9 g a i xs) H locs → W p l e (rM 5 114) s m _ below meth c H locs 0 0 (mZ g below _ s (wX9 g a i xs) (wX9 g a i o.2) (some (.int o.1))) (F0 m 0 ls []) from HH _ _ hH
  clear hH
  intro H locs hH
  refine lv_aload_n hx hb dX9_findResistance_0 rfl (lv_at hl 0 rfl) ?_
  refine lv_lconst (v := (0 : Int64)) hx hb dX9_findResistance_1 (by decide) ?_
  obtain ⟨xs1, exs1, h⟩ := ltt_x h
  refine f_put X hH (ws1 := (wX9 g a i xs1)) 0 rfl rfl 26 (by decide) inX9 tyX9 tyX9_ok nmX9 fX9_248 rfl rfl rfl (Nat.le_of_ble_eq_true rfl) (by rw [exs1]; rfl) dX9_findResistance_2 (fun H locs hH => ?_)
  refine lv_aload_n hx hb dX9_findResistance_5 rfl (lv_at hl 0 rfl) ?_
  refine lv_lconst (v := (1 : Int64)) hx hb dX9_findResistance_6 (by decide) ?_
  obtain ⟨xs2, exs2, h⟩ := ltt_x h
  refine f_put X hH (ws1 := (wX9 g a i xs2)) 0 rfl rfl 27 (by decide) inX9 tyX9 tyX9_ok nmX9 fX9_252 rfl rfl rfl (Nat.le_of_ble_eq_true rfl) (by rw [exs2]; rfl) dX9_findResistance_7 (fun H locs hH => ?_)
  refine lv_iload_n hx hb dX9_findResistance_10 rfl (lv_at hl 1 rfl) ?_
  refine lv_iload_n hx hb dX9_findResistance_11 rfl (lv_at hl 2 rfl) ?_
  refine lv_icmp_ne (tgt := 17) hx hb dX9_findResistance_12 (by decide) (fun c1 => ?_) (fun c1 => ?_)
  · have h := ie_x h c1
    refine lv_aload_n hx hb dX9_findResistance_17 rfl (lv_at hl 0 rfl) ?_
    refine lv_iload_n hx hb dX9_findResistance_18 rfl (lv_at hl 1 rfl) ?_
    obtain ⟨o1, ho1, h⟩ := bd_x h
    refine r_V X hH (ws1 := (wX9 g a i xs2)) (As := [.int pa]) (rest := []) (st1 := [.int o1]) (uX9_reach (a := a) (i := i) ho1) kX9_reach mX9_233 iX9_reach vX9_reach zX9 okX9_reach ⟨Nat.le_of_ble_eq_true rfl, Nat.le_of_ble_eq_true rfl⟩ rfl rfl (q0 := 0) rfl rfl [0, 1, 2, 3, 4, 5, 6, 7, 8, 9, 10, 11, 12, 13, 14, 15, 16, 17, 18, 19, 20, 21, 22, 23, 24, 25, 26, 27, 28, 29, 30, 31, 32, 33] rfl rfl rfl (putl_self _ _ rfl) rfl hl.1 rfl (Nat.le_of_ble_eq_true rfl) ⟨Nat.le_refl 0, Nat.le_refl 0⟩ rfl dX9_findResistance_19 (fun H locs hH => ?_)
    refine lv_iload_n hx hb dX9_findResistance_22 rfl (lv_at hl 2 rfl) ?_
    obtain ⟨o2, ho2, h⟩ := bd_x h
    refine r_S X hH (ws1 := (wX9 g a i xs2)) (As := [.int o1, .int pb]) (rest := []) (st1 := [.int o2]) (uX9_has  ho2) kX9_has mX9_226 sX9_has zX9 okX9_has ⟨Nat.le_of_ble_eq_true rfl, Nat.le_of_ble_eq_true rfl⟩ rfl rfl [] rfl rfl rfl (putl_self _ _ rfl) rfl hl.1 rfl (Nat.le_of_ble_eq_true rfl) ⟨Nat.le_refl 0, Nat.le_refl 0⟩ rfl dX9_findResistance_23 (fun H locs hH => ?_)
    refine lv_if_ne (tgt := 31) hx hb dX9_findResistance_26 (by decide) (fun c2 => ?_) (fun c2 => ?_)
    · have h := ie_x h c2
      refine lv_aload_n hx hb dX9_findResistance_31 rfl (lv_at hl 0 rfl) ?_
      refine lv_iload_n hx hb dX9_findResistance_32 rfl (lv_at hl 2 rfl) ?_
      obtain ⟨o3, ho3, h⟩ := bd_x h
      refine r_V X hH (ws1 := (wX9 g a i o3)) (As := [.int pb]) (rest := []) (st1 := []) (uX9_findDown (a := a) (i := i) ho3) kX9_findDown mX9_296 iX9_findDown vX9_findDown zX9 okX9_findDown ⟨Nat.le_of_ble_eq_true rfl, Nat.le_of_ble_eq_true rfl⟩ rfl rfl (q0 := 0) rfl rfl [0, 1, 2, 3, 4, 5, 6, 7, 8, 9, 10, 11, 12, 13, 14, 15, 16, 17, 18, 19, 20, 21, 22, 23, 24, 25, 26, 27, 28, 29, 30, 31, 32, 33] rfl rfl rfl rfl rfl hl.1 rfl (Nat.le_of_ble_eq_true rfl) ⟨Nat.le_refl 0, Nat.le_refl 0⟩ rfl dX9_findResistance_33 (fun H locs hH => ?_)
      refine lv_aload_n hx hb dX9_findResistance_36 rfl (lv_at hl 0 rfl) ?_
      refine lv_aload_n hx hb dX9_findResistance_37 rfl (lv_at hl 0 rfl) ?_
      refine lv_iload_n hx hb dX9_findResistance_38 rfl (lv_at hl 1 rfl) ?_
      refine lv_iload_n hx hb dX9_findResistance_39 rfl (lv_at hl 2 rfl) ?_
      refine lv_iload_n hx hb dX9_findResistance_40 rfl (lv_at hl 1 rfl) ?_
      obtain ⟨o4, ho4, h⟩ := bd_x h
      refine r_V X hH (ws1 := (wX9 g a i o4.2)) (As := [.int pa, .int pb, .int pa]) (rest := [.ref (a i)]) (st1 := [.long o4.1, .ref (a i)]) (uX9_share (a := a) (i := i) ho4) kX9_share mX9_299 iX9_share vX9_share zX9 okX9_share ⟨Nat.le_of_ble_eq_true rfl, Nat.le_of_ble_eq_true rfl⟩ rfl rfl (q0 := 0) rfl rfl [0, 1, 2, 3, 4, 5, 6, 7, 8, 9, 10, 11, 12, 13, 14, 15, 16, 17, 18, 19, 20, 21, 22, 23, 24, 25, 26, 27, 28, 29, 30, 31, 32, 33] rfl rfl rfl rfl rfl hl.1 rfl (Nat.le_of_ble_eq_true rfl) ⟨Nat.le_refl 0, Nat.le_refl 0⟩ rfl dX9_findResistance_41 (fun H locs hH => ?_)
      obtain ⟨xs3, exs3, h⟩ := ltt_x h
      refine f_put X hH (ws1 := (wX9 g a i xs3)) 0 rfl rfl 26 (by decide) inX9 tyX9 tyX9_ok nmX9 fX9_248 rfl rfl rfl (Nat.le_of_ble_eq_true rfl) (by rw [exs3]; rfl) dX9_findResistance_44 (fun H locs hH => ?_)
      refine lv_iconst (v := (1 : Int32)) hx hb dX9_findResistance_47 (by decide) ?_
      cases h
      exact e_z X hH (by decide) dX9_findResistance_48
    · have h := it_x h c2
      refine lv_iconst (v := (0 : Int32)) hx hb dX9_findResistance_29 (by decide) ?_
      cases h
      exact e_z X hH (by decide) dX9_findResistance_30
  · have h := it_x h c1
    refine lv_iconst (v := (1 : Int32)) hx hb dX9_findResistance_15 (by decide) ?_
    cases h
    exact e_z X hH (by decide) dX9_findResistance_16

def fX9_resistance (xs : SX9) (pa : Int32) (pb : Int32) (pc_ : Int32) : Option (Int64 × SX9) :=
  (fX9_notTwo xs pa pb pc_).bind fun o1 =>
  (if o1 = (0 : Int32) then
  (fX9_allThere xs).bind fun o2 =>
  (fX9_findResistance o2 pa pb).bind fun o3 =>
  (if o3.1 = (0 : Int32) then
  (fX9_far o3.2 (-3 : Int32)).bind fun o4 =>
  some (o4.1, o4.2)
  else
  (fX9_partOf (m_up o3.2) (m_down o3.2) pc_).bind fun o5 =>
  some (o5, o3.2))
  else
  (fX9_far xs o1).bind fun o6 =>
  some (o6.1, o6.2))
set_option maxHeartbeats 4000000 in
set_option maxRecDepth 100000 in
theorem uX9_resistance {l : Launch} {g : GG} {a : Nat → Nat} {i : Nat} {xs : SX9} {pa : Int32} {pb : Int32} {pc_ : Int32} {o : (Int64 × SX9)} (h : fX9_resistance xs pa pb pc_ = some o) : mC l g yX9_resistance cX9_resistance 5 (some .long) (rM 6 136) [.ref (a i), .int pa, .int pb, .int pc_] (wX9 g a i xs) (wX9 g a i o.2) (some (.long o.1)) := by
  refine mC.ofW (by decide) (fun p e s m below meth c X hH ls _ hl => ?_) (Nat.le_of_ble_eq_true rfl)
  have hx := X.1
  have hb := X.2.1
  have hl : lv_has ls 5 [(0, .ref (a i)), (1, .int pa), (2, .int pb), (3, .int pc_)] := hl
  unfold fX9_resistance at h
  suffices HH : ∀ (H : Heap) (locs : List Loc), mH g s (wX9 g a i xs) (wX9 g a i xs) H locs → W p l e (rM 6 136) s m _ below meth c H locs 0 0 (mZ g below _ s (wX9 g a i xs) (wX9 g a i o.2) (some (.long o.1))) (F0 m 0 ls []) from HH _ _ hH
  clear hH
  intro H locs hH
  refine lv_aload_n hx hb dX9_resistance_0 rfl (lv_at hl 0 rfl) ?_
  refine lv_iload_n hx hb dX9_resistance_1 rfl (lv_at hl 1 rfl) ?_
  refine lv_iload_n hx hb dX9_resistance_2 rfl (lv_at hl 2 rfl) ?_
  refine lv_iload_n hx hb dX9_resistance_3 rfl (lv_at hl 3 rfl) ?_
  obtain ⟨o1, ho1, h⟩ := bd_x h
  refine r_V X hH (ws1 := (wX9 g a i xs)) (As := [.int pa, .int pb, .int pc_]) (rest := []) (st1 := [.int o1]) (uX9_notTwo (a := a) (i := i) ho1) kX9_notTwo mX9_269 iX9_notTwo vX9_notTwo zX9 okX9_notTwo ⟨Nat.le_of_ble_eq_true rfl, Nat.le_of_ble_eq_true rfl⟩ rfl rfl (q0 := 0) rfl rfl [0, 1, 2, 3, 4, 5, 6, 7, 8, 9, 10, 11, 12, 13, 14, 15, 16, 17, 18, 19, 20, 21, 22, 23, 24, 25, 26, 27, 28, 29, 30, 31, 32, 33] rfl rfl rfl (putl_self _ _ rfl) rfl hl.1 rfl (Nat.le_of_ble_eq_true rfl) ⟨Nat.le_refl 0, Nat.le_refl 0⟩ rfl dX9_resistance_4 (fun H locs hH => ?_)
  refine s_i X (lv' := [(4, .int o1), (0, .ref (a i)), (1, .int pa), (2, .int pb), (3, .int pc_)]) hl rfl dX9_resistance_7 (by decide) rfl (fun ls hl => ?_)
  refine lv_iload hx hb dX9_resistance_9 (lv_at hl 0 rfl) ?_
  refine lv_if_eq (tgt := 21) hx hb dX9_resistance_11 (by decide) (fun c1 => ?_) (fun c1 => ?_)
  · have h := it_x h c1
    refine lv_aload_n hx hb dX9_resistance_21 rfl (lv_at hl 1 rfl) ?_
    obtain ⟨o2, ho2, h⟩ := bd_x h
    refine r_V X hH (ws1 := (wX9 g a i o2)) (As := []) (rest := []) (st1 := []) (uX9_allThere (a := a) (i := i) ho2) kX9_allThere mX9_230 iX9_allThere vX9_allThere zX9 okX9_allThere ⟨Nat.le_of_ble_eq_true rfl, Nat.le_of_ble_eq_true rfl⟩ rfl rfl (q0 := 0) rfl rfl [0, 1, 2, 3, 4, 5, 6, 7, 8, 9, 10, 11, 12, 13, 14, 15, 16, 17, 18, 19, 20, 21, 22, 23, 24, 25, 26, 27, 28, 29, 30, 31, 32, 33] rfl rfl rfl rfl rfl hl.1 rfl (Nat.le_of_ble_eq_true rfl) ⟨Nat.le_refl 0, Nat.le_refl 0⟩ rfl dX9_resistance_22 (fun H locs hH => ?_)
    refine lv_aload_n hx hb dX9_resistance_25 rfl (lv_at hl 1 rfl) ?_
    refine lv_iload_n hx hb dX9_resistance_26 rfl (lv_at hl 2 rfl) ?_
    refine lv_iload_n hx hb dX9_resistance_27 rfl (lv_at hl 3 rfl) ?_
    obtain ⟨o3, ho3, h⟩ := bd_x h
    refine r_V X hH (ws1 := (wX9 g a i o3.2)) (As := [.int pa, .int pb]) (rest := []) (st1 := [.int o3.1]) (uX9_findResistance (a := a) (i := i) ho3) kX9_findResistance mX9_303 iX9_findResistance vX9_findResistance zX9 okX9_findResistance ⟨Nat.le_of_ble_eq_true rfl, Nat.le_of_ble_eq_true rfl⟩ rfl rfl (q0 := 0) rfl rfl [0, 1, 2, 3, 4, 5, 6, 7, 8, 9, 10, 11, 12, 13, 14, 15, 16, 17, 18, 19, 20, 21, 22, 23, 24, 25, 26, 27, 28, 29, 30, 31, 32, 33] rfl rfl rfl rfl rfl hl.1 rfl (Nat.le_of_ble_eq_true rfl) ⟨Nat.le_refl 0, Nat.le_refl 0⟩ rfl dX9_resistance_28 (fun H locs hH => ?_)
    refine lv_if_eq (tgt := 49) hx hb dX9_resistance_31 (by decide) (fun c2 => ?_) (fun c2 => ?_)
    · have h := it_x h c2
      refine lv_aload_n hx hb dX9_resistance_49 rfl (lv_at hl 1 rfl) ?_
      refine lv_bipush (v := (-3 : Int32)) hx hb dX9_resistance_50 (by decide) ?_
      obtain ⟨o4, ho4, h⟩ := bd_x h
      refine r_V X hH (ws1 := (wX9 g a i o4.2)) (As := [.int (-3 : Int32)]) (rest := []) (st1 := [.long o4.1]) (uX9_far (a := a) (i := i) ho4) kX9_far mX9_272 iX9_far vX9_far zX9 okX9_far ⟨Nat.le_of_ble_eq_true rfl, Nat.le_of_ble_eq_true rfl⟩ rfl rfl (q0 := 0) rfl rfl [0, 1, 2, 3, 4, 5, 6, 7, 8, 9, 10, 11, 12, 13, 14, 15, 16, 17, 18, 19, 20, 21, 22, 23, 24, 25, 26, 27, 28, 29, 30, 31, 32, 33] rfl rfl rfl rfl rfl hl.1 rfl (Nat.le_of_ble_eq_true rfl) ⟨Nat.le_refl 0, Nat.le_refl 0⟩ rfl dX9_resistance_52 (fun H locs hH => ?_)
      cases h
      exact e_l X hH dX9_resistance_55
    · have h := ie_x h c2
      refine lv_aload_n hx hb dX9_resistance_34 rfl (lv_at hl 1 rfl) ?_
      refine f_get X hH 0 rfl rfl 26 (by decide) inX9 fX9_248 rfl dX9_resistance_35 ?_
      refine lv_aload_n hx hb dX9_resistance_38 rfl (lv_at hl 1 rfl) ?_
      refine f_get X hH 0 rfl rfl 27 (by decide) inX9 fX9_252 rfl dX9_resistance_39 ?_
      refine lv_iload_n hx hb dX9_resistance_42 rfl (lv_at hl 4 rfl) ?_
      obtain ⟨o5, ho5, h⟩ := bd_x h
      refine r_S X hH (ws1 := (wX9 g a i o3.2)) (As := [.long (m_up o3.2), .long (m_down o3.2), .int pc_]) (rest := []) (st1 := [.long o5]) (uX9_partOf  ho5) kX9_partOf mX9_279 sX9_partOf zX9 okX9_partOf ⟨Nat.le_of_ble_eq_true rfl, Nat.le_of_ble_eq_true rfl⟩ rfl rfl [] rfl rfl rfl (putl_self _ _ rfl) rfl hl.1 rfl (Nat.le_of_ble_eq_true rfl) ⟨Nat.le_refl 0, Nat.le_refl 0⟩ rfl dX9_resistance_43 (fun H locs hH => ?_)
      refine lv_goto (tgt := 55) hx hb dX9_resistance_46 (by decide) ?_
      cases h
      exact e_l X hH dX9_resistance_55
  · have h := ie_x h c1
    refine lv_aload_n hx hb dX9_resistance_14 rfl (lv_at hl 1 rfl) ?_
    refine lv_iload hx hb dX9_resistance_15 (lv_at hl 0 rfl) ?_
    obtain ⟨o6, ho6, h⟩ := bd_x h
    refine r_V X hH (ws1 := (wX9 g a i o6.2)) (As := [.int o1]) (rest := []) (st1 := [.long o6.1]) (uX9_far (a := a) (i := i) ho6) kX9_far mX9_272 iX9_far vX9_far zX9 okX9_far ⟨Nat.le_of_ble_eq_true rfl, Nat.le_of_ble_eq_true rfl⟩ rfl rfl (q0 := 0) rfl rfl [0, 1, 2, 3, 4, 5, 6, 7, 8, 9, 10, 11, 12, 13, 14, 15, 16, 17, 18, 19, 20, 21, 22, 23, 24, 25, 26, 27, 28, 29, 30, 31, 32, 33] rfl rfl rfl rfl rfl hl.1 rfl (Nat.le_of_ble_eq_true rfl) ⟨Nat.le_refl 0, Nat.le_refl 0⟩ rfl dX9_resistance_17 (fun H locs hH => ?_)
    cases h
    exact e_l X hH dX9_resistance_20

def qX9_ahead_16 (pa : Int32) (pb : Int32) (pc_ : Int32) (pd : Int32)  (xs : SX9) : Option (Int64 × SX9) :=
  (fX9_far xs (-1 : Int32)).bind fun o2 =>
  some (o2.1, o2.2)
def qX9_ahead_94 (pa : Int32) (pb : Int32) (pc_ : Int32) (pd : Int32)  (xs : SX9) : Option (Int64 × SX9) :=
  (fX9_far xs (-3 : Int32)).bind fun o8 =>
  some (o8.1, o8.2)
def qX9_ahead_139 (pa : Int32) (pb : Int32) (pc_ : Int32) (pd : Int32)  : Nat → SX9 → Int32 → Option (Int64 × SX9)
  | 0, _, _ => none
  | fu + 1, xs, l6 =>
  (if (m_innerMany xs) ≤ l6 then
  (fX9_columnOf xs pa).bind fun o11 =>
  (fX9_det xs o11).bind fun o12 =>
  (fX9_det o12.2 (-1 : Int32)).bind fun o13 =>
  (fX9_partOf o12.1 o13.1 pd).bind fun o14 =>
  some (o14, o13.2)
  else
  ga 6 l6 fun j1 =>
  (fX9_between xs ((m_inner xs) j1) pc_).bind fun o15 =>
  ga 6 l6 fun j2 =>
  ltt ((m_right_s xs (vp_updL (m_right xs) j2 (o15.toInt64)))) fun xs1 =>
  ltt (l6 + (1 : Int32)) fun v1 =>
  qX9_ahead_139 pa pb pc_ pd  fu xs1 v1)
def qX9_ahead_120 (pa : Int32) (pb : Int32) (pc_ : Int32) (pd : Int32)  (xs : SX9) : Option (Int64 × SX9) :=
  some ((1 : Int64), xs)
def fX9_ahead (xs : SX9) (pa : Int32) (pb : Int32) (pc_ : Int32) (pd : Int32) : Option (Int64 × SX9) :=
  (fX9_isPoint xs pa).bind fun o1 =>
  (if o1 = (0 : Int32) then
  qX9_ahead_16 pa pb pc_ pd xs
  else
  (fX9_isPoint xs pc_).bind fun o3 =>
  (if o3 = (0 : Int32) then
  qX9_ahead_16 pa pb pc_ pd xs
  else
  (if (0 : Int32) ≤ pb then
  (if pb < ((1 : Int32) <<< ((m_points xs) &&& 31)) then
  (fX9_isIn (pd.toInt64) (0 : Int64) (1 : Int64)).bind fun o4 =>
  (if o4 = (0 : Int32) then
  (fX9_far xs (-2 : Int32)).bind fun o16 =>
  some (o16.1, o16.2)
  else
  (fX9_allThere xs).bind fun o5 =>
  (fX9_reach o5 pa).bind fun o6 =>
  (fX9_has pb pc_).bind fun o7 =>
  (if o7 = (0 : Int32) then
  qX9_ahead_94 pa pb pc_ pd o5
  else
  (if (o6 &&& pb) = (0 : Int32) then
  qX9_ahead_94 pa pb pc_ pd o5
  else
  (fX9_has pb pa).bind fun o9 =>
  (if o9 = (0 : Int32) then
  (fX9_within o5 (o6 &&& (pb ^^^ (-1 : Int32)))).bind fun o10 =>
  qX9_ahead_139 pa pb pc_ pd FU o10 (0 : Int32)
  else
  (if pd = (1 : Int32) then
  qX9_ahead_120 pa pb pc_ pd o5
  else
  (if pa = pc_ then
  qX9_ahead_120 pa pb pc_ pd o5
  else
  some ((0 : Int64), o5)))))))
  else
  (fX9_far xs (-6 : Int32)).bind fun o17 =>
  some (o17.1, o17.2))
  else
  (fX9_far xs (-4 : Int32)).bind fun o18 =>
  some (o18.1, o18.2))))
set_option maxHeartbeats 4000000 in
set_option maxRecDepth 100000 in
theorem pX9_ahead_16 {p : Program} {l : Launch} {e : Env} {s : State} {m : MethodId} {args : Array Value} {below : List Frame} {meth : Method} {c : Code} {g : GG} {w0 : va_W} {a : Nat → Nat} {i : Nat} {pa : Int32} {pb : Int32} {pc_ : Int32} {pd : Int32} {o : (Int64 × SX9)} (X : mX g yX9_ahead cX9_ahead 8 (some .long) p s m args meth c w0) :
  ∀ (xs : SX9) (H : Heap) (locs : List Loc) (ls : Array Slot), qX9_ahead_16 pa pb pc_ pd xs = some o → mH g s w0 (wX9 g a i xs) H locs → lv_has ls 8 [(0, .ref (a i)), (1, .int pa), (2, .int pb), (3, .int pc_), (4, .int pd)] → W p l e (rM 4 90) s m args below meth c H locs 0 0 (mZ g below args s w0 (wX9 g a i o.2) (some (.long o.1))) (F0 m 16 ls []) := by
  have hx := X.1
  have hb := X.2.1
  intro xs H locs ls h hH hl
  unfold qX9_ahead_16 at h
  refine lv_aload_n hx hb dX9_ahead_16 rfl (lv_at hl 0 rfl) ?_
  refine lv_iconst (v := (-1 : Int32)) hx hb dX9_ahead_17 (by decide) ?_
  obtain ⟨o2, ho2, h⟩ := bd_x h
  refine r_V X hH (ws1 := (wX9 g a i o2.2)) (As := [.int (-1 : Int32)]) (rest := []) (st1 := [.long o2.1]) (uX9_far (a := a) (i := i) ho2) kX9_far mX9_272 iX9_far vX9_far zX9 okX9_far ⟨Nat.le_of_ble_eq_true rfl, Nat.le_of_ble_eq_true rfl⟩ rfl rfl (q0 := 0) rfl rfl [0, 1, 2, 3, 4, 5, 6, 7, 8, 9, 10, 11, 12, 13, 14, 15, 16, 17, 18, 19, 20, 21, 22, 23, 24, 25, 26, 27, 28, 29, 30, 31, 32, 33] rfl rfl rfl rfl rfl hl.1 rfl (Nat.le_of_ble_eq_true rfl) ⟨Nat.le_refl 0, Nat.le_refl 0⟩ rfl dX9_ahead_18 (fun H locs hH => ?_)
  cases h
  exact e_l X hH dX9_ahead_21
set_option maxHeartbeats 4000000 in
set_option maxRecDepth 100000 in
theorem pX9_ahead_94 {p : Program} {l : Launch} {e : Env} {s : State} {m : MethodId} {args : Array Value} {below : List Frame} {meth : Method} {c : Code} {g : GG} {w0 : va_W} {a : Nat → Nat} {i : Nat} {pa : Int32} {pb : Int32} {pc_ : Int32} {pd : Int32} {o : (Int64 × SX9)} (X : mX g yX9_ahead cX9_ahead 8 (some .long) p s m args meth c w0) :
  ∀ (xs : SX9) (H : Heap) (locs : List Loc) (ls : Array Slot), qX9_ahead_94 pa pb pc_ pd xs = some o → mH g s w0 (wX9 g a i xs) H locs → lv_has ls 8 [(0, .ref (a i)), (1, .int pa), (2, .int pb), (3, .int pc_), (4, .int pd)] → W p l e (rM 4 90) s m args below meth c H locs 0 0 (mZ g below args s w0 (wX9 g a i o.2) (some (.long o.1))) (F0 m 94 ls []) := by
  have hx := X.1
  have hb := X.2.1
  intro xs H locs ls h hH hl
  unfold qX9_ahead_94 at h
  refine lv_aload_n hx hb dX9_ahead_94 rfl (lv_at hl 0 rfl) ?_
  refine lv_bipush (v := (-3 : Int32)) hx hb dX9_ahead_95 (by decide) ?_
  obtain ⟨o8, ho8, h⟩ := bd_x h
  refine r_V X hH (ws1 := (wX9 g a i o8.2)) (As := [.int (-3 : Int32)]) (rest := []) (st1 := [.long o8.1]) (uX9_far (a := a) (i := i) ho8) kX9_far mX9_272 iX9_far vX9_far zX9 okX9_far ⟨Nat.le_of_ble_eq_true rfl, Nat.le_of_ble_eq_true rfl⟩ rfl rfl (q0 := 0) rfl rfl [0, 1, 2, 3, 4, 5, 6, 7, 8, 9, 10, 11, 12, 13, 14, 15, 16, 17, 18, 19, 20, 21, 22, 23, 24, 25, 26, 27, 28, 29, 30, 31, 32, 33] rfl rfl rfl rfl rfl hl.1 rfl (Nat.le_of_ble_eq_true rfl) ⟨Nat.le_refl 0, Nat.le_refl 0⟩ rfl dX9_ahead_97 (fun H locs hH => ?_)
  cases h
  exact e_l X hH dX9_ahead_100
set_option maxHeartbeats 4000000 in
set_option maxRecDepth 100000 in
theorem pX9_ahead_139 {p : Program} {l : Launch} {e : Env} {s : State} {m : MethodId} {args : Array Value} {below : List Frame} {meth : Method} {c : Code} {g : GG} {w0 : va_W} {a : Nat → Nat} {i : Nat} {pa : Int32} {pb : Int32} {pc_ : Int32} {pd : Int32} {o : (Int64 × SX9)} (X : mX g yX9_ahead cX9_ahead 8 (some .long) p s m args meth c w0) :
  ∀ (fu : Nat) (xs : SX9) (l6 : Int32) (H : Heap) (locs : List Loc) (ls : Array Slot), qX9_ahead_139 pa pb pc_ pd fu xs l6 = some o → mH g s w0 (wX9 g a i xs) H locs → lv_has ls 8 [(0, .ref (a i)), (1, .int pa), (2, .int pb), (3, .int pc_), (4, .int pd), (6, .int l6)] → W p l e (rM 4 90) s m args below meth c H locs 0 0 (mZ g below args s w0 (wX9 g a i o.2) (some (.long o.1))) (F0 m 139 ls []) := by
  have hx := X.1
  have hb := X.2.1
  intro fu
  induction fu with
  | zero =>
    intro xs l6 H locs ls h
    unfold qX9_ahead_139 at h
    cases h
  | succ fu ih =>
    intro xs l6 H locs ls h hH hl
    unfold qX9_ahead_139 at h
    refine lv_iload hx hb dX9_ahead_139 (lv_at hl 5 rfl) ?_
    refine lv_aload_n hx hb dX9_ahead_141 rfl (lv_at hl 0 rfl) ?_
    refine f_get X hH 0 rfl rfl 22 (by decide) inX9 fX9_236 rfl dX9_ahead_142 ?_
    refine lv_icmp_ge (tgt := 174) hx hb dX9_ahead_145 (by decide) (fun c9 => ?_) (fun c9 => ?_)
    · have h := it_x h c9
      refine lv_aload_n hx hb dX9_ahead_174 rfl (lv_at hl 0 rfl) ?_
      refine lv_aload_n hx hb dX9_ahead_175 rfl (lv_at hl 0 rfl) ?_
      refine lv_iload_n hx hb dX9_ahead_176 rfl (lv_at hl 1 rfl) ?_
      obtain ⟨o11, ho11, h⟩ := bd_x h
      refine r_V X hH (ws1 := (wX9 g a i xs)) (As := [.int pa]) (rest := [.ref (a i)]) (st1 := [.int o11, .ref (a i)]) (uX9_columnOf (a := a) (i := i) ho11) kX9_columnOf mX9_262 iX9_columnOf vX9_columnOf zX9 okX9_columnOf ⟨Nat.le_of_ble_eq_true rfl, Nat.le_of_ble_eq_true rfl⟩ rfl rfl (q0 := 0) rfl rfl [0, 1, 2, 3, 4, 5, 6, 7, 8, 9, 10, 11, 12, 13, 14, 15, 16, 17, 18, 19, 20, 21, 22, 23, 24, 25, 26, 27, 28, 29, 30, 31, 32, 33] rfl rfl rfl (putl_self _ _ rfl) rfl hl.1 rfl (Nat.le_of_ble_eq_true rfl) ⟨Nat.le_refl 0, Nat.le_refl 0⟩ rfl dX9_ahead_177 (fun H locs hH => ?_)
      obtain ⟨o12, ho12, h⟩ := bd_x h
      refine r_V X hH (ws1 := (wX9 g a i o12.2)) (As := [.int o11]) (rest := []) (st1 := [.long o12.1]) (uX9_det (a := a) (i := i) ho12) kX9_det mX9_258 iX9_det vX9_det zX9 okX9_det ⟨Nat.le_of_ble_eq_true rfl, Nat.le_of_ble_eq_true rfl⟩ rfl rfl (q0 := 0) rfl rfl [0, 1, 2, 3, 4, 5, 6, 7, 8, 9, 10, 11, 12, 13, 14, 15, 16, 17, 18, 19, 20, 21, 22, 23, 24, 25, 26, 27, 28, 29, 30, 31, 32, 33] rfl rfl rfl rfl rfl hl.1 rfl (Nat.le_of_ble_eq_true rfl) ⟨Nat.le_refl 0, Nat.le_refl 0⟩ rfl dX9_ahead_180 (fun H locs hH => ?_)
      refine s_l X (lv' := [(6, .long o12.1), (0, .ref (a i)), (1, .int pa), (2, .int pb), (3, .int pc_), (4, .int pd)]) hl rfl dX9_ahead_183 (by decide) rfl (fun ls hl => ?_)
      refine lv_lload hx hb dX9_ahead_185 (lv_at hl 0 rfl) ?_
      refine lv_aload_n hx hb dX9_ahead_187 rfl (lv_at hl 1 rfl) ?_
      refine lv_iconst (v := (-1 : Int32)) hx hb dX9_ahead_188 (by decide) ?_
      obtain ⟨o13, ho13, h⟩ := bd_x h
      refine r_V X hH (ws1 := (wX9 g a i o13.2)) (As := [.int (-1 : Int32)]) (rest := [.long o12.1]) (st1 := [.long o13.1, .long o12.1]) (uX9_det (a := a) (i := i) ho13) kX9_det mX9_258 iX9_det vX9_det zX9 okX9_det ⟨Nat.le_of_ble_eq_true rfl, Nat.le_of_ble_eq_true rfl⟩ rfl rfl (q0 := 0) rfl rfl [0, 1, 2, 3, 4, 5, 6, 7, 8, 9, 10, 11, 12, 13, 14, 15, 16, 17, 18, 19, 20, 21, 22, 23, 24, 25, 26, 27, 28, 29, 30, 31, 32, 33] rfl rfl rfl rfl rfl hl.1 rfl (Nat.le_of_ble_eq_true rfl) ⟨Nat.le_refl 0, Nat.le_refl 0⟩ rfl dX9_ahead_189 (fun H locs hH => ?_)
      refine lv_iload hx hb dX9_ahead_192 (lv_at hl 5 rfl) ?_
      obtain ⟨o14, ho14, h⟩ := bd_x h
      refine r_S X hH (ws1 := (wX9 g a i o13.2)) (As := [.long o12.1, .long o13.1, .int pd]) (rest := []) (st1 := [.long o14]) (uX9_partOf  ho14) kX9_partOf mX9_279 sX9_partOf zX9 okX9_partOf ⟨Nat.le_of_ble_eq_true rfl, Nat.le_of_ble_eq_true rfl⟩ rfl rfl [] rfl rfl rfl (putl_self _ _ rfl) rfl hl.1 rfl (Nat.le_of_ble_eq_true rfl) ⟨Nat.le_refl 0, Nat.le_refl 0⟩ rfl dX9_ahead_194 (fun H locs hH => ?_)
      cases h
      exact e_l X hH dX9_ahead_197
    · have h := ie_x h c9
      refine lv_aload_n hx hb dX9_ahead_148 rfl (lv_at hl 0 rfl) ?_
      refine f_get X hH 0 rfl rfl 24 (by decide) inX9 fX9_64 rfl dX9_ahead_149 ?_
      refine lv_iload hx hb dX9_ahead_152 (lv_at hl 5 rfl) ?_
      refine lv_aload_n hx hb dX9_ahead_154 rfl (lv_at hl 0 rfl) ?_
      refine lv_aload_n hx hb dX9_ahead_155 rfl (lv_at hl 0 rfl) ?_
      refine f_get X hH 0 rfl rfl 21 (by decide) inX9 fX9_57 rfl dX9_ahead_156 ?_
      refine lv_iload hx hb dX9_ahead_159 (lv_at hl 5 rfl) ?_
      obtain ⟨j1, ej1, hinj1, h⟩ := ga_x h
      refine a_il X hH 15 rfl hinj1 ej1 dX9_ahead_161 ?_
      refine lv_iload_n hx hb dX9_ahead_162 rfl (lv_at hl 3 rfl) ?_
      obtain ⟨o15, ho15, h⟩ := bd_x h
      refine r_V X hH (ws1 := (wX9 g a i xs)) (As := [.int ((m_inner xs) j1), .int pc_]) (rest := [.int l6, .ref (a (i + 17))]) (st1 := [.int o15, .int l6, .ref (a (i + 17))]) (uX9_between (a := a) (i := i) ho15) kX9_between mX9_242 iX9_between vX9_between zX9 okX9_between ⟨Nat.le_of_ble_eq_true rfl, Nat.le_of_ble_eq_true rfl⟩ rfl rfl (q0 := 0) rfl rfl [0, 1, 2, 3, 4, 5, 6, 7, 8, 9, 10, 11, 12, 13, 14, 15, 16, 17, 18, 19, 20, 21, 22, 23, 24, 25, 26, 27, 28, 29, 30, 31, 32, 33] rfl rfl rfl (putl_self _ _ rfl) rfl hl.1 rfl (Nat.le_of_ble_eq_true rfl) ⟨Nat.le_refl 0, Nat.le_refl 0⟩ rfl dX9_ahead_163 (fun H locs hH => ?_)
      refine lv_i2l hx hb dX9_ahead_166 rfl ?_
      obtain ⟨j2, ej2, hinj2, h⟩ := ga_x h
      obtain ⟨xs1, exs1, h⟩ := ltt_x h
      refine a_ls X hH (ws1 := (wX9 g a i xs1)) 17 rfl hinj2 ej2 (by rw [exs1]; rfl) dX9_ahead_167 (fun H locs hH => ?_)
      obtain ⟨v1, ev1, h⟩ := ltt_x h
      refine s_inc X (k := 5) (lv' := [(6, .int v1), (0, .ref (a i)), (1, .int pa), (2, .int pb), (3, .int pc_), (4, .int pd)]) hl rfl (by rw [ev1]; rfl) dX9_ahead_168 (by decide) rfl (fun ls hl => ?_)
      refine lv_goto (tgt := 139) hx hb dX9_ahead_171 (by decide) ?_
      exact ih xs1 v1 H locs ls h hH (lv_sub hl [1, 2, 3, 4, 5, 0] rfl)
set_option maxHeartbeats 4000000 in
set_option maxRecDepth 100000 in
theorem pX9_ahead_120 {p : Program} {l : Launch} {e : Env} {s : State} {m : MethodId} {args : Array Value} {below : List Frame} {meth : Method} {c : Code} {g : GG} {w0 : va_W} {a : Nat → Nat} {i : Nat} {pa : Int32} {pb : Int32} {pc_ : Int32} {pd : Int32} {o : (Int64 × SX9)} (X : mX g yX9_ahead cX9_ahead 8 (some .long) p s m args meth c w0) :
  ∀ (xs : SX9) (H : Heap) (locs : List Loc) (ls : Array Slot), qX9_ahead_120 pa pb pc_ pd xs = some o → mH g s w0 (wX9 g a i xs) H locs → lv_has ls 8 [(0, .ref (a i)), (1, .int pa), (2, .int pb), (3, .int pc_), (4, .int pd)] → W p l e (rM 4 90) s m args below meth c H locs 0 0 (mZ g below args s w0 (wX9 g a i o.2) (some (.long o.1))) (F0 m 120 ls []) := by
  have hx := X.1
  have hb := X.2.1
  intro xs H locs ls h hH hl
  unfold qX9_ahead_120 at h
  refine lv_lconst (v := (1 : Int64)) hx hb dX9_ahead_120 (by decide) ?_
  refine lv_goto (tgt := 125) hx hb dX9_ahead_121 (by decide) ?_
  cases h
  exact e_l X hH dX9_ahead_125
set_option maxHeartbeats 4000000 in
set_option maxRecDepth 100000 in
theorem uX9_ahead {l : Launch} {g : GG} {a : Nat → Nat} {i : Nat} {xs : SX9} {pa : Int32} {pb : Int32} {pc_ : Int32} {pd : Int32} {o : (Int64 × SX9)} (h : fX9_ahead xs pa pb pc_ pd = some o) : mC l g yX9_ahead cX9_ahead 8 (some .long) (rM 4 90) [.ref (a i), .int pa, .int pb, .int pc_, .int pd] (wX9 g a i xs) (wX9 g a i o.2) (some (.long o.1)) := by
  refine mC.ofW (by decide) (fun p e s m below meth c X hH ls _ hl => ?_) (Nat.le_of_ble_eq_true rfl)
  have hx := X.1
  have hb := X.2.1
  have hl : lv_has ls 8 [(0, .ref (a i)), (1, .int pa), (2, .int pb), (3, .int pc_), (4, .int pd)] := hl
  unfold fX9_ahead at h
  suffices HH : ∀ (H : Heap) (locs : List Loc), mH g s (wX9 g a i xs) (wX9 g a i xs) H locs → W p l e (rM 4 90) s m _ below meth c H locs 0 0 (mZ g below _ s (wX9 g a i xs) (wX9 g a i o.2) (some (.long o.1))) (F0 m 0 ls []) from HH _ _ hH
  clear hH
  intro H locs hH
  refine lv_aload_n hx hb dX9_ahead_0 rfl (lv_at hl 0 rfl) ?_
  refine lv_iload_n hx hb dX9_ahead_1 rfl (lv_at hl 1 rfl) ?_
  obtain ⟨o1, ho1, h⟩ := bd_x h
  refine r_V X hH (ws1 := (wX9 g a i xs)) (As := [.int pa]) (rest := []) (st1 := [.int o1]) (uX9_isPoint (a := a) (i := i) ho1) kX9_isPoint mX9_141 iX9_isPoint vX9_isPoint zX9 okX9_isPoint ⟨Nat.le_of_ble_eq_true rfl, Nat.le_of_ble_eq_true rfl⟩ rfl rfl (q0 := 0) rfl rfl [0, 1, 2, 3, 4, 5, 6, 7, 8, 9, 10, 11, 12, 13, 14, 15, 16, 17, 18, 19, 20, 21, 22, 23, 24, 25, 26, 27, 28, 29, 30, 31, 32, 33] rfl rfl rfl (putl_self _ _ rfl) rfl hl.1 rfl (Nat.le_of_ble_eq_true rfl) ⟨Nat.le_refl 0, Nat.le_refl 0⟩ rfl dX9_ahead_2 (fun H locs hH => ?_)
  refine lv_if_eq (tgt := 16) hx hb dX9_ahead_5 (by decide) (fun c1 => ?_) (fun c1 => ?_)
  · have h := it_x h c1
    exact pX9_ahead_16 X  xs H locs ls h hH (lv_sub hl [0, 1, 2, 3, 4] rfl)
  · have h := ie_x h c1
    refine lv_aload_n hx hb dX9_ahead_8 rfl (lv_at hl 0 rfl) ?_
    refine lv_iload_n hx hb dX9_ahead_9 rfl (lv_at hl 3 rfl) ?_
    obtain ⟨o3, ho3, h⟩ := bd_x h
    refine r_V X hH (ws1 := (wX9 g a i xs)) (As := [.int pc_]) (rest := []) (st1 := [.int o3]) (uX9_isPoint (a := a) (i := i) ho3) kX9_isPoint mX9_141 iX9_isPoint vX9_isPoint zX9 okX9_isPoint ⟨Nat.le_of_ble_eq_true rfl, Nat.le_of_ble_eq_true rfl⟩ rfl rfl (q0 := 0) rfl rfl [0, 1, 2, 3, 4, 5, 6, 7, 8, 9, 10, 11, 12, 13, 14, 15, 16, 17, 18, 19, 20, 21, 22, 23, 24, 25, 26, 27, 28, 29, 30, 31, 32, 33] rfl rfl rfl (putl_self _ _ rfl) rfl hl.1 rfl (Nat.le_of_ble_eq_true rfl) ⟨Nat.le_refl 0, Nat.le_refl 0⟩ rfl dX9_ahead_10 (fun H locs hH => ?_)
    refine lv_if_ne (tgt := 22) hx hb dX9_ahead_13 (by decide) (fun c2 => ?_) (fun c2 => ?_)
    · have h := ie_x h c2
      refine lv_iload_n hx hb dX9_ahead_22 rfl (lv_at hl 2 rfl) ?_
      refine lv_if_ge (tgt := 33) hx hb dX9_ahead_23 (by decide) (fun c3 => ?_) (fun c3 => ?_)
      · have h := it_x h c3
        refine lv_iload_n hx hb dX9_ahead_33 rfl (lv_at hl 2 rfl) ?_
        refine lv_iconst (v := (1 : Int32)) hx hb dX9_ahead_34 (by decide) ?_
        refine lv_aload_n hx hb dX9_ahead_35 rfl (lv_at hl 0 rfl) ?_
        refine f_get X hH 0 rfl rfl 0 (by decide) inX9 fX9_7 rfl dX9_ahead_36 ?_
        refine lv_ishl hx hb dX9_ahead_39 ?_
        refine lv_icmp_lt (tgt := 50) hx hb dX9_ahead_40 (by decide) (fun c4 => ?_) (fun c4 => ?_)
        · have h := it_x h c4
          refine lv_iload hx hb dX9_ahead_50 (lv_at hl 4 rfl) ?_
          refine lv_i2l hx hb dX9_ahead_52 rfl ?_
          refine lv_lconst (v := (0 : Int64)) hx hb dX9_ahead_53 (by decide) ?_
          refine lv_lconst (v := (1 : Int64)) hx hb dX9_ahead_54 (by decide) ?_
          obtain ⟨o4, ho4, h⟩ := bd_x h
          refine r_S X hH (ws1 := (wX9 g a i xs)) (As := [.long (pd.toInt64), .long (0 : Int64), .long (1 : Int64)]) (rest := []) (st1 := [.int o4]) (uX9_isIn  ho4) kX9_isIn mX9_116 sX9_isIn zX9 okX9_isIn ⟨Nat.le_of_ble_eq_true rfl, Nat.le_of_ble_eq_true rfl⟩ rfl rfl [] rfl rfl rfl (putl_self _ _ rfl) rfl hl.1 rfl (Nat.le_of_ble_eq_true rfl) ⟨Nat.le_refl 0, Nat.le_refl 0⟩ rfl dX9_ahead_55 (fun H locs hH => ?_)
          refine lv_if_ne (tgt := 68) hx hb dX9_ahead_58 (by decide) (fun c5 => ?_) (fun c5 => ?_)
          · have h := ie_x h c5
            refine lv_aload_n hx hb dX9_ahead_68 rfl (lv_at hl 0 rfl) ?_
            obtain ⟨o5, ho5, h⟩ := bd_x h
            refine r_V X hH (ws1 := (wX9 g a i o5)) (As := []) (rest := []) (st1 := []) (uX9_allThere (a := a) (i := i) ho5) kX9_allThere mX9_230 iX9_allThere vX9_allThere zX9 okX9_allThere ⟨Nat.le_of_ble_eq_true rfl, Nat.le_of_ble_eq_true rfl⟩ rfl rfl (q0 := 0) rfl rfl [0, 1, 2, 3, 4, 5, 6, 7, 8, 9, 10, 11, 12, 13, 14, 15, 16, 17, 18, 19, 20, 21, 22, 23, 24, 25, 26, 27, 28, 29, 30, 31, 32, 33] rfl rfl rfl rfl rfl hl.1 rfl (Nat.le_of_ble_eq_true rfl) ⟨Nat.le_refl 0, Nat.le_refl 0⟩ rfl dX9_ahead_69 (fun H locs hH => ?_)
            refine lv_aload_n hx hb dX9_ahead_72 rfl (lv_at hl 0 rfl) ?_
            refine lv_iload_n hx hb dX9_ahead_73 rfl (lv_at hl 1 rfl) ?_
            obtain ⟨o6, ho6, h⟩ := bd_x h
            refine r_V X hH (ws1 := (wX9 g a i o5)) (As := [.int pa]) (rest := []) (st1 := [.int o6]) (uX9_reach (a := a) (i := i) ho6) kX9_reach mX9_233 iX9_reach vX9_reach zX9 okX9_reach ⟨Nat.le_of_ble_eq_true rfl, Nat.le_of_ble_eq_true rfl⟩ rfl rfl (q0 := 0) rfl rfl [0, 1, 2, 3, 4, 5, 6, 7, 8, 9, 10, 11, 12, 13, 14, 15, 16, 17, 18, 19, 20, 21, 22, 23, 24, 25, 26, 27, 28, 29, 30, 31, 32, 33] rfl rfl rfl (putl_self _ _ rfl) rfl hl.1 rfl (Nat.le_of_ble_eq_true rfl) ⟨Nat.le_refl 0, Nat.le_refl 0⟩ rfl dX9_ahead_74 (fun H locs hH => ?_)
            refine s_i X (lv' := [(5, .int o6), (0, .ref (a i)), (1, .int pa), (2, .int pb), (3, .int pc_), (4, .int pd)]) hl rfl dX9_ahead_77 (by decide) rfl (fun ls hl => ?_)
            refine lv_iload_n hx hb dX9_ahead_79 rfl (lv_at hl 3 rfl) ?_
            refine lv_iload_n hx hb dX9_ahead_80 rfl (lv_at hl 4 rfl) ?_
            obtain ⟨o7, ho7, h⟩ := bd_x h
            refine r_S X hH (ws1 := (wX9 g a i o5)) (As := [.int pb, .int pc_]) (rest := []) (st1 := [.int o7]) (uX9_has  ho7) kX9_has mX9_226 sX9_has zX9 okX9_has ⟨Nat.le_of_ble_eq_true rfl, Nat.le_of_ble_eq_true rfl⟩ rfl rfl [] rfl rfl rfl (putl_self _ _ rfl) rfl hl.1 rfl (Nat.le_of_ble_eq_true rfl) ⟨Nat.le_refl 0, Nat.le_refl 0⟩ rfl dX9_ahead_81 (fun H locs hH => ?_)
            refine lv_if_eq (tgt := 94) hx hb dX9_ahead_84 (by decide) (fun c6 => ?_) (fun c6 => ?_)
            · have h := it_x h c6
              exact pX9_ahead_94 X  o5 H locs ls h hH (lv_sub hl [1, 2, 3, 4, 5] rfl)
            · have h := ie_x h c6
              refine lv_iload hx hb dX9_ahead_87 (lv_at hl 0 rfl) ?_
              refine lv_iload_n hx hb dX9_ahead_89 rfl (lv_at hl 3 rfl) ?_
              refine lv_iand hx hb dX9_ahead_90 ?_
              refine lv_if_ne (tgt := 101) hx hb dX9_ahead_91 (by decide) (fun c7 => ?_) (fun c7 => ?_)
              · have h := ie_x h c7
                refine lv_iload_n hx hb dX9_ahead_101 rfl (lv_at hl 3 rfl) ?_
                refine lv_iload_n hx hb dX9_ahead_102 rfl (lv_at hl 2 rfl) ?_
                obtain ⟨o9, ho9, h⟩ := bd_x h
                refine r_S X hH (ws1 := (wX9 g a i o5)) (As := [.int pb, .int pa]) (rest := []) (st1 := [.int o9]) (uX9_has  ho9) kX9_has mX9_226 sX9_has zX9 okX9_has ⟨Nat.le_of_ble_eq_true rfl, Nat.le_of_ble_eq_true rfl⟩ rfl rfl [] rfl rfl rfl (putl_self _ _ rfl) rfl hl.1 rfl (Nat.le_of_ble_eq_true rfl) ⟨Nat.le_refl 0, Nat.le_refl 0⟩ rfl dX9_ahead_103 (fun H locs hH => ?_)
                refine lv_if_eq (tgt := 126) hx hb dX9_ahead_106 (by decide) (fun c8 => ?_) (fun c8 => ?_)
                · have h := it_x h c8
                  refine lv_aload_n hx hb dX9_ahead_126 rfl (lv_at hl 1 rfl) ?_
                  refine lv_iload hx hb dX9_ahead_127 (lv_at hl 0 rfl) ?_
                  refine lv_iload_n hx hb dX9_ahead_129 rfl (lv_at hl 3 rfl) ?_
                  refine lv_iconst (v := (-1 : Int32)) hx hb dX9_ahead_130 (by decide) ?_
                  refine lv_ixor hx hb dX9_ahead_131 ?_
                  refine lv_iand hx hb dX9_ahead_132 ?_
                  obtain ⟨o10, ho10, h⟩ := bd_x h
                  refine r_V X hH (ws1 := (wX9 g a i o10)) (As := [.int (o6 &&& (pb ^^^ (-1 : Int32)))]) (rest := []) (st1 := []) (uX9_within (a := a) (i := i) ho10) kX9_within mX9_255 iX9_within vX9_within zX9 okX9_within ⟨Nat.le_of_ble_eq_true rfl, Nat.le_of_ble_eq_true rfl⟩ rfl rfl (q0 := 0) rfl rfl [0, 1, 2, 3, 4, 5, 6, 7, 8, 9, 10, 11, 12, 13, 14, 15, 16, 17, 18, 19, 20, 21, 22, 23, 24, 25, 26, 27, 28, 29, 30, 31, 32, 33] rfl rfl rfl rfl rfl hl.1 rfl (Nat.le_of_ble_eq_true rfl) ⟨Nat.le_refl 0, Nat.le_refl 0⟩ rfl dX9_ahead_133 (fun H locs hH => ?_)
                  refine lv_iconst (v := (0 : Int32)) hx hb dX9_ahead_136 (by decide) ?_
                  refine s_i X (lv' := [(6, .int (0 : Int32)), (5, .int o6), (0, .ref (a i)), (1, .int pa), (2, .int pb), (3, .int pc_), (4, .int pd)]) hl rfl dX9_ahead_137 (by decide) rfl (fun ls hl => ?_)
                  exact pX9_ahead_139 X FU o10 (0 : Int32) H locs ls h hH (lv_sub hl [2, 3, 4, 5, 6, 0] rfl)
                · have h := ie_x h c8
                  refine lv_iload hx hb dX9_ahead_109 (lv_at hl 5 rfl) ?_
                  refine lv_iconst (v := (1 : Int32)) hx hb dX9_ahead_111 (by decide) ?_
                  refine lv_icmp_eq (tgt := 120) hx hb dX9_ahead_112 (by decide) (fun c10 => ?_) (fun c10 => ?_)
                  · have h := it_x h c10
                    exact pX9_ahead_120 X  o5 H locs ls h hH (lv_sub hl [1, 2, 3, 4, 5] rfl)
                  · have h := ie_x h c10
                    refine lv_iload_n hx hb dX9_ahead_115 rfl (lv_at hl 2 rfl) ?_
                    refine lv_iload_n hx hb dX9_ahead_116 rfl (lv_at hl 4 rfl) ?_
                    refine lv_icmp_ne (tgt := 124) hx hb dX9_ahead_117 (by decide) (fun c11 => ?_) (fun c11 => ?_)
                    · have h := ie_x h c11
                      refine lv_lconst (v := (0 : Int64)) hx hb dX9_ahead_124 (by decide) ?_
                      cases h
                      exact e_l X hH dX9_ahead_125
                    · have h := it_x h c11
                      exact pX9_ahead_120 X  o5 H locs ls h hH (lv_sub hl [1, 2, 3, 4, 5] rfl)
              · have h := it_x h c7
                exact pX9_ahead_94 X  o5 H locs ls h hH (lv_sub hl [1, 2, 3, 4, 5] rfl)
          · have h := it_x h c5
            refine lv_aload_n hx hb dX9_ahead_61 rfl (lv_at hl 0 rfl) ?_
            refine lv_bipush (v := (-2 : Int32)) hx hb dX9_ahead_62 (by decide) ?_
            obtain ⟨o16, ho16, h⟩ := bd_x h
            refine r_V X hH (ws1 := (wX9 g a i o16.2)) (As := [.int (-2 : Int32)]) (rest := []) (st1 := [.long o16.1]) (uX9_far (a := a) (i := i) ho16) kX9_far mX9_272 iX9_far vX9_far zX9 okX9_far ⟨Nat.le_of_ble_eq_true rfl, Nat.le_of_ble_eq_true rfl⟩ rfl rfl (q0 := 0) rfl rfl [0, 1, 2, 3, 4, 5, 6, 7, 8, 9, 10, 11, 12, 13, 14, 15, 16, 17, 18, 19, 20, 21, 22, 23, 24, 25, 26, 27, 28, 29, 30, 31, 32, 33] rfl rfl rfl rfl rfl hl.1 rfl (Nat.le_of_ble_eq_true rfl) ⟨Nat.le_refl 0, Nat.le_refl 0⟩ rfl dX9_ahead_64 (fun H locs hH => ?_)
            cases h
            exact e_l X hH dX9_ahead_67
        · have h := ie_x h c4
          refine lv_aload_n hx hb dX9_ahead_43 rfl (lv_at hl 0 rfl) ?_
          refine lv_bipush (v := (-6 : Int32)) hx hb dX9_ahead_44 (by decide) ?_
          obtain ⟨o17, ho17, h⟩ := bd_x h
          refine r_V X hH (ws1 := (wX9 g a i o17.2)) (As := [.int (-6 : Int32)]) (rest := []) (st1 := [.long o17.1]) (uX9_far (a := a) (i := i) ho17) kX9_far mX9_272 iX9_far vX9_far zX9 okX9_far ⟨Nat.le_of_ble_eq_true rfl, Nat.le_of_ble_eq_true rfl⟩ rfl rfl (q0 := 0) rfl rfl [0, 1, 2, 3, 4, 5, 6, 7, 8, 9, 10, 11, 12, 13, 14, 15, 16, 17, 18, 19, 20, 21, 22, 23, 24, 25, 26, 27, 28, 29, 30, 31, 32, 33] rfl rfl rfl rfl rfl hl.1 rfl (Nat.le_of_ble_eq_true rfl) ⟨Nat.le_refl 0, Nat.le_refl 0⟩ rfl dX9_ahead_46 (fun H locs hH => ?_)
          cases h
          exact e_l X hH dX9_ahead_49
      · have h := ie_x h c3
        refine lv_aload_n hx hb dX9_ahead_26 rfl (lv_at hl 0 rfl) ?_
        refine lv_bipush (v := (-4 : Int32)) hx hb dX9_ahead_27 (by decide) ?_
        obtain ⟨o18, ho18, h⟩ := bd_x h
        refine r_V X hH (ws1 := (wX9 g a i o18.2)) (As := [.int (-4 : Int32)]) (rest := []) (st1 := [.long o18.1]) (uX9_far (a := a) (i := i) ho18) kX9_far mX9_272 iX9_far vX9_far zX9 okX9_far ⟨Nat.le_of_ble_eq_true rfl, Nat.le_of_ble_eq_true rfl⟩ rfl rfl (q0 := 0) rfl rfl [0, 1, 2, 3, 4, 5, 6, 7, 8, 9, 10, 11, 12, 13, 14, 15, 16, 17, 18, 19, 20, 21, 22, 23, 24, 25, 26, 27, 28, 29, 30, 31, 32, 33] rfl rfl rfl rfl rfl hl.1 rfl (Nat.le_of_ble_eq_true rfl) ⟨Nat.le_refl 0, Nat.le_refl 0⟩ rfl dX9_ahead_29 (fun H locs hH => ?_)
        cases h
        exact e_l X hH dX9_ahead_32
    · have h := it_x h c2
      exact pX9_ahead_16 X  xs H locs ls h hH (lv_sub hl [0, 1, 2, 3, 4] rfl)

def qX9_flow_29 (pa : Int32) (pb : Int32) (pc_ : Int32) (pd : Int32)  (xs : SX9) : Option (Int64 × SX9) :=
  (fX9_far xs (-1 : Int32)).bind fun o2 =>
  some (o2.1, o2.2)
def fX9_flow (xs : SX9) (pa : Int32) (pb : Int32) (pc_ : Int32) (pd : Int32) : Option (Int64 × SX9) :=
  (fX9_isWay xs pa).bind fun o1 =>
  (if o1 = (0 : Int32) then
  qX9_flow_29 pa pb pc_ pd xs
  else
  (fX9_isPoint xs pb).bind fun o3 =>
  (if o3 = (0 : Int32) then
  qX9_flow_29 pa pb pc_ pd xs
  else
  (fX9_isPoint xs pc_).bind fun o4 =>
  (if o4 = (0 : Int32) then
  qX9_flow_29 pa pb pc_ pd xs
  else
  (if pb = pc_ then
  qX9_flow_29 pa pb pc_ pd xs
  else
  (fX9_isIn (pd.toInt64) (0 : Int64) (1 : Int64)).bind fun o5 =>
  (if o5 = (0 : Int32) then
  (fX9_far xs (-2 : Int32)).bind fun o15 =>
  some (o15.1, o15.2)
  else
  (fX9_allThere xs).bind fun o6 =>
  (fX9_reach o6 pb).bind fun o7 =>
  (fX9_has o7 pc_).bind fun o8 =>
  (if o8 = (0 : Int32) then
  (fX9_far o6 (-3 : Int32)).bind fun o14 =>
  some (o14.1, o14.2)
  else
  ga 11 pa fun j1 =>
  (fX9_share o6 pb pc_ ((m_first o6) j1)).bind fun o9 =>
  ga 11 pa fun j2 =>
  (fX9_share o9.2 pb pc_ ((m_second o9.2) j2)).bind fun o10 =>
  ltt ((o9.1 - o10.1)) fun v1 =>
  (fX9_findDown o10.2 pc_).bind fun o11 =>
  (fX9_weight o11 pa).bind fun o12 =>
  (fX9_partOf (v1 * (o12.toInt64)) (m_down o11) pd).bind fun o13 =>
  some (o13, o11)))))))
set_option maxHeartbeats 4000000 in
set_option maxRecDepth 100000 in
theorem pX9_flow_29 {p : Program} {l : Launch} {e : Env} {s : State} {m : MethodId} {args : Array Value} {below : List Frame} {meth : Method} {c : Code} {g : GG} {w0 : va_W} {a : Nat → Nat} {i : Nat} {pa : Int32} {pb : Int32} {pc_ : Int32} {pd : Int32} {o : (Int64 × SX9)} (X : mX g yX9_flow cX9_flow 7 (some .long) p s m args meth c w0) :
  ∀ (xs : SX9) (H : Heap) (locs : List Loc) (ls : Array Slot), qX9_flow_29 pa pb pc_ pd xs = some o → mH g s w0 (wX9 g a i xs) H locs → lv_has ls 7 [(0, .ref (a i)), (1, .int pa), (2, .int pb), (3, .int pc_), (4, .int pd)] → W p l e (rM 5 114) s m args below meth c H locs 0 0 (mZ g below args s w0 (wX9 g a i o.2) (some (.long o.1))) (F0 m 29 ls []) := by
  have hx := X.1
  have hb := X.2.1
  intro xs H locs ls h hH hl
  unfold qX9_flow_29 at h
  refine lv_aload_n hx hb dX9_flow_29 rfl (lv_at hl 0 rfl) ?_
  refine lv_iconst (v := (-1 : Int32)) hx hb dX9_flow_30 (by decide) ?_
  obtain ⟨o2, ho2, h⟩ := bd_x h
  refine r_V X hH (ws1 := (wX9 g a i o2.2)) (As := [.int (-1 : Int32)]) (rest := []) (st1 := [.long o2.1]) (uX9_far (a := a) (i := i) ho2) kX9_far mX9_272 iX9_far vX9_far zX9 okX9_far ⟨Nat.le_of_ble_eq_true rfl, Nat.le_of_ble_eq_true rfl⟩ rfl rfl (q0 := 0) rfl rfl [0, 1, 2, 3, 4, 5, 6, 7, 8, 9, 10, 11, 12, 13, 14, 15, 16, 17, 18, 19, 20, 21, 22, 23, 24, 25, 26, 27, 28, 29, 30, 31, 32, 33] rfl rfl rfl rfl rfl hl.1 rfl (Nat.le_of_ble_eq_true rfl) ⟨Nat.le_refl 0, Nat.le_refl 0⟩ rfl dX9_flow_31 (fun H locs hH => ?_)
  cases h
  exact e_l X hH dX9_flow_34
set_option maxHeartbeats 4000000 in
set_option maxRecDepth 100000 in
theorem uX9_flow {l : Launch} {g : GG} {a : Nat → Nat} {i : Nat} {xs : SX9} {pa : Int32} {pb : Int32} {pc_ : Int32} {pd : Int32} {o : (Int64 × SX9)} (h : fX9_flow xs pa pb pc_ pd = some o) : mC l g yX9_flow cX9_flow 7 (some .long) (rM 5 114) [.ref (a i), .int pa, .int pb, .int pc_, .int pd] (wX9 g a i xs) (wX9 g a i o.2) (some (.long o.1)) := by
  refine mC.ofW (by decide) (fun p e s m below meth c X hH ls _ hl => ?_) (Nat.le_of_ble_eq_true rfl)
  have hx := X.1
  have hb := X.2.1
  have hl : lv_has ls 7 [(0, .ref (a i)), (1, .int pa), (2, .int pb), (3, .int pc_), (4, .int pd)] := hl
  unfold fX9_flow at h
  suffices HH : ∀ (H : Heap) (locs : List Loc), mH g s (wX9 g a i xs) (wX9 g a i xs) H locs → W p l e (rM 5 114) s m _ below meth c H locs 0 0 (mZ g below _ s (wX9 g a i xs) (wX9 g a i o.2) (some (.long o.1))) (F0 m 0 ls []) from HH _ _ hH
  clear hH
  intro H locs hH
  refine lv_aload_n hx hb dX9_flow_0 rfl (lv_at hl 0 rfl) ?_
  refine lv_iload_n hx hb dX9_flow_1 rfl (lv_at hl 1 rfl) ?_
  obtain ⟨o1, ho1, h⟩ := bd_x h
  refine r_V X hH (ws1 := (wX9 g a i xs)) (As := [.int pa]) (rest := []) (st1 := [.int o1]) (uX9_isWay (a := a) (i := i) ho1) kX9_isWay mX9_145 iX9_isWay vX9_isWay zX9 okX9_isWay ⟨Nat.le_of_ble_eq_true rfl, Nat.le_of_ble_eq_true rfl⟩ rfl rfl (q0 := 0) rfl rfl [0, 1, 2, 3, 4, 5, 6, 7, 8, 9, 10, 11, 12, 13, 14, 15, 16, 17, 18, 19, 20, 21, 22, 23, 24, 25, 26, 27, 28, 29, 30, 31, 32, 33] rfl rfl rfl (putl_self _ _ rfl) rfl hl.1 rfl (Nat.le_of_ble_eq_true rfl) ⟨Nat.le_refl 0, Nat.le_refl 0⟩ rfl dX9_flow_2 (fun H locs hH => ?_)
  refine lv_if_eq (tgt := 29) hx hb dX9_flow_5 (by decide) (fun c1 => ?_) (fun c1 => ?_)
  · have h := it_x h c1
    exact pX9_flow_29 X  xs H locs ls h hH (lv_sub hl [0, 1, 2, 3, 4] rfl)
  · have h := ie_x h c1
    refine lv_aload_n hx hb dX9_flow_8 rfl (lv_at hl 0 rfl) ?_
    refine lv_iload_n hx hb dX9_flow_9 rfl (lv_at hl 2 rfl) ?_
    obtain ⟨o3, ho3, h⟩ := bd_x h
    refine r_V X hH (ws1 := (wX9 g a i xs)) (As := [.int pb]) (rest := []) (st1 := [.int o3]) (uX9_isPoint (a := a) (i := i) ho3) kX9_isPoint mX9_141 iX9_isPoint vX9_isPoint zX9 okX9_isPoint ⟨Nat.le_of_ble_eq_true rfl, Nat.le_of_ble_eq_true rfl⟩ rfl rfl (q0 := 0) rfl rfl [0, 1, 2, 3, 4, 5, 6, 7, 8, 9, 10, 11, 12, 13, 14, 15, 16, 17, 18, 19, 20, 21, 22, 23, 24, 25, 26, 27, 28, 29, 30, 31, 32, 33] rfl rfl rfl (putl_self _ _ rfl) rfl hl.1 rfl (Nat.le_of_ble_eq_true rfl) ⟨Nat.le_refl 0, Nat.le_refl 0⟩ rfl dX9_flow_10 (fun H locs hH => ?_)
    refine lv_if_eq (tgt := 29) hx hb dX9_flow_13 (by decide) (fun c2 => ?_) (fun c2 => ?_)
    · have h := it_x h c2
      exact pX9_flow_29 X  xs H locs ls h hH (lv_sub hl [0, 1, 2, 3, 4] rfl)
    · have h := ie_x h c2
      refine lv_aload_n hx hb dX9_flow_16 rfl (lv_at hl 0 rfl) ?_
      refine lv_iload_n hx hb dX9_flow_17 rfl (lv_at hl 3 rfl) ?_
      obtain ⟨o4, ho4, h⟩ := bd_x h
      refine r_V X hH (ws1 := (wX9 g a i xs)) (As := [.int pc_]) (rest := []) (st1 := [.int o4]) (uX9_isPoint (a := a) (i := i) ho4) kX9_isPoint mX9_141 iX9_isPoint vX9_isPoint zX9 okX9_isPoint ⟨Nat.le_of_ble_eq_true rfl, Nat.le_of_ble_eq_true rfl⟩ rfl rfl (q0 := 0) rfl rfl [0, 1, 2, 3, 4, 5, 6, 7, 8, 9, 10, 11, 12, 13, 14, 15, 16, 17, 18, 19, 20, 21, 22, 23, 24, 25, 26, 27, 28, 29, 30, 31, 32, 33] rfl rfl rfl (putl_self _ _ rfl) rfl hl.1 rfl (Nat.le_of_ble_eq_true rfl) ⟨Nat.le_refl 0, Nat.le_refl 0⟩ rfl dX9_flow_18 (fun H locs hH => ?_)
      refine lv_if_eq (tgt := 29) hx hb dX9_flow_21 (by decide) (fun c3 => ?_) (fun c3 => ?_)
      · have h := it_x h c3
        exact pX9_flow_29 X  xs H locs ls h hH (lv_sub hl [0, 1, 2, 3, 4] rfl)
      · have h := ie_x h c3
        refine lv_iload_n hx hb dX9_flow_24 rfl (lv_at hl 2 rfl) ?_
        refine lv_iload_n hx hb dX9_flow_25 rfl (lv_at hl 3 rfl) ?_
        refine lv_icmp_ne (tgt := 35) hx hb dX9_flow_26 (by decide) (fun c4 => ?_) (fun c4 => ?_)
        · have h := ie_x h c4
          refine lv_iload hx hb dX9_flow_35 (lv_at hl 4 rfl) ?_
          refine lv_i2l hx hb dX9_flow_37 rfl ?_
          refine lv_lconst (v := (0 : Int64)) hx hb dX9_flow_38 (by decide) ?_
          refine lv_lconst (v := (1 : Int64)) hx hb dX9_flow_39 (by decide) ?_
          obtain ⟨o5, ho5, h⟩ := bd_x h
          refine r_S X hH (ws1 := (wX9 g a i xs)) (As := [.long (pd.toInt64), .long (0 : Int64), .long (1 : Int64)]) (rest := []) (st1 := [.int o5]) (uX9_isIn  ho5) kX9_isIn mX9_116 sX9_isIn zX9 okX9_isIn ⟨Nat.le_of_ble_eq_true rfl, Nat.le_of_ble_eq_true rfl⟩ rfl rfl [] rfl rfl rfl (putl_self _ _ rfl) rfl hl.1 rfl (Nat.le_of_ble_eq_true rfl) ⟨Nat.le_refl 0, Nat.le_refl 0⟩ rfl dX9_flow_40 (fun H locs hH => ?_)
          refine lv_if_ne (tgt := 53) hx hb dX9_flow_43 (by decide) (fun c5 => ?_) (fun c5 => ?_)
          · have h := ie_x h c5
            refine lv_aload_n hx hb dX9_flow_53 rfl (lv_at hl 0 rfl) ?_
            obtain ⟨o6, ho6, h⟩ := bd_x h
            refine r_V X hH (ws1 := (wX9 g a i o6)) (As := []) (rest := []) (st1 := []) (uX9_allThere (a := a) (i := i) ho6) kX9_allThere mX9_230 iX9_allThere vX9_allThere zX9 okX9_allThere ⟨Nat.le_of_ble_eq_true rfl, Nat.le_of_ble_eq_true rfl⟩ rfl rfl (q0 := 0) rfl rfl [0, 1, 2, 3, 4, 5, 6, 7, 8, 9, 10, 11, 12, 13, 14, 15, 16, 17, 18, 19, 20, 21, 22, 23, 24, 25, 26, 27, 28, 29, 30, 31, 32, 33] rfl rfl rfl rfl rfl hl.1 rfl (Nat.le_of_ble_eq_true rfl) ⟨Nat.le_refl 0, Nat.le_refl 0⟩ rfl dX9_flow_54 (fun H locs hH => ?_)
            refine lv_aload_n hx hb dX9_flow_57 rfl (lv_at hl 0 rfl) ?_
            refine lv_iload_n hx hb dX9_flow_58 rfl (lv_at hl 2 rfl) ?_
            obtain ⟨o7, ho7, h⟩ := bd_x h
            refine r_V X hH (ws1 := (wX9 g a i o6)) (As := [.int pb]) (rest := []) (st1 := [.int o7]) (uX9_reach (a := a) (i := i) ho7) kX9_reach mX9_233 iX9_reach vX9_reach zX9 okX9_reach ⟨Nat.le_of_ble_eq_true rfl, Nat.le_of_ble_eq_true rfl⟩ rfl rfl (q0 := 0) rfl rfl [0, 1, 2, 3, 4, 5, 6, 7, 8, 9, 10, 11, 12, 13, 14, 15, 16, 17, 18, 19, 20, 21, 22, 23, 24, 25, 26, 27, 28, 29, 30, 31, 32, 33] rfl rfl rfl (putl_self _ _ rfl) rfl hl.1 rfl (Nat.le_of_ble_eq_true rfl) ⟨Nat.le_refl 0, Nat.le_refl 0⟩ rfl dX9_flow_59 (fun H locs hH => ?_)
            refine lv_iload_n hx hb dX9_flow_62 rfl (lv_at hl 3 rfl) ?_
            obtain ⟨o8, ho8, h⟩ := bd_x h
            refine r_S X hH (ws1 := (wX9 g a i o6)) (As := [.int o7, .int pc_]) (rest := []) (st1 := [.int o8]) (uX9_has  ho8) kX9_has mX9_226 sX9_has zX9 okX9_has ⟨Nat.le_of_ble_eq_true rfl, Nat.le_of_ble_eq_true rfl⟩ rfl rfl [] rfl rfl rfl (putl_self _ _ rfl) rfl hl.1 rfl (Nat.le_of_ble_eq_true rfl) ⟨Nat.le_refl 0, Nat.le_refl 0⟩ rfl dX9_flow_63 (fun H locs hH => ?_)
            refine lv_if_ne (tgt := 76) hx hb dX9_flow_66 (by decide) (fun c6 => ?_) (fun c6 => ?_)
            · have h := ie_x h c6
              refine lv_aload_n hx hb dX9_flow_76 rfl (lv_at hl 0 rfl) ?_
              refine lv_iload_n hx hb dX9_flow_77 rfl (lv_at hl 2 rfl) ?_
              refine lv_iload_n hx hb dX9_flow_78 rfl (lv_at hl 3 rfl) ?_
              refine lv_aload_n hx hb dX9_flow_79 rfl (lv_at hl 0 rfl) ?_
              refine f_get X hH 0 rfl rfl 2 (by decide) inX9 fX9_13 rfl dX9_flow_80 ?_
              refine lv_iload_n hx hb dX9_flow_83 rfl (lv_at hl 1 rfl) ?_
              obtain ⟨j1, ej1, hinj1, h⟩ := ga_x h
              refine a_il X hH 1 rfl hinj1 ej1 dX9_flow_84 ?_
              obtain ⟨o9, ho9, h⟩ := bd_x h
              refine r_V X hH (ws1 := (wX9 g a i o9.2)) (As := [.int pb, .int pc_, .int ((m_first o6) j1)]) (rest := []) (st1 := [.long o9.1]) (uX9_share (a := a) (i := i) ho9) kX9_share mX9_299 iX9_share vX9_share zX9 okX9_share ⟨Nat.le_of_ble_eq_true rfl, Nat.le_of_ble_eq_true rfl⟩ rfl rfl (q0 := 0) rfl rfl [0, 1, 2, 3, 4, 5, 6, 7, 8, 9, 10, 11, 12, 13, 14, 15, 16, 17, 18, 19, 20, 21, 22, 23, 24, 25, 26, 27, 28, 29, 30, 31, 32, 33] rfl rfl rfl rfl rfl hl.1 rfl (Nat.le_of_ble_eq_true rfl) ⟨Nat.le_refl 0, Nat.le_refl 0⟩ rfl dX9_flow_85 (fun H locs hH => ?_)
              refine lv_aload_n hx hb dX9_flow_88 rfl (lv_at hl 0 rfl) ?_
              refine lv_iload_n hx hb dX9_flow_89 rfl (lv_at hl 2 rfl) ?_
              refine lv_iload_n hx hb dX9_flow_90 rfl (lv_at hl 3 rfl) ?_
              refine lv_aload_n hx hb dX9_flow_91 rfl (lv_at hl 0 rfl) ?_
              refine f_get X hH 0 rfl rfl 3 (by decide) inX9 fX9_17 rfl dX9_flow_92 ?_
              refine lv_iload_n hx hb dX9_flow_95 rfl (lv_at hl 1 rfl) ?_
              obtain ⟨j2, ej2, hinj2, h⟩ := ga_x h
              refine a_il X hH 2 rfl hinj2 ej2 dX9_flow_96 ?_
              obtain ⟨o10, ho10, h⟩ := bd_x h
              refine r_V X hH (ws1 := (wX9 g a i o10.2)) (As := [.int pb, .int pc_, .int ((m_second o9.2) j2)]) (rest := [.long o9.1]) (st1 := [.long o10.1, .long o9.1]) (uX9_share (a := a) (i := i) ho10) kX9_share mX9_299 iX9_share vX9_share zX9 okX9_share ⟨Nat.le_of_ble_eq_true rfl, Nat.le_of_ble_eq_true rfl⟩ rfl rfl (q0 := 0) rfl rfl [0, 1, 2, 3, 4, 5, 6, 7, 8, 9, 10, 11, 12, 13, 14, 15, 16, 17, 18, 19, 20, 21, 22, 23, 24, 25, 26, 27, 28, 29, 30, 31, 32, 33] rfl rfl rfl rfl rfl hl.1 rfl (Nat.le_of_ble_eq_true rfl) ⟨Nat.le_refl 0, Nat.le_refl 0⟩ rfl dX9_flow_97 (fun H locs hH => ?_)
              refine lv_lsub hx hb dX9_flow_100 ?_
              obtain ⟨v1, ev1, h⟩ := ltt_x h
              refine s_l X (lv' := [(5, .long v1), (0, .ref (a i)), (1, .int pa), (2, .int pb), (3, .int pc_), (4, .int pd)]) hl ev1 dX9_flow_101 (by decide) rfl (fun ls hl => ?_)
              refine lv_aload_n hx hb dX9_flow_103 rfl (lv_at hl 1 rfl) ?_
              refine lv_iload_n hx hb dX9_flow_104 rfl (lv_at hl 4 rfl) ?_
              obtain ⟨o11, ho11, h⟩ := bd_x h
              refine r_V X hH (ws1 := (wX9 g a i o11)) (As := [.int pc_]) (rest := []) (st1 := []) (uX9_findDown (a := a) (i := i) ho11) kX9_findDown mX9_296 iX9_findDown vX9_findDown zX9 okX9_findDown ⟨Nat.le_of_ble_eq_true rfl, Nat.le_of_ble_eq_true rfl⟩ rfl rfl (q0 := 0) rfl rfl [0, 1, 2, 3, 4, 5, 6, 7, 8, 9, 10, 11, 12, 13, 14, 15, 16, 17, 18, 19, 20, 21, 22, 23, 24, 25, 26, 27, 28, 29, 30, 31, 32, 33] rfl rfl rfl rfl rfl hl.1 rfl (Nat.le_of_ble_eq_true rfl) ⟨Nat.le_refl 0, Nat.le_refl 0⟩ rfl dX9_flow_105 (fun H locs hH => ?_)
              refine lv_lload hx hb dX9_flow_108 (lv_at hl 0 rfl) ?_
              refine lv_aload_n hx hb dX9_flow_110 rfl (lv_at hl 1 rfl) ?_
              refine lv_iload_n hx hb dX9_flow_111 rfl (lv_at hl 2 rfl) ?_
              obtain ⟨o12, ho12, h⟩ := bd_x h
              refine r_V X hH (ws1 := (wX9 g a i o11)) (As := [.int pa]) (rest := [.long v1]) (st1 := [.int o12, .long v1]) (uX9_weight (a := a) (i := i) ho12) kX9_weight mX9_171 iX9_weight vX9_weight zX9 okX9_weight ⟨Nat.le_of_ble_eq_true rfl, Nat.le_of_ble_eq_true rfl⟩ rfl rfl (q0 := 0) rfl rfl [0, 1, 2, 3, 4, 5, 6, 7, 8, 9, 10, 11, 12, 13, 14, 15, 16, 17, 18, 19, 20, 21, 22, 23, 24, 25, 26, 27, 28, 29, 30, 31, 32, 33] rfl rfl rfl (putl_self _ _ rfl) rfl hl.1 rfl (Nat.le_of_ble_eq_true rfl) ⟨Nat.le_refl 0, Nat.le_refl 0⟩ rfl dX9_flow_112 (fun H locs hH => ?_)
              refine lv_i2l hx hb dX9_flow_115 rfl ?_
              refine lv_lmul hx hb dX9_flow_116 ?_
              refine lv_aload_n hx hb dX9_flow_117 rfl (lv_at hl 1 rfl) ?_
              refine f_get X hH 0 rfl rfl 27 (by decide) inX9 fX9_252 rfl dX9_flow_118 ?_
              refine lv_iload hx hb dX9_flow_121 (lv_at hl 5 rfl) ?_
              obtain ⟨o13, ho13, h⟩ := bd_x h
              refine r_S X hH (ws1 := (wX9 g a i o11)) (As := [.long (v1 * (o12.toInt64)), .long (m_down o11), .int pd]) (rest := []) (st1 := [.long o13]) (uX9_partOf  ho13) kX9_partOf mX9_279 sX9_partOf zX9 okX9_partOf ⟨Nat.le_of_ble_eq_true rfl, Nat.le_of_ble_eq_true rfl⟩ rfl rfl [] rfl rfl rfl (putl_self _ _ rfl) rfl hl.1 rfl (Nat.le_of_ble_eq_true rfl) ⟨Nat.le_refl 0, Nat.le_refl 0⟩ rfl dX9_flow_123 (fun H locs hH => ?_)
              cases h
              exact e_l X hH dX9_flow_126
            · have h := it_x h c6
              refine lv_aload_n hx hb dX9_flow_69 rfl (lv_at hl 0 rfl) ?_
              refine lv_bipush (v := (-3 : Int32)) hx hb dX9_flow_70 (by decide) ?_
              obtain ⟨o14, ho14, h⟩ := bd_x h
              refine r_V X hH (ws1 := (wX9 g a i o14.2)) (As := [.int (-3 : Int32)]) (rest := []) (st1 := [.long o14.1]) (uX9_far (a := a) (i := i) ho14) kX9_far mX9_272 iX9_far vX9_far zX9 okX9_far ⟨Nat.le_of_ble_eq_true rfl, Nat.le_of_ble_eq_true rfl⟩ rfl rfl (q0 := 0) rfl rfl [0, 1, 2, 3, 4, 5, 6, 7, 8, 9, 10, 11, 12, 13, 14, 15, 16, 17, 18, 19, 20, 21, 22, 23, 24, 25, 26, 27, 28, 29, 30, 31, 32, 33] rfl rfl rfl rfl rfl hl.1 rfl (Nat.le_of_ble_eq_true rfl) ⟨Nat.le_refl 0, Nat.le_refl 0⟩ rfl dX9_flow_72 (fun H locs hH => ?_)
              cases h
              exact e_l X hH dX9_flow_75
          · have h := it_x h c5
            refine lv_aload_n hx hb dX9_flow_46 rfl (lv_at hl 0 rfl) ?_
            refine lv_bipush (v := (-2 : Int32)) hx hb dX9_flow_47 (by decide) ?_
            obtain ⟨o15, ho15, h⟩ := bd_x h
            refine r_V X hH (ws1 := (wX9 g a i o15.2)) (As := [.int (-2 : Int32)]) (rest := []) (st1 := [.long o15.1]) (uX9_far (a := a) (i := i) ho15) kX9_far mX9_272 iX9_far vX9_far zX9 okX9_far ⟨Nat.le_of_ble_eq_true rfl, Nat.le_of_ble_eq_true rfl⟩ rfl rfl (q0 := 0) rfl rfl [0, 1, 2, 3, 4, 5, 6, 7, 8, 9, 10, 11, 12, 13, 14, 15, 16, 17, 18, 19, 20, 21, 22, 23, 24, 25, 26, 27, 28, 29, 30, 31, 32, 33] rfl rfl rfl rfl rfl hl.1 rfl (Nat.le_of_ble_eq_true rfl) ⟨Nat.le_refl 0, Nat.le_refl 0⟩ rfl dX9_flow_49 (fun H locs hH => ?_)
            cases h
            exact e_l X hH dX9_flow_52
        · have h := it_x h c4
          exact pX9_flow_29 X  xs H locs ls h hH (lv_sub hl [0, 1, 2, 3, 4] rfl)

def fX9_isLess (pa : Int64) (pb : Int64) (pc_ : Int64) (pd : Int64) : Option Int32 :=
  gzl (pb) <|
  ltt ((pa / pb)) fun v1 =>
  gzl (pd) <|
  ltt ((pc_ / pd)) fun v2 =>
  (if v1 = v2 then
  gzl (pb) <|
  gzl (pd) <|
  (if ((pc_ - pc_ / pd * pd) * pb) ≤ ((pa - pa / pb * pb) * pd) then
  some (0 : Int32)
  else
  some (1 : Int32))
  else
  (if v2 ≤ v1 then
  some (0 : Int32)
  else
  some (1 : Int32)))
set_option maxHeartbeats 4000000 in
set_option maxRecDepth 100000 in
theorem uX9_isLess {l : Launch} {g : GG}  {pa : Int64} {pb : Int64} {pc_ : Int64} {pd : Int64} {o : Int32} (h : fX9_isLess pa pb pc_ pd = some o) : mC l g yX9_isLess cX9_isLess 12 (some .boolean) (rM 0 0) [.long pa, .long pb, .long pc_, .long pd] [] [] (some (.int o)) := by
  refine mC.ofW (by decide) (fun p e s m below meth c X hH ls _ hl => ?_) (Nat.le_of_ble_eq_true rfl)
  have hx := X.1
  have hb := X.2.1
  have hl : lv_has ls 12 [(0, .long pa), (2, .long pb), (4, .long pc_), (6, .long pd)] := hl
  unfold fX9_isLess at h
  suffices HH : ∀ (H : Heap) (locs : List Loc), mH g s [] [] H locs → W p l e (rM 0 0) s m _ below meth c H locs 0 0 (mZ g below _ s [] [] (some (.int o))) (F0 m 0 ls []) from HH _ _ hH
  clear hH
  intro H locs hH
  refine lv_lload_n hx hb dX9_isLess_0 rfl (lv_at hl 0 rfl) ?_
  refine lv_lload_n hx hb dX9_isLess_1 rfl (lv_at hl 1 rfl) ?_
  obtain ⟨z1, h⟩ := gzl_x h
  refine lv_ldiv hx hb dX9_isLess_2 z1 ?_
  obtain ⟨v1, ev1, h⟩ := ltt_x h
  refine s_l X (lv' := [(8, .long v1), (0, .long pa), (2, .long pb), (4, .long pc_), (6, .long pd)]) hl ev1 dX9_isLess_3 (by decide) rfl (fun ls hl => ?_)
  refine lv_lload hx hb dX9_isLess_5 (lv_at hl 3 rfl) ?_
  refine lv_lload hx hb dX9_isLess_7 (lv_at hl 4 rfl) ?_
  obtain ⟨z2, h⟩ := gzl_x h
  refine lv_ldiv hx hb dX9_isLess_9 z2 ?_
  obtain ⟨v2, ev2, h⟩ := ltt_x h
  refine s_l X (lv' := [(10, .long v2), (8, .long v1), (0, .long pa), (2, .long pb), (4, .long pc_), (6, .long pd)]) hl ev2 dX9_isLess_10 (by decide) rfl (fun ls hl => ?_)
  refine lv_lload hx hb dX9_isLess_12 (lv_at hl 1 rfl) ?_
  refine lv_lload hx hb dX9_isLess_14 (lv_at hl 0 rfl) ?_
  refine W.lcmp hx hb dX9_isLess_16 ?_
  refine lv_if_eq (tgt := 36) hx hb dX9_isLess_17 (by decide) (fun c1 => ?_) (fun c1 => ?_)
  · have h := it_x h ((lg_cmp_eq v1 v2).mp c1)
    refine lv_lload_n hx hb dX9_isLess_36 rfl (lv_at hl 2 rfl) ?_
    refine lv_lload_n hx hb dX9_isLess_37 rfl (lv_at hl 3 rfl) ?_
    obtain ⟨z3, h⟩ := gzl_x h
    refine lv_lrem hx hb dX9_isLess_38 z3 ?_
    refine lv_lload hx hb dX9_isLess_39 (lv_at hl 5 rfl) ?_
    refine lv_lmul hx hb dX9_isLess_41 ?_
    refine lv_lload hx hb dX9_isLess_42 (lv_at hl 4 rfl) ?_
    refine lv_lload hx hb dX9_isLess_44 (lv_at hl 5 rfl) ?_
    obtain ⟨z4, h⟩ := gzl_x h
    refine lv_lrem hx hb dX9_isLess_46 z4 ?_
    refine lv_lload_n hx hb dX9_isLess_47 rfl (lv_at hl 3 rfl) ?_
    refine lv_lmul hx hb dX9_isLess_48 ?_
    refine W.lcmp hx hb dX9_isLess_49 ?_
    refine lv_if_ge (tgt := 57) hx hb dX9_isLess_50 (by decide) (fun c2 => ?_) (fun c2 => ?_)
    · have h := it_x h ((lg_cmp_ge ((pa - pa / pb * pb) * pd) ((pc_ - pc_ / pd * pd) * pb)).mp c2)
      refine lv_iconst (v := (0 : Int32)) hx hb dX9_isLess_57 (by decide) ?_
      cases h
      exact e_z X hH (by decide) dX9_isLess_58
    · have h := ie_x h (mt (lg_cmp_ge ((pa - pa / pb * pb) * pd) ((pc_ - pc_ / pd * pd) * pb)).mpr c2)
      refine lv_iconst (v := (1 : Int32)) hx hb dX9_isLess_53 (by decide) ?_
      refine lv_goto (tgt := 58) hx hb dX9_isLess_54 (by decide) ?_
      cases h
      exact e_z X hH (by decide) dX9_isLess_58
  · have h := ie_x h (mt (lg_cmp_eq v1 v2).mpr c1)
    refine lv_lload hx hb dX9_isLess_20 (lv_at hl 1 rfl) ?_
    refine lv_lload hx hb dX9_isLess_22 (lv_at hl 0 rfl) ?_
    refine W.lcmp hx hb dX9_isLess_24 ?_
    refine lv_if_ge (tgt := 32) hx hb dX9_isLess_25 (by decide) (fun c3 => ?_) (fun c3 => ?_)
    · have h := it_x h ((lg_cmp_ge v1 v2).mp c3)
      refine lv_iconst (v := (0 : Int32)) hx hb dX9_isLess_32 (by decide) ?_
      refine lv_goto (tgt := 58) hx hb dX9_isLess_33 (by decide) ?_
      cases h
      exact e_z X hH (by decide) dX9_isLess_58
    · have h := ie_x h (mt (lg_cmp_ge v1 v2).mpr c3)
      refine lv_iconst (v := (1 : Int32)) hx hb dX9_isLess_28 (by decide) ?_
      refine lv_goto (tgt := 58) hx hb dX9_isLess_29 (by decide) ?_
      cases h
      exact e_z X hH (by decide) dX9_isLess_58

def qX9_added_21 (pa : Int32) (pb : Int32)  (xs : SX9) : Option (Int32 × SX9) :=
  (fX9_no xs (-1 : Int32)).bind fun o2 =>
  some (o2.1, o2.2)
def qX9_added_225 (pa : Int32) (pb : Int32) (k135 : SX9 → Int32 → Int64 → Int64 → Int32 → Int32 → Int32 → Option (Int32 × SX9)) (xs : SX9) (l3 : Int32) (l4 : Int64) (l6 : Int64) (l8 : Int32) (l9 : Int32) (l10 : Int32) : Option (Int32 × SX9) :=
  ltt (l10 + (1 : Int32)) fun v5 =>
  k135 xs l3 l4 l6 l8 l9 v5
def qX9_added_201 (pa : Int32) (pb : Int32) (k225 : SX9 → Int32 → Int64 → Int64 → Int32 → Int32 → Int32 → Option (Int32 × SX9)) (xs : SX9) (l9 : Int32) (l10 : Int32) : Option (Int32 × SX9) :=
  ltt ((((10 : Int32) * l9) + l10)) fun v6 =>
  ltt ((m_up xs)) fun v7 =>
  ltt ((m_down xs)) fun v8 =>
  k225 xs (1 : Int32) v7 v8 v6 l9 l10
def qX9_added_135 (pa : Int32) (pb : Int32) (k120 : SX9 → Int32 → Int64 → Int64 → Int32 → Int32 → Option (Int32 × SX9)) : Nat → SX9 → Int32 → Int64 → Int64 → Int32 → Int32 → Int32 → Option (Int32 × SX9)
  | 0, _, _, _, _, _, _, _ => none
  | fu + 1, xs, l3, l4, l6, l8, l9, l10 =>
  (if (m_points xs) ≤ l10 then
  ltt (l9 + (1 : Int32)) fun v4 =>
  k120 xs l3 l4 l6 l8 v4
  else
  ga 11 (m_many xs) fun j5 =>
  ltt ((m_first_s xs (upd (m_first xs) j5 l9))) fun xs7 =>
  ga 11 (m_many xs7) fun j6 =>
  ltt ((m_second_s xs7 (upd (m_second xs7) j6 l10))) fun xs8 =>
  (fX9_findTime xs8 pa pb (0 : Int32)).bind fun o6 =>
  (if o6.1 = (0 : Int32) then
  qX9_added_225 pa pb (qX9_added_135 pa pb k120 fu) o6.2 l3 l4 l6 l8 l9 l10
  else
  (if l3 = (0 : Int32) then
  qX9_added_201 pa pb (qX9_added_225 pa pb (qX9_added_135 pa pb k120 fu)) o6.2 l9 l10
  else
  (fX9_isLess (m_up o6.2) (m_down o6.2) l4 l6).bind fun o7 =>
  (if o7 = (0 : Int32) then
  qX9_added_225 pa pb (qX9_added_135 pa pb k120 fu) o6.2 l3 l4 l6 l8 l9 l10
  else
  qX9_added_201 pa pb (qX9_added_225 pa pb (qX9_added_135 pa pb k120 fu)) o6.2 l9 l10))))
def qX9_added_120 (pa : Int32) (pb : Int32)  : Nat → SX9 → Int32 → Int64 → Int64 → Int32 → Int32 → Option (Int32 × SX9)
  | 0, _, _, _, _, _, _ => none
  | fu + 1, xs, l3, l4, l6, l8, l9 =>
  (if (m_points xs) ≤ l9 then
  some (l8, xs)
  else
  ltt ((l9 + (1 : Int32))) fun v3 =>
  qX9_added_135 pa pb (qX9_added_120 pa pb  fu) FU xs l3 l4 l6 l8 l9 v3)
def fX9_added (xs : SX9) (pa : Int32) (pb : Int32) : Option (Int32 × SX9) :=
  (fX9_isPoint xs pa).bind fun o1 =>
  (if o1 = (0 : Int32) then
  qX9_added_21 pa pb xs
  else
  (fX9_isPoint xs pb).bind fun o3 =>
  (if o3 = (0 : Int32) then
  qX9_added_21 pa pb xs
  else
  (if pa = pb then
  qX9_added_21 pa pb xs
  else
  (fX9_allThere xs).bind fun o4 =>
  (fX9_findTime o4 pa pb (0 : Int32)).bind fun o5 =>
  ltt ((m_up o5.2)) fun v1 =>
  ltt ((m_down o5.2)) fun v2 =>
  ltt ((m_all_s o5.2 ((m_many o5.2) + (1 : Int32)))) fun xs1 =>
  ltt ((m_there_s xs1 (((1 : Int32) <<< ((m_all xs1) &&& 31)) - (1 : Int32)))) fun xs2 =>
  ga 11 (m_many xs2) fun j1 =>
  ltt ((m_kind_s xs2 (upd (m_kind xs2) j1 (0 : Int32)))) fun xs3 =>
  ga 11 (m_many xs3) fun j2 =>
  ltt ((m_figure_s xs3 (upd (m_figure xs3) j2 (0 : Int32)))) fun xs4 =>
  ga 11 (m_many xs4) fun j3 =>
  ltt ((m_load_s xs4 (upd (m_load xs4) j3 (1 : Int32)))) fun xs5 =>
  ga 11 (m_many xs5) fun j4 =>
  ltt ((m_length_s xs5 (upd (m_length xs5) j4 (1 : Int32)))) fun xs6 =>
  qX9_added_120 pa pb FU xs6 o5.1 v1 v2 (-9 : Int32) (0 : Int32))))
set_option maxHeartbeats 4000000 in
set_option maxRecDepth 100000 in
theorem pX9_added_21 {p : Program} {l : Launch} {e : Env} {s : State} {m : MethodId} {args : Array Value} {below : List Frame} {meth : Method} {c : Code} {g : GG} {w0 : va_W} {a : Nat → Nat} {i : Nat} {pa : Int32} {pb : Int32} {o : (Int32 × SX9)} (X : mX g yX9_added cX9_added 11 (some .int) p s m args meth c w0) :
  ∀ (xs : SX9) (H : Heap) (locs : List Loc) (ls : Array Slot), qX9_added_21 pa pb xs = some o → mH g s w0 (wX9 g a i xs) H locs → lv_has ls 11 [(0, .ref (a i)), (1, .int pa), (2, .int pb)] → W p l e (rM 5 117) s m args below meth c H locs 0 0 (mZ g below args s w0 (wX9 g a i o.2) (some (.int o.1))) (F0 m 21 ls []) := by
  have hx := X.1
  have hb := X.2.1
  intro xs H locs ls h hH hl
  unfold qX9_added_21 at h
  refine lv_aload_n hx hb dX9_added_21 rfl (lv_at hl 0 rfl) ?_
  refine lv_iconst (v := (-1 : Int32)) hx hb dX9_added_22 (by decide) ?_
  obtain ⟨o2, ho2, h⟩ := bd_x h
  refine r_V X hH (ws1 := (wX9 g a i o2.2)) (As := [.int (-1 : Int32)]) (rest := []) (st1 := [.int o2.1]) (uX9_no (a := a) (i := i) ho2) kX9_no mX9_125 iX9_no vX9_no zX9 okX9_no ⟨Nat.le_of_ble_eq_true rfl, Nat.le_of_ble_eq_true rfl⟩ rfl rfl (q0 := 0) rfl rfl [0, 1, 2, 3, 4, 5, 6, 7, 8, 9, 10, 11, 12, 13, 14, 15, 16, 17, 18, 19, 20, 21, 22, 23, 24, 25, 26, 27, 28, 29, 30, 31, 32, 33] rfl rfl rfl rfl rfl hl.1 rfl (Nat.le_of_ble_eq_true rfl) ⟨Nat.le_refl 0, Nat.le_refl 0⟩ rfl dX9_added_23 (fun H locs hH => ?_)
  cases h
  exact e_i X hH dX9_added_26
set_option maxHeartbeats 4000000 in
set_option maxRecDepth 100000 in
theorem pX9_added_225 {p : Program} {l : Launch} {e : Env} {s : State} {m : MethodId} {args : Array Value} {below : List Frame} {meth : Method} {c : Code} {g : GG} {w0 : va_W} {a : Nat → Nat} {i : Nat} {pa : Int32} {pb : Int32} {o : (Int32 × SX9)} (X : mX g yX9_added cX9_added 11 (some .int) p s m args meth c w0)
  {k135 : SX9 → Int32 → Int64 → Int64 → Int32 → Int32 → Int32 → Option (Int32 × SX9)} (K135 : ∀ (xs : SX9) (l3 : Int32) (l4 : Int64) (l6 : Int64) (l8 : Int32) (l9 : Int32) (l10 : Int32) (H : Heap) (locs : List Loc) (ls : Array Slot), k135 xs l3 l4 l6 l8 l9 l10 = some o → mH g s w0 (wX9 g a i xs) H locs → lv_has ls 11 [(0, .ref (a i)), (1, .int pa), (2, .int pb), (3, .int l3), (4, .long l4), (6, .long l6), (8, .int l8), (9, .int l9), (10, .int l10)] → W p l e (rM 5 117) s m args below meth c H locs 0 0 (mZ g below args s w0 (wX9 g a i o.2) (some (.int o.1))) (F0 m 135 ls [])) :
  ∀ (xs : SX9) (l3 : Int32) (l4 : Int64) (l6 : Int64) (l8 : Int32) (l9 : Int32) (l10 : Int32) (H : Heap) (locs : List Loc) (ls : Array Slot), qX9_added_225 pa pb k135 xs l3 l4 l6 l8 l9 l10 = some o → mH g s w0 (wX9 g a i xs) H locs → lv_has ls 11 [(0, .ref (a i)), (1, .int pa), (2, .int pb), (3, .int l3), (4, .long l4), (6, .long l6), (8, .int l8), (9, .int l9), (10, .int l10)] → W p l e (rM 5 117) s m args below meth c H locs 0 0 (mZ g below args s w0 (wX9 g a i o.2) (some (.int o.1))) (F0 m 225 ls []) := by
  have hx := X.1
  have hb := X.2.1
  intro xs l3 l4 l6 l8 l9 l10 H locs ls h hH hl
  unfold qX9_added_225 at h
  obtain ⟨v5, ev5, h⟩ := ltt_x h
  refine s_inc X (k := 8) (lv' := [(10, .int v5), (0, .ref (a i)), (1, .int pa), (2, .int pb), (3, .int l3), (4, .long l4), (6, .long l6), (8, .int l8), (9, .int l9)]) hl rfl (by rw [ev5]; rfl) dX9_added_225 (by decide) rfl (fun ls hl => ?_)
  refine lv_goto (tgt := 135) hx hb dX9_added_228 (by decide) ?_
  exact K135 xs l3 l4 l6 l8 l9 v5 H locs ls h hH (lv_sub hl [1, 2, 3, 4, 5, 6, 7, 8, 0] rfl)
set_option maxHeartbeats 4000000 in
set_option maxRecDepth 100000 in
theorem pX9_added_201 {p : Program} {l : Launch} {e : Env} {s : State} {m : MethodId} {args : Array Value} {below : List Frame} {meth : Method} {c : Code} {g : GG} {w0 : va_W} {a : Nat → Nat} {i : Nat} {pa : Int32} {pb : Int32} {o : (Int32 × SX9)} (X : mX g yX9_added cX9_added 11 (some .int) p s m args meth c w0)
  {k225 : SX9 → Int32 → Int64 → Int64 → Int32 → Int32 → Int32 → Option (Int32 × SX9)} (K225 : ∀ (xs : SX9) (l3 : Int32) (l4 : Int64) (l6 : Int64) (l8 : Int32) (l9 : Int32) (l10 : Int32) (H : Heap) (locs : List Loc) (ls : Array Slot), k225 xs l3 l4 l6 l8 l9 l10 = some o → mH g s w0 (wX9 g a i xs) H locs → lv_has ls 11 [(0, .ref (a i)), (1, .int pa), (2, .int pb), (3, .int l3), (4, .long l4), (6, .long l6), (8, .int l8), (9, .int l9), (10, .int l10)] → W p l e (rM 5 117) s m args below meth c H locs 0 0 (mZ g below args s w0 (wX9 g a i o.2) (some (.int o.1))) (F0 m 225 ls [])) :
  ∀ (xs : SX9) (l9 : Int32) (l10 : Int32) (H : Heap) (locs : List Loc) (ls : Array Slot), qX9_added_201 pa pb k225 xs l9 l10 = some o → mH g s w0 (wX9 g a i xs) H locs → lv_has ls 11 [(0, .ref (a i)), (1, .int pa), (2, .int pb), (9, .int l9), (10, .int l10)] → W p l e (rM 5 117) s m args below meth c H locs 0 0 (mZ g below args s w0 (wX9 g a i o.2) (some (.int o.1))) (F0 m 201 ls []) := by
  have hx := X.1
  have hb := X.2.1
  intro xs l9 l10 H locs ls h hH hl
  unfold qX9_added_201 at h
  refine lv_iconst (v := (1 : Int32)) hx hb dX9_added_201 (by decide) ?_
  refine s_in X (lv' := [(3, .int (1 : Int32)), (0, .ref (a i)), (1, .int pa), (2, .int pb), (9, .int l9), (10, .int l10)]) hl rfl dX9_added_202 rfl (by decide) rfl (fun ls hl => ?_)
  refine lv_bipush (v := (10 : Int32)) hx hb dX9_added_203 (by decide) ?_
  refine lv_iload hx hb dX9_added_205 (lv_at hl 4 rfl) ?_
  refine lv_imul hx hb dX9_added_207 ?_
  refine lv_iload hx hb dX9_added_208 (lv_at hl 5 rfl) ?_
  refine lv_iadd hx hb dX9_added_210 ?_
  obtain ⟨v6, ev6, h⟩ := ltt_x h
  refine s_i X (lv' := [(8, .int v6), (3, .int (1 : Int32)), (0, .ref (a i)), (1, .int pa), (2, .int pb), (9, .int l9), (10, .int l10)]) hl ev6 dX9_added_211 (by decide) rfl (fun ls hl => ?_)
  refine lv_aload_n hx hb dX9_added_213 rfl (lv_at hl 2 rfl) ?_
  refine f_get X hH 0 rfl rfl 26 (by decide) inX9 fX9_248 rfl dX9_added_214 ?_
  obtain ⟨v7, ev7, h⟩ := ltt_x h
  refine s_l X (lv' := [(4, .long v7), (8, .int v6), (3, .int (1 : Int32)), (0, .ref (a i)), (1, .int pa), (2, .int pb), (9, .int l9), (10, .int l10)]) hl ev7 dX9_added_217 (by decide) rfl (fun ls hl => ?_)
  refine lv_aload_n hx hb dX9_added_219 rfl (lv_at hl 3 rfl) ?_
  refine f_get X hH 0 rfl rfl 27 (by decide) inX9 fX9_252 rfl dX9_added_220 ?_
  obtain ⟨v8, ev8, h⟩ := ltt_x h
  refine s_l X (lv' := [(6, .long v8), (4, .long v7), (8, .int v6), (3, .int (1 : Int32)), (0, .ref (a i)), (1, .int pa), (2, .int pb), (9, .int l9), (10, .int l10)]) hl ev8 dX9_added_223 (by decide) rfl (fun ls hl => ?_)
  exact K225 xs (1 : Int32) v7 v8 v6 l9 l10 H locs ls h hH (lv_sub hl [4, 5, 6, 3, 1, 0, 2, 7, 8] rfl)
set_option maxHeartbeats 4000000 in
set_option maxRecDepth 100000 in
theorem pX9_added_135 {p : Program} {l : Launch} {e : Env} {s : State} {m : MethodId} {args : Array Value} {below : List Frame} {meth : Method} {c : Code} {g : GG} {w0 : va_W} {a : Nat → Nat} {i : Nat} {pa : Int32} {pb : Int32} {o : (Int32 × SX9)} (X : mX g yX9_added cX9_added 11 (some .int) p s m args meth c w0)
  {k120 : SX9 → Int32 → Int64 → Int64 → Int32 → Int32 → Option (Int32 × SX9)} (K120 : ∀ (xs : SX9) (l3 : Int32) (l4 : Int64) (l6 : Int64) (l8 : Int32) (l9 : Int32) (H : Heap) (locs : List Loc) (ls : Array Slot), k120 xs l3 l4 l6 l8 l9 = some o → mH g s w0 (wX9 g a i xs) H locs → lv_has ls 11 [(0, .ref (a i)), (1, .int pa), (2, .int pb), (3, .int l3), (4, .long l4), (6, .long l6), (8, .int l8), (9, .int l9)] → W p l e (rM 5 117) s m args below meth c H locs 0 0 (mZ g below args s w0 (wX9 g a i o.2) (some (.int o.1))) (F0 m 120 ls [])) :
  ∀ (fu : Nat) (xs : SX9) (l3 : Int32) (l4 : Int64) (l6 : Int64) (l8 : Int32) (l9 : Int32) (l10 : Int32) (H : Heap) (locs : List Loc) (ls : Array Slot), qX9_added_135 pa pb k120 fu xs l3 l4 l6 l8 l9 l10 = some o → mH g s w0 (wX9 g a i xs) H locs → lv_has ls 11 [(0, .ref (a i)), (1, .int pa), (2, .int pb), (3, .int l3), (4, .long l4), (6, .long l6), (8, .int l8), (9, .int l9), (10, .int l10)] → W p l e (rM 5 117) s m args below meth c H locs 0 0 (mZ g below args s w0 (wX9 g a i o.2) (some (.int o.1))) (F0 m 135 ls []) := by
  have hx := X.1
  have hb := X.2.1
  intro fu
  induction fu with
  | zero =>
    intro xs l3 l4 l6 l8 l9 l10 H locs ls h
    unfold qX9_added_135 at h
    cases h
  | succ fu ih =>
    intro xs l3 l4 l6 l8 l9 l10 H locs ls h hH hl
    unfold qX9_added_135 at h
    refine lv_iload hx hb dX9_added_135 (lv_at hl 8 rfl) ?_
    refine lv_aload_n hx hb dX9_added_137 rfl (lv_at hl 0 rfl) ?_
    refine f_get X hH 0 rfl rfl 0 (by decide) inX9 fX9_7 rfl dX9_added_138 ?_
    refine lv_icmp_ge (tgt := 231) hx hb dX9_added_141 (by decide) (fun c5 => ?_) (fun c5 => ?_)
    · have h := it_x h c5
      obtain ⟨v4, ev4, h⟩ := ltt_x h
      refine s_inc X (k := 7) (lv' := [(9, .int v4), (0, .ref (a i)), (1, .int pa), (2, .int pb), (3, .int l3), (4, .long l4), (6, .long l6), (8, .int l8), (10, .int l10)]) hl rfl (by rw [ev4]; rfl) dX9_added_231 (by decide) rfl (fun ls hl => ?_)
      refine lv_goto (tgt := 120) hx hb dX9_added_234 (by decide) ?_
      exact K120 xs l3 l4 l6 l8 v4 H locs ls h hH (lv_sub hl [1, 2, 3, 4, 5, 6, 7, 0] rfl)
    · have h := ie_x h c5
      refine lv_aload_n hx hb dX9_added_144 rfl (lv_at hl 0 rfl) ?_
      refine f_get X hH 0 rfl rfl 2 (by decide) inX9 fX9_13 rfl dX9_added_145 ?_
      refine lv_aload_n hx hb dX9_added_148 rfl (lv_at hl 0 rfl) ?_
      refine f_get X hH 0 rfl rfl 1 (by decide) inX9 fX9_120 rfl dX9_added_149 ?_
      refine lv_iload hx hb dX9_added_152 (lv_at hl 7 rfl) ?_
      obtain ⟨j5, ej5, hinj5, h⟩ := ga_x h
      obtain ⟨xs7, exs7, h⟩ := ltt_x h
      refine a_is X hH (ws1 := (wX9 g a i xs7)) 1 rfl hinj5 ej5 (by rw [exs7]; rfl) dX9_added_154 (fun H locs hH => ?_)
      refine lv_aload_n hx hb dX9_added_155 rfl (lv_at hl 0 rfl) ?_
      refine f_get X hH 0 rfl rfl 3 (by decide) inX9 fX9_17 rfl dX9_added_156 ?_
      refine lv_aload_n hx hb dX9_added_159 rfl (lv_at hl 0 rfl) ?_
      refine f_get X hH 0 rfl rfl 1 (by decide) inX9 fX9_120 rfl dX9_added_160 ?_
      refine lv_iload hx hb dX9_added_163 (lv_at hl 8 rfl) ?_
      obtain ⟨j6, ej6, hinj6, h⟩ := ga_x h
      obtain ⟨xs8, exs8, h⟩ := ltt_x h
      refine a_is X hH (ws1 := (wX9 g a i xs8)) 2 rfl hinj6 ej6 (by rw [exs8]; rfl) dX9_added_165 (fun H locs hH => ?_)
      refine lv_aload_n hx hb dX9_added_166 rfl (lv_at hl 0 rfl) ?_
      refine lv_iload_n hx hb dX9_added_167 rfl (lv_at hl 1 rfl) ?_
      refine lv_iload_n hx hb dX9_added_168 rfl (lv_at hl 2 rfl) ?_
      refine lv_iconst (v := (0 : Int32)) hx hb dX9_added_169 (by decide) ?_
      obtain ⟨o6, ho6, h⟩ := bd_x h
      refine r_V X hH (ws1 := (wX9 g a i o6.2)) (As := [.int pa, .int pb, .int (0 : Int32)]) (rest := []) (st1 := [.int o6.1]) (uX9_findTime (a := a) (i := i) ho6) kX9_findTime mX9_275 iX9_findTime vX9_findTime zX9 okX9_findTime ⟨Nat.le_of_ble_eq_true rfl, Nat.le_of_ble_eq_true rfl⟩ rfl rfl (q0 := 0) rfl rfl [0, 1, 2, 3, 4, 5, 6, 7, 8, 9, 10, 11, 12, 13, 14, 15, 16, 17, 18, 19, 20, 21, 22, 23, 24, 25, 26, 27, 28, 29, 30, 31, 32, 33] rfl rfl rfl rfl rfl hl.1 rfl (Nat.le_of_ble_eq_true rfl) ⟨Nat.le_refl 0, Nat.le_refl 0⟩ rfl dX9_added_170 (fun H locs hH => ?_)
      refine lv_if_eq (tgt := 225) hx hb dX9_added_173 (by decide) (fun c6 => ?_) (fun c6 => ?_)
      · have h := it_x h c6
        exact pX9_added_225 X ih o6.2 l3 l4 l6 l8 l9 l10 H locs ls h hH (lv_sub hl [0, 1, 2, 3, 4, 5, 6, 7, 8] rfl)
      · have h := ie_x h c6
        refine lv_iload_n hx hb dX9_added_176 rfl (lv_at hl 3 rfl) ?_
        refine lv_if_eq (tgt := 201) hx hb dX9_added_177 (by decide) (fun c7 => ?_) (fun c7 => ?_)
        · have h := it_x h c7
          exact pX9_added_201 X (pX9_added_225 X ih) o6.2 l9 l10 H locs ls h hH (lv_sub hl [0, 1, 2, 7, 8] rfl)
        · have h := ie_x h c7
          refine lv_aload_n hx hb dX9_added_180 rfl (lv_at hl 0 rfl) ?_
          refine f_get X hH 0 rfl rfl 26 (by decide) inX9 fX9_248 rfl dX9_added_181 ?_
          refine lv_aload_n hx hb dX9_added_184 rfl (lv_at hl 0 rfl) ?_
          refine f_get X hH 0 rfl rfl 27 (by decide) inX9 fX9_252 rfl dX9_added_185 ?_
          refine lv_lload hx hb dX9_added_188 (lv_at hl 4 rfl) ?_
          refine lv_lload hx hb dX9_added_190 (lv_at hl 5 rfl) ?_
          obtain ⟨o7, ho7, h⟩ := bd_x h
          refine r_S X hH (ws1 := (wX9 g a i o6.2)) (As := [.long (m_up o6.2), .long (m_down o6.2), .long l4, .long l6]) (rest := []) (st1 := [.int o7]) (uX9_isLess  ho7) kX9_isLess mX9_306 sX9_isLess zX9 okX9_isLess ⟨Nat.le_of_ble_eq_true rfl, Nat.le_of_ble_eq_true rfl⟩ rfl rfl [] rfl rfl rfl (putl_self _ _ rfl) rfl hl.1 rfl (Nat.le_of_ble_eq_true rfl) ⟨Nat.le_refl 0, Nat.le_refl 0⟩ rfl dX9_added_192 (fun H locs hH => ?_)
          refine lv_if_ne (tgt := 201) hx hb dX9_added_195 (by decide) (fun c8 => ?_) (fun c8 => ?_)
          · have h := ie_x h c8
            exact pX9_added_201 X (pX9_added_225 X ih) o6.2 l9 l10 H locs ls h hH (lv_sub hl [0, 1, 2, 7, 8] rfl)
          · have h := it_x h c8
            refine lv_goto (tgt := 225) hx hb dX9_added_198 (by decide) ?_
            exact pX9_added_225 X ih o6.2 l3 l4 l6 l8 l9 l10 H locs ls h hH (lv_sub hl [0, 1, 2, 3, 4, 5, 6, 7, 8] rfl)
set_option maxHeartbeats 4000000 in
set_option maxRecDepth 100000 in
theorem pX9_added_120 {p : Program} {l : Launch} {e : Env} {s : State} {m : MethodId} {args : Array Value} {below : List Frame} {meth : Method} {c : Code} {g : GG} {w0 : va_W} {a : Nat → Nat} {i : Nat} {pa : Int32} {pb : Int32} {o : (Int32 × SX9)} (X : mX g yX9_added cX9_added 11 (some .int) p s m args meth c w0) :
  ∀ (fu : Nat) (xs : SX9) (l3 : Int32) (l4 : Int64) (l6 : Int64) (l8 : Int32) (l9 : Int32) (H : Heap) (locs : List Loc) (ls : Array Slot), qX9_added_120 pa pb fu xs l3 l4 l6 l8 l9 = some o → mH g s w0 (wX9 g a i xs) H locs → lv_has ls 11 [(0, .ref (a i)), (1, .int pa), (2, .int pb), (3, .int l3), (4, .long l4), (6, .long l6), (8, .int l8), (9, .int l9)] → W p l e (rM 5 117) s m args below meth c H locs 0 0 (mZ g below args s w0 (wX9 g a i o.2) (some (.int o.1))) (F0 m 120 ls []) := by
  have hx := X.1
  have hb := X.2.1
  intro fu
  induction fu with
  | zero =>
    intro xs l3 l4 l6 l8 l9 H locs ls h
    unfold qX9_added_120 at h
    cases h
  | succ fu ih =>
    intro xs l3 l4 l6 l8 l9 H locs ls h hH hl
    unfold qX9_added_120 at h
    refine lv_iload hx hb dX9_added_120 (lv_at hl 7 rfl) ?_
    refine lv_aload_n hx hb dX9_added_122 rfl (lv_at hl 0 rfl) ?_
    refine f_get X hH 0 rfl rfl 0 (by decide) inX9 fX9_7 rfl dX9_added_123 ?_
    refine lv_icmp_ge (tgt := 237) hx hb dX9_added_126 (by decide) (fun c4 => ?_) (fun c4 => ?_)
    · have h := it_x h c4
      refine lv_iload hx hb dX9_added_237 (lv_at hl 6 rfl) ?_
      cases h
      exact e_i X hH dX9_added_239
    · have h := ie_x h c4
      refine lv_iload hx hb dX9_added_129 (lv_at hl 7 rfl) ?_
      refine lv_iconst (v := (1 : Int32)) hx hb dX9_added_131 (by decide) ?_
      refine lv_iadd hx hb dX9_added_132 ?_
      obtain ⟨v3, ev3, h⟩ := ltt_x h
      refine s_i X (lv' := [(10, .int v3), (0, .ref (a i)), (1, .int pa), (2, .int pb), (3, .int l3), (4, .long l4), (6, .long l6), (8, .int l8), (9, .int l9)]) hl ev3 dX9_added_133 (by decide) rfl (fun ls hl => ?_)
      exact pX9_added_135 X ih FU xs l3 l4 l6 l8 l9 v3 H locs ls h hH (lv_sub hl [1, 2, 3, 4, 5, 6, 7, 8, 0] rfl)
set_option maxHeartbeats 4000000 in
set_option maxRecDepth 100000 in
theorem uX9_added {l : Launch} {g : GG} {a : Nat → Nat} {i : Nat} {xs : SX9} {pa : Int32} {pb : Int32} {o : (Int32 × SX9)} (h : fX9_added xs pa pb = some o) : mC l g yX9_added cX9_added 11 (some .int) (rM 5 117) [.ref (a i), .int pa, .int pb] (wX9 g a i xs) (wX9 g a i o.2) (some (.int o.1)) := by
  refine mC.ofW (by decide) (fun p e s m below meth c X hH ls _ hl => ?_) (Nat.le_of_ble_eq_true rfl)
  have hx := X.1
  have hb := X.2.1
  have hl : lv_has ls 11 [(0, .ref (a i)), (1, .int pa), (2, .int pb)] := hl
  unfold fX9_added at h
  suffices HH : ∀ (H : Heap) (locs : List Loc), mH g s (wX9 g a i xs) (wX9 g a i xs) H locs → W p l e (rM 5 117) s m _ below meth c H locs 0 0 (mZ g below _ s (wX9 g a i xs) (wX9 g a i o.2) (some (.int o.1))) (F0 m 0 ls []) from HH _ _ hH
  clear hH
  intro H locs hH
  refine lv_aload_n hx hb dX9_added_0 rfl (lv_at hl 0 rfl) ?_
  refine lv_iload_n hx hb dX9_added_1 rfl (lv_at hl 1 rfl) ?_
  obtain ⟨o1, ho1, h⟩ := bd_x h
  refine r_V X hH (ws1 := (wX9 g a i xs)) (As := [.int pa]) (rest := []) (st1 := [.int o1]) (uX9_isPoint (a := a) (i := i) ho1) kX9_isPoint mX9_141 iX9_isPoint vX9_isPoint zX9 okX9_isPoint ⟨Nat.le_of_ble_eq_true rfl, Nat.le_of_ble_eq_true rfl⟩ rfl rfl (q0 := 0) rfl rfl [0, 1, 2, 3, 4, 5, 6, 7, 8, 9, 10, 11, 12, 13, 14, 15, 16, 17, 18, 19, 20, 21, 22, 23, 24, 25, 26, 27, 28, 29, 30, 31, 32, 33] rfl rfl rfl (putl_self _ _ rfl) rfl hl.1 rfl (Nat.le_of_ble_eq_true rfl) ⟨Nat.le_refl 0, Nat.le_refl 0⟩ rfl dX9_added_2 (fun H locs hH => ?_)
  refine lv_if_eq (tgt := 21) hx hb dX9_added_5 (by decide) (fun c1 => ?_) (fun c1 => ?_)
  · have h := it_x h c1
    exact pX9_added_21 X  xs H locs ls h hH (lv_sub hl [0, 1, 2] rfl)
  · have h := ie_x h c1
    refine lv_aload_n hx hb dX9_added_8 rfl (lv_at hl 0 rfl) ?_
    refine lv_iload_n hx hb dX9_added_9 rfl (lv_at hl 2 rfl) ?_
    obtain ⟨o3, ho3, h⟩ := bd_x h
    refine r_V X hH (ws1 := (wX9 g a i xs)) (As := [.int pb]) (rest := []) (st1 := [.int o3]) (uX9_isPoint (a := a) (i := i) ho3) kX9_isPoint mX9_141 iX9_isPoint vX9_isPoint zX9 okX9_isPoint ⟨Nat.le_of_ble_eq_true rfl, Nat.le_of_ble_eq_true rfl⟩ rfl rfl (q0 := 0) rfl rfl [0, 1, 2, 3, 4, 5, 6, 7, 8, 9, 10, 11, 12, 13, 14, 15, 16, 17, 18, 19, 20, 21, 22, 23, 24, 25, 26, 27, 28, 29, 30, 31, 32, 33] rfl rfl rfl (putl_self _ _ rfl) rfl hl.1 rfl (Nat.le_of_ble_eq_true rfl) ⟨Nat.le_refl 0, Nat.le_refl 0⟩ rfl dX9_added_10 (fun H locs hH => ?_)
    refine lv_if_eq (tgt := 21) hx hb dX9_added_13 (by decide) (fun c2 => ?_) (fun c2 => ?_)
    · have h := it_x h c2
      exact pX9_added_21 X  xs H locs ls h hH (lv_sub hl [0, 1, 2] rfl)
    · have h := ie_x h c2
      refine lv_iload_n hx hb dX9_added_16 rfl (lv_at hl 1 rfl) ?_
      refine lv_iload_n hx hb dX9_added_17 rfl (lv_at hl 2 rfl) ?_
      refine lv_icmp_ne (tgt := 27) hx hb dX9_added_18 (by decide) (fun c3 => ?_) (fun c3 => ?_)
      · have h := ie_x h c3
        refine lv_aload_n hx hb dX9_added_27 rfl (lv_at hl 0 rfl) ?_
        obtain ⟨o4, ho4, h⟩ := bd_x h
        refine r_V X hH (ws1 := (wX9 g a i o4)) (As := []) (rest := []) (st1 := []) (uX9_allThere (a := a) (i := i) ho4) kX9_allThere mX9_230 iX9_allThere vX9_allThere zX9 okX9_allThere ⟨Nat.le_of_ble_eq_true rfl, Nat.le_of_ble_eq_true rfl⟩ rfl rfl (q0 := 0) rfl rfl [0, 1, 2, 3, 4, 5, 6, 7, 8, 9, 10, 11, 12, 13, 14, 15, 16, 17, 18, 19, 20, 21, 22, 23, 24, 25, 26, 27, 28, 29, 30, 31, 32, 33] rfl rfl rfl rfl rfl hl.1 rfl (Nat.le_of_ble_eq_true rfl) ⟨Nat.le_refl 0, Nat.le_refl 0⟩ rfl dX9_added_28 (fun H locs hH => ?_)
        refine lv_aload_n hx hb dX9_added_31 rfl (lv_at hl 0 rfl) ?_
        refine lv_iload_n hx hb dX9_added_32 rfl (lv_at hl 1 rfl) ?_
        refine lv_iload_n hx hb dX9_added_33 rfl (lv_at hl 2 rfl) ?_
        refine lv_iconst (v := (0 : Int32)) hx hb dX9_added_34 (by decide) ?_
        obtain ⟨o5, ho5, h⟩ := bd_x h
        refine r_V X hH (ws1 := (wX9 g a i o5.2)) (As := [.int pa, .int pb, .int (0 : Int32)]) (rest := []) (st1 := [.int o5.1]) (uX9_findTime (a := a) (i := i) ho5) kX9_findTime mX9_275 iX9_findTime vX9_findTime zX9 okX9_findTime ⟨Nat.le_of_ble_eq_true rfl, Nat.le_of_ble_eq_true rfl⟩ rfl rfl (q0 := 0) rfl rfl [0, 1, 2, 3, 4, 5, 6, 7, 8, 9, 10, 11, 12, 13, 14, 15, 16, 17, 18, 19, 20, 21, 22, 23, 24, 25, 26, 27, 28, 29, 30, 31, 32, 33] rfl rfl rfl rfl rfl hl.1 rfl (Nat.le_of_ble_eq_true rfl) ⟨Nat.le_refl 0, Nat.le_refl 0⟩ rfl dX9_added_35 (fun H locs hH => ?_)
        refine s_in X (lv' := [(3, .int o5.1), (0, .ref (a i)), (1, .int pa), (2, .int pb)]) hl rfl dX9_added_38 rfl (by decide) rfl (fun ls hl => ?_)
        refine lv_aload_n hx hb dX9_added_39 rfl (lv_at hl 1 rfl) ?_
        refine f_get X hH 0 rfl rfl 26 (by decide) inX9 fX9_248 rfl dX9_added_40 ?_
        obtain ⟨v1, ev1, h⟩ := ltt_x h
        refine s_l X (lv' := [(4, .long v1), (3, .int o5.1), (0, .ref (a i)), (1, .int pa), (2, .int pb)]) hl ev1 dX9_added_43 (by decide) rfl (fun ls hl => ?_)
        refine lv_aload_n hx hb dX9_added_45 rfl (lv_at hl 2 rfl) ?_
        refine f_get X hH 0 rfl rfl 27 (by decide) inX9 fX9_252 rfl dX9_added_46 ?_
        obtain ⟨v2, ev2, h⟩ := ltt_x h
        refine s_l X (lv' := [(6, .long v2), (4, .long v1), (3, .int o5.1), (0, .ref (a i)), (1, .int pa), (2, .int pb)]) hl ev2 dX9_added_49 (by decide) rfl (fun ls hl => ?_)
        refine lv_bipush (v := (-9 : Int32)) hx hb dX9_added_51 (by decide) ?_
        refine s_i X (lv' := [(8, .int (-9 : Int32)), (6, .long v2), (4, .long v1), (3, .int o5.1), (0, .ref (a i)), (1, .int pa), (2, .int pb)]) hl rfl dX9_added_53 (by decide) rfl (fun ls hl => ?_)
        refine lv_aload_n hx hb dX9_added_55 rfl (lv_at hl 4 rfl) ?_
        refine lv_aload_n hx hb dX9_added_56 rfl (lv_at hl 4 rfl) ?_
        refine f_get X hH 0 rfl rfl 1 (by decide) inX9 fX9_120 rfl dX9_added_57 ?_
        refine lv_iconst (v := (1 : Int32)) hx hb dX9_added_60 (by decide) ?_
        refine lv_iadd hx hb dX9_added_61 ?_
        obtain ⟨xs1, exs1, h⟩ := ltt_x h
        refine f_put X hH (ws1 := (wX9 g a i xs1)) 0 rfl rfl 20 (by decide) inX9 tyX9 tyX9_ok nmX9 fX9_220 rfl rfl rfl (Nat.le_of_ble_eq_true rfl) (by rw [exs1]; rfl) dX9_added_62 (fun H locs hH => ?_)
        refine lv_aload_n hx hb dX9_added_65 rfl (lv_at hl 4 rfl) ?_
        refine lv_iconst (v := (1 : Int32)) hx hb dX9_added_66 (by decide) ?_
        refine lv_aload_n hx hb dX9_added_67 rfl (lv_at hl 4 rfl) ?_
        refine f_get X hH 0 rfl rfl 20 (by decide) inX9 fX9_220 rfl dX9_added_68 ?_
        refine lv_ishl hx hb dX9_added_71 ?_
        refine lv_iconst (v := (1 : Int32)) hx hb dX9_added_72 (by decide) ?_
        refine lv_isub hx hb dX9_added_73 ?_
        obtain ⟨xs2, exs2, h⟩ := ltt_x h
        refine f_put X hH (ws1 := (wX9 g a i xs2)) 0 rfl rfl 19 (by decide) inX9 tyX9 tyX9_ok nmX9 fX9_223 rfl rfl rfl (Nat.le_of_ble_eq_true rfl) (by rw [exs2]; rfl) dX9_added_74 (fun H locs hH => ?_)
        refine lv_aload_n hx hb dX9_added_77 rfl (lv_at hl 4 rfl) ?_
        refine f_get X hH 0 rfl rfl 4 (by decide) inX9 fX9_20 rfl dX9_added_78 ?_
        refine lv_aload_n hx hb dX9_added_81 rfl (lv_at hl 4 rfl) ?_
        refine f_get X hH 0 rfl rfl 1 (by decide) inX9 fX9_120 rfl dX9_added_82 ?_
        refine lv_iconst (v := (0 : Int32)) hx hb dX9_added_85 (by decide) ?_
        obtain ⟨j1, ej1, hinj1, h⟩ := ga_x h
        obtain ⟨xs3, exs3, h⟩ := ltt_x h
        refine a_is X hH (ws1 := (wX9 g a i xs3)) 3 rfl hinj1 ej1 (by rw [exs3]; rfl) dX9_added_86 (fun H locs hH => ?_)
        refine lv_aload_n hx hb dX9_added_87 rfl (lv_at hl 4 rfl) ?_
        refine f_get X hH 0 rfl rfl 5 (by decide) inX9 fX9_23 rfl dX9_added_88 ?_
        refine lv_aload_n hx hb dX9_added_91 rfl (lv_at hl 4 rfl) ?_
        refine f_get X hH 0 rfl rfl 1 (by decide) inX9 fX9_120 rfl dX9_added_92 ?_
        refine lv_iconst (v := (0 : Int32)) hx hb dX9_added_95 (by decide) ?_
        obtain ⟨j2, ej2, hinj2, h⟩ := ga_x h
        obtain ⟨xs4, exs4, h⟩ := ltt_x h
        refine a_is X hH (ws1 := (wX9 g a i xs4)) 4 rfl hinj2 ej2 (by rw [exs4]; rfl) dX9_added_96 (fun H locs hH => ?_)
        refine lv_aload_n hx hb dX9_added_97 rfl (lv_at hl 4 rfl) ?_
        refine f_get X hH 0 rfl rfl 6 (by decide) inX9 fX9_26 rfl dX9_added_98 ?_
        refine lv_aload_n hx hb dX9_added_101 rfl (lv_at hl 4 rfl) ?_
        refine f_get X hH 0 rfl rfl 1 (by decide) inX9 fX9_120 rfl dX9_added_102 ?_
        refine lv_iconst (v := (1 : Int32)) hx hb dX9_added_105 (by decide) ?_
        obtain ⟨j3, ej3, hinj3, h⟩ := ga_x h
        obtain ⟨xs5, exs5, h⟩ := ltt_x h
        refine a_is X hH (ws1 := (wX9 g a i xs5)) 5 rfl hinj3 ej3 (by rw [exs5]; rfl) dX9_added_106 (fun H locs hH => ?_)
        refine lv_aload_n hx hb dX9_added_107 rfl (lv_at hl 4 rfl) ?_
        refine f_get X hH 0 rfl rfl 7 (by decide) inX9 fX9_29 rfl dX9_added_108 ?_
        refine lv_aload_n hx hb dX9_added_111 rfl (lv_at hl 4 rfl) ?_
        refine f_get X hH 0 rfl rfl 1 (by decide) inX9 fX9_120 rfl dX9_added_112 ?_
        refine lv_iconst (v := (1 : Int32)) hx hb dX9_added_115 (by decide) ?_
        obtain ⟨j4, ej4, hinj4, h⟩ := ga_x h
        obtain ⟨xs6, exs6, h⟩ := ltt_x h
        refine a_is X hH (ws1 := (wX9 g a i xs6)) 6 rfl hinj4 ej4 (by rw [exs6]; rfl) dX9_added_116 (fun H locs hH => ?_)
        refine lv_iconst (v := (0 : Int32)) hx hb dX9_added_117 (by decide) ?_
        refine s_i X (lv' := [(9, .int (0 : Int32)), (8, .int (-9 : Int32)), (6, .long v2), (4, .long v1), (3, .int o5.1), (0, .ref (a i)), (1, .int pa), (2, .int pb)]) hl rfl dX9_added_118 (by decide) rfl (fun ls hl => ?_)
        exact pX9_added_120 X FU xs6 o5.1 v1 v2 (-9 : Int32) (0 : Int32) H locs ls h hH (lv_sub hl [5, 6, 7, 4, 3, 2, 1, 0] rfl)
      · have h := it_x h c3
        exact pX9_added_21 X  xs H locs ls h hH (lv_sub hl [0, 1, 2] rfl)

def qX9_missed_21 (pa : Int32) (pb : Int32)  (xs : SX9) : Option (Int32 × SX9) :=
  (fX9_no xs (-1 : Int32)).bind fun o2 =>
  some (o2.1, o2.2)
def qX9_missed_123 (pa : Int32) (pb : Int32) (k140 : SX9 → Int32 → Int32 → Int64 → Int64 → Int32 → Option (Int32 × SX9)) (xs : SX9) (l9 : Int32) (t0 : Int32) : Option (Int32 × SX9) :=
  ltt ((m_up xs)) fun v1 =>
  ltt ((m_down xs)) fun v2 =>
  k140 xs l9 t0 v1 v2 l9
def qX9_missed_113 (pa : Int32) (pb : Int32) (k140 : SX9 → Int32 → Int32 → Int64 → Int64 → Int32 → Option (Int32 × SX9)) (xs : SX9) (l9 : Int32) (l10 : Int32) : Option (Int32 × SX9) :=
  (if l10 = (0 : Int32) then
  qX9_missed_123 pa pb k140 xs l9 (1 : Int32)
  else
  qX9_missed_123 pa pb k140 xs l9 (0 : Int32))
def qX9_missed_140 (pa : Int32) (pb : Int32) (k42 : SX9 → Int32 → Int32 → Int64 → Int64 → Int32 → Option (Int32 × SX9)) (xs : SX9) (l3 : Int32) (l4 : Int32) (l5 : Int64) (l7 : Int64) (l9 : Int32) : Option (Int32 × SX9) :=
  ltt (l9 + (1 : Int32)) fun v3 =>
  k42 xs l3 l4 l5 l7 v3
def qX9_missed_42 (pa : Int32) (pb : Int32)  : Nat → SX9 → Int32 → Int32 → Int64 → Int64 → Int32 → Option (Int32 × SX9)
  | 0, _, _, _, _, _, _ => none
  | fu + 1, xs, l3, l4, l5, l7, l9 =>
  (if (m_many xs) ≤ l9 then
  some (l3, xs)
  else
  (if l4 = (0 : Int32) then
  (fX9_allThere xs).bind fun o4 =>
  ltt ((m_there_s o4 ((m_there o4) &&& (((1 : Int32) <<< (l9 &&& 31)) ^^^ (-1 : Int32))))) fun xs1 =>
  (fX9_findResistance xs1 pa pb).bind fun o5 =>
  (if o5.1 = (0 : Int32) then
  qX9_missed_113 pa pb (qX9_missed_140 pa pb (qX9_missed_42 pa pb  fu)) o5.2 l9 o5.1
  else
  (if l3 < (0 : Int32) then
  qX9_missed_113 pa pb (qX9_missed_140 pa pb (qX9_missed_42 pa pb  fu)) o5.2 l9 o5.1
  else
  (fX9_isLess l5 l7 (m_up o5.2) (m_down o5.2)).bind fun o6 =>
  (if o6 = (0 : Int32) then
  qX9_missed_140 pa pb (qX9_missed_42 pa pb  fu) o5.2 l3 l4 l5 l7 l9
  else
  qX9_missed_113 pa pb (qX9_missed_140 pa pb (qX9_missed_42 pa pb  fu)) o5.2 l9 o5.1)))
  else
  some (l3, xs)))
def fX9_missed (xs : SX9) (pa : Int32) (pb : Int32) : Option (Int32 × SX9) :=
  (fX9_isPoint xs pa).bind fun o1 =>
  (if o1 = (0 : Int32) then
  qX9_missed_21 pa pb xs
  else
  (fX9_isPoint xs pb).bind fun o3 =>
  (if o3 = (0 : Int32) then
  qX9_missed_21 pa pb xs
  else
  (if pa = pb then
  qX9_missed_21 pa pb xs
  else
  qX9_missed_42 pa pb FU xs (-9 : Int32) (0 : Int32) (0 : Int64) (1 : Int64) (0 : Int32))))
set_option maxHeartbeats 4000000 in
set_option maxRecDepth 100000 in
theorem pX9_missed_21 {p : Program} {l : Launch} {e : Env} {s : State} {m : MethodId} {args : Array Value} {below : List Frame} {meth : Method} {c : Code} {g : GG} {w0 : va_W} {a : Nat → Nat} {i : Nat} {pa : Int32} {pb : Int32} {o : (Int32 × SX9)} (X : mX g yX9_missed cX9_missed 11 (some .int) p s m args meth c w0) :
  ∀ (xs : SX9) (H : Heap) (locs : List Loc) (ls : Array Slot), qX9_missed_21 pa pb xs = some o → mH g s w0 (wX9 g a i xs) H locs → lv_has ls 11 [(0, .ref (a i)), (1, .int pa), (2, .int pb)] → W p l e (rM 6 136) s m args below meth c H locs 0 0 (mZ g below args s w0 (wX9 g a i o.2) (some (.int o.1))) (F0 m 21 ls []) := by
  have hx := X.1
  have hb := X.2.1
  intro xs H locs ls h hH hl
  unfold qX9_missed_21 at h
  refine lv_aload_n hx hb dX9_missed_21 rfl (lv_at hl 0 rfl) ?_
  refine lv_iconst (v := (-1 : Int32)) hx hb dX9_missed_22 (by decide) ?_
  obtain ⟨o2, ho2, h⟩ := bd_x h
  refine r_V X hH (ws1 := (wX9 g a i o2.2)) (As := [.int (-1 : Int32)]) (rest := []) (st1 := [.int o2.1]) (uX9_no (a := a) (i := i) ho2) kX9_no mX9_125 iX9_no vX9_no zX9 okX9_no ⟨Nat.le_of_ble_eq_true rfl, Nat.le_of_ble_eq_true rfl⟩ rfl rfl (q0 := 0) rfl rfl [0, 1, 2, 3, 4, 5, 6, 7, 8, 9, 10, 11, 12, 13, 14, 15, 16, 17, 18, 19, 20, 21, 22, 23, 24, 25, 26, 27, 28, 29, 30, 31, 32, 33] rfl rfl rfl rfl rfl hl.1 rfl (Nat.le_of_ble_eq_true rfl) ⟨Nat.le_refl 0, Nat.le_refl 0⟩ rfl dX9_missed_23 (fun H locs hH => ?_)
  cases h
  exact e_i X hH dX9_missed_26
set_option maxHeartbeats 4000000 in
set_option maxRecDepth 100000 in
theorem pX9_missed_123 {p : Program} {l : Launch} {e : Env} {s : State} {m : MethodId} {args : Array Value} {below : List Frame} {meth : Method} {c : Code} {g : GG} {w0 : va_W} {a : Nat → Nat} {i : Nat} {pa : Int32} {pb : Int32} {o : (Int32 × SX9)} (X : mX g yX9_missed cX9_missed 11 (some .int) p s m args meth c w0)
  {k140 : SX9 → Int32 → Int32 → Int64 → Int64 → Int32 → Option (Int32 × SX9)} (K140 : ∀ (xs : SX9) (l3 : Int32) (l4 : Int32) (l5 : Int64) (l7 : Int64) (l9 : Int32) (H : Heap) (locs : List Loc) (ls : Array Slot), k140 xs l3 l4 l5 l7 l9 = some o → mH g s w0 (wX9 g a i xs) H locs → lv_has ls 11 [(0, .ref (a i)), (1, .int pa), (2, .int pb), (3, .int l3), (4, .int l4), (5, .long l5), (7, .long l7), (9, .int l9)] → W p l e (rM 6 136) s m args below meth c H locs 0 0 (mZ g below args s w0 (wX9 g a i o.2) (some (.int o.1))) (F0 m 140 ls [])) :
  ∀ (xs : SX9) (l9 : Int32) (t0 : Int32) (H : Heap) (locs : List Loc) (ls : Array Slot), qX9_missed_123 pa pb k140 xs l9 t0 = some o → mH g s w0 (wX9 g a i xs) H locs → lv_has ls 11 [(0, .ref (a i)), (1, .int pa), (2, .int pb), (9, .int l9)] → W p l e (rM 6 136) s m args below meth c H locs 0 0 (mZ g below args s w0 (wX9 g a i o.2) (some (.int o.1))) (F0 m 123 ls [.int t0]) := by
  have hx := X.1
  have hb := X.2.1
  intro xs l9 t0 H locs ls h hH hl
  unfold qX9_missed_123 at h
  refine s_i X (lv' := [(4, .int t0), (0, .ref (a i)), (1, .int pa), (2, .int pb), (9, .int l9)]) hl rfl dX9_missed_123 (by decide) rfl (fun ls hl => ?_)
  refine lv_iload hx hb dX9_missed_125 (lv_at hl 4 rfl) ?_
  refine s_in X (lv' := [(3, .int l9), (4, .int t0), (0, .ref (a i)), (1, .int pa), (2, .int pb), (9, .int l9)]) hl rfl dX9_missed_127 rfl (by decide) rfl (fun ls hl => ?_)
  refine lv_aload_n hx hb dX9_missed_128 rfl (lv_at hl 2 rfl) ?_
  refine f_get X hH 0 rfl rfl 26 (by decide) inX9 fX9_248 rfl dX9_missed_129 ?_
  obtain ⟨v1, ev1, h⟩ := ltt_x h
  refine s_l X (lv' := [(5, .long v1), (3, .int l9), (4, .int t0), (0, .ref (a i)), (1, .int pa), (2, .int pb), (9, .int l9)]) hl ev1 dX9_missed_132 (by decide) rfl (fun ls hl => ?_)
  refine lv_aload_n hx hb dX9_missed_134 rfl (lv_at hl 3 rfl) ?_
  refine f_get X hH 0 rfl rfl 27 (by decide) inX9 fX9_252 rfl dX9_missed_135 ?_
  obtain ⟨v2, ev2, h⟩ := ltt_x h
  refine s_l X (lv' := [(7, .long v2), (5, .long v1), (3, .int l9), (4, .int t0), (0, .ref (a i)), (1, .int pa), (2, .int pb), (9, .int l9)]) hl ev2 dX9_missed_138 (by decide) rfl (fun ls hl => ?_)
  exact K140 xs l9 t0 v1 v2 l9 H locs ls h hH (lv_sub hl [4, 5, 6, 2, 3, 1, 0, 7] rfl)
set_option maxHeartbeats 4000000 in
set_option maxRecDepth 100000 in
theorem pX9_missed_113 {p : Program} {l : Launch} {e : Env} {s : State} {m : MethodId} {args : Array Value} {below : List Frame} {meth : Method} {c : Code} {g : GG} {w0 : va_W} {a : Nat → Nat} {i : Nat} {pa : Int32} {pb : Int32} {o : (Int32 × SX9)} (X : mX g yX9_missed cX9_missed 11 (some .int) p s m args meth c w0)
  {k140 : SX9 → Int32 → Int32 → Int64 → Int64 → Int32 → Option (Int32 × SX9)} (K140 : ∀ (xs : SX9) (l3 : Int32) (l4 : Int32) (l5 : Int64) (l7 : Int64) (l9 : Int32) (H : Heap) (locs : List Loc) (ls : Array Slot), k140 xs l3 l4 l5 l7 l9 = some o → mH g s w0 (wX9 g a i xs) H locs → lv_has ls 11 [(0, .ref (a i)), (1, .int pa), (2, .int pb), (3, .int l3), (4, .int l4), (5, .long l5), (7, .long l7), (9, .int l9)] → W p l e (rM 6 136) s m args below meth c H locs 0 0 (mZ g below args s w0 (wX9 g a i o.2) (some (.int o.1))) (F0 m 140 ls [])) :
  ∀ (xs : SX9) (l9 : Int32) (l10 : Int32) (H : Heap) (locs : List Loc) (ls : Array Slot), qX9_missed_113 pa pb k140 xs l9 l10 = some o → mH g s w0 (wX9 g a i xs) H locs → lv_has ls 11 [(0, .ref (a i)), (1, .int pa), (2, .int pb), (9, .int l9), (10, .int l10)] → W p l e (rM 6 136) s m args below meth c H locs 0 0 (mZ g below args s w0 (wX9 g a i o.2) (some (.int o.1))) (F0 m 113 ls []) := by
  have hx := X.1
  have hb := X.2.1
  intro xs l9 l10 H locs ls h hH hl
  unfold qX9_missed_113 at h
  refine lv_iload hx hb dX9_missed_113 (lv_at hl 4 rfl) ?_
  refine lv_if_ne (tgt := 122) hx hb dX9_missed_115 (by decide) (fun c7 => ?_) (fun c7 => ?_)
  · have h := ie_x h c7
    refine lv_iconst (v := (0 : Int32)) hx hb dX9_missed_122 (by decide) ?_
    exact pX9_missed_123 X K140 xs l9 (0 : Int32) H locs ls h hH (lv_sub hl [0, 1, 2, 3] rfl)
  · have h := it_x h c7
    refine lv_iconst (v := (1 : Int32)) hx hb dX9_missed_118 (by decide) ?_
    refine lv_goto (tgt := 123) hx hb dX9_missed_119 (by decide) ?_
    exact pX9_missed_123 X K140 xs l9 (1 : Int32) H locs ls h hH (lv_sub hl [0, 1, 2, 3] rfl)
set_option maxHeartbeats 4000000 in
set_option maxRecDepth 100000 in
theorem pX9_missed_140 {p : Program} {l : Launch} {e : Env} {s : State} {m : MethodId} {args : Array Value} {below : List Frame} {meth : Method} {c : Code} {g : GG} {w0 : va_W} {a : Nat → Nat} {i : Nat} {pa : Int32} {pb : Int32} {o : (Int32 × SX9)} (X : mX g yX9_missed cX9_missed 11 (some .int) p s m args meth c w0)
  {k42 : SX9 → Int32 → Int32 → Int64 → Int64 → Int32 → Option (Int32 × SX9)} (K42 : ∀ (xs : SX9) (l3 : Int32) (l4 : Int32) (l5 : Int64) (l7 : Int64) (l9 : Int32) (H : Heap) (locs : List Loc) (ls : Array Slot), k42 xs l3 l4 l5 l7 l9 = some o → mH g s w0 (wX9 g a i xs) H locs → lv_has ls 11 [(0, .ref (a i)), (1, .int pa), (2, .int pb), (3, .int l3), (4, .int l4), (5, .long l5), (7, .long l7), (9, .int l9)] → W p l e (rM 6 136) s m args below meth c H locs 0 0 (mZ g below args s w0 (wX9 g a i o.2) (some (.int o.1))) (F0 m 42 ls [])) :
  ∀ (xs : SX9) (l3 : Int32) (l4 : Int32) (l5 : Int64) (l7 : Int64) (l9 : Int32) (H : Heap) (locs : List Loc) (ls : Array Slot), qX9_missed_140 pa pb k42 xs l3 l4 l5 l7 l9 = some o → mH g s w0 (wX9 g a i xs) H locs → lv_has ls 11 [(0, .ref (a i)), (1, .int pa), (2, .int pb), (3, .int l3), (4, .int l4), (5, .long l5), (7, .long l7), (9, .int l9)] → W p l e (rM 6 136) s m args below meth c H locs 0 0 (mZ g below args s w0 (wX9 g a i o.2) (some (.int o.1))) (F0 m 140 ls []) := by
  have hx := X.1
  have hb := X.2.1
  intro xs l3 l4 l5 l7 l9 H locs ls h hH hl
  unfold qX9_missed_140 at h
  obtain ⟨v3, ev3, h⟩ := ltt_x h
  refine s_inc X (k := 7) (lv' := [(9, .int v3), (0, .ref (a i)), (1, .int pa), (2, .int pb), (3, .int l3), (4, .int l4), (5, .long l5), (7, .long l7)]) hl rfl (by rw [ev3]; rfl) dX9_missed_140 (by decide) rfl (fun ls hl => ?_)
  refine lv_goto (tgt := 42) hx hb dX9_missed_143 (by decide) ?_
  exact K42 xs l3 l4 l5 l7 v3 H locs ls h hH (lv_sub hl [1, 2, 3, 4, 5, 6, 7, 0] rfl)
set_option maxHeartbeats 4000000 in
set_option maxRecDepth 100000 in
theorem pX9_missed_42 {p : Program} {l : Launch} {e : Env} {s : State} {m : MethodId} {args : Array Value} {below : List Frame} {meth : Method} {c : Code} {g : GG} {w0 : va_W} {a : Nat → Nat} {i : Nat} {pa : Int32} {pb : Int32} {o : (Int32 × SX9)} (X : mX g yX9_missed cX9_missed 11 (some .int) p s m args meth c w0) :
  ∀ (fu : Nat) (xs : SX9) (l3 : Int32) (l4 : Int32) (l5 : Int64) (l7 : Int64) (l9 : Int32) (H : Heap) (locs : List Loc) (ls : Array Slot), qX9_missed_42 pa pb fu xs l3 l4 l5 l7 l9 = some o → mH g s w0 (wX9 g a i xs) H locs → lv_has ls 11 [(0, .ref (a i)), (1, .int pa), (2, .int pb), (3, .int l3), (4, .int l4), (5, .long l5), (7, .long l7), (9, .int l9)] → W p l e (rM 6 136) s m args below meth c H locs 0 0 (mZ g below args s w0 (wX9 g a i o.2) (some (.int o.1))) (F0 m 42 ls []) := by
  have hx := X.1
  have hb := X.2.1
  intro fu
  induction fu with
  | zero =>
    intro xs l3 l4 l5 l7 l9 H locs ls h
    unfold qX9_missed_42 at h
    cases h
  | succ fu ih =>
    intro xs l3 l4 l5 l7 l9 H locs ls h hH hl
    unfold qX9_missed_42 at h
    refine lv_iload hx hb dX9_missed_42 (lv_at hl 7 rfl) ?_
    refine lv_aload_n hx hb dX9_missed_44 rfl (lv_at hl 0 rfl) ?_
    refine f_get X hH 0 rfl rfl 1 (by decide) inX9 fX9_120 rfl dX9_missed_45 ?_
    refine lv_icmp_ge (tgt := 146) hx hb dX9_missed_48 (by decide) (fun c4 => ?_) (fun c4 => ?_)
    · have h := it_x h c4
      refine lv_iload_n hx hb dX9_missed_146 rfl (lv_at hl 3 rfl) ?_
      cases h
      exact e_i X hH dX9_missed_147
    · have h := ie_x h c4
      refine lv_iload hx hb dX9_missed_51 (lv_at hl 4 rfl) ?_
      refine lv_if_ne (tgt := 146) hx hb dX9_missed_53 (by decide) (fun c5 => ?_) (fun c5 => ?_)
      · have h := ie_x h c5
        refine lv_iload_n hx hb dX9_missed_146 rfl (lv_at hl 3 rfl) ?_
        cases h
        exact e_i X hH dX9_missed_147
      · have h := it_x h c5
        refine lv_aload_n hx hb dX9_missed_56 rfl (lv_at hl 0 rfl) ?_
        obtain ⟨o4, ho4, h⟩ := bd_x h
        refine r_V X hH (ws1 := (wX9 g a i o4)) (As := []) (rest := []) (st1 := []) (uX9_allThere (a := a) (i := i) ho4) kX9_allThere mX9_230 iX9_allThere vX9_allThere zX9 okX9_allThere ⟨Nat.le_of_ble_eq_true rfl, Nat.le_of_ble_eq_true rfl⟩ rfl rfl (q0 := 0) rfl rfl [0, 1, 2, 3, 4, 5, 6, 7, 8, 9, 10, 11, 12, 13, 14, 15, 16, 17, 18, 19, 20, 21, 22, 23, 24, 25, 26, 27, 28, 29, 30, 31, 32, 33] rfl rfl rfl rfl rfl hl.1 rfl (Nat.le_of_ble_eq_true rfl) ⟨Nat.le_refl 0, Nat.le_refl 0⟩ rfl dX9_missed_57 (fun H locs hH => ?_)
        refine lv_aload_n hx hb dX9_missed_60 rfl (lv_at hl 0 rfl) ?_
        refine lv_dup hx hb dX9_missed_61 rfl ?_
        refine f_get X hH 0 rfl rfl 19 (by decide) inX9 fX9_223 rfl dX9_missed_62 ?_
        refine lv_iconst (v := (1 : Int32)) hx hb dX9_missed_65 (by decide) ?_
        refine lv_iload hx hb dX9_missed_66 (lv_at hl 7 rfl) ?_
        refine lv_ishl hx hb dX9_missed_68 ?_
        refine lv_iconst (v := (-1 : Int32)) hx hb dX9_missed_69 (by decide) ?_
        refine lv_ixor hx hb dX9_missed_70 ?_
        refine lv_iand hx hb dX9_missed_71 ?_
        obtain ⟨xs1, exs1, h⟩ := ltt_x h
        refine f_put X hH (ws1 := (wX9 g a i xs1)) 0 rfl rfl 19 (by decide) inX9 tyX9 tyX9_ok nmX9 fX9_223 rfl rfl rfl (Nat.le_of_ble_eq_true rfl) (by rw [exs1]; rfl) dX9_missed_72 (fun H locs hH => ?_)
        refine lv_aload_n hx hb dX9_missed_75 rfl (lv_at hl 0 rfl) ?_
        refine lv_iload_n hx hb dX9_missed_76 rfl (lv_at hl 1 rfl) ?_
        refine lv_iload_n hx hb dX9_missed_77 rfl (lv_at hl 2 rfl) ?_
        obtain ⟨o5, ho5, h⟩ := bd_x h
        refine r_V X hH (ws1 := (wX9 g a i o5.2)) (As := [.int pa, .int pb]) (rest := []) (st1 := [.int o5.1]) (uX9_findResistance (a := a) (i := i) ho5) kX9_findResistance mX9_303 iX9_findResistance vX9_findResistance zX9 okX9_findResistance ⟨Nat.le_of_ble_eq_true rfl, Nat.le_of_ble_eq_true rfl⟩ rfl rfl (q0 := 0) rfl rfl [0, 1, 2, 3, 4, 5, 6, 7, 8, 9, 10, 11, 12, 13, 14, 15, 16, 17, 18, 19, 20, 21, 22, 23, 24, 25, 26, 27, 28, 29, 30, 31, 32, 33] rfl rfl rfl rfl rfl hl.1 rfl (Nat.le_of_ble_eq_true rfl) ⟨Nat.le_refl 0, Nat.le_refl 0⟩ rfl dX9_missed_78 (fun H locs hH => ?_)
        refine s_i X (lv' := [(10, .int o5.1), (0, .ref (a i)), (1, .int pa), (2, .int pb), (3, .int l3), (4, .int l4), (5, .long l5), (7, .long l7), (9, .int l9)]) hl rfl dX9_missed_81 (by decide) rfl (fun ls hl => ?_)
        refine lv_iload hx hb dX9_missed_83 (lv_at hl 0 rfl) ?_
        refine lv_if_eq (tgt := 113) hx hb dX9_missed_85 (by decide) (fun c6 => ?_) (fun c6 => ?_)
        · have h := it_x h c6
          exact pX9_missed_113 X (pX9_missed_140 X ih) o5.2 l9 o5.1 H locs ls h hH (lv_sub hl [1, 2, 3, 8, 0] rfl)
        · have h := ie_x h c6
          refine lv_iload_n hx hb dX9_missed_88 rfl (lv_at hl 4 rfl) ?_
          refine lv_if_lt (tgt := 113) hx hb dX9_missed_89 (by decide) (fun c8 => ?_) (fun c8 => ?_)
          · have h := it_x h c8
            exact pX9_missed_113 X (pX9_missed_140 X ih) o5.2 l9 o5.1 H locs ls h hH (lv_sub hl [1, 2, 3, 8, 0] rfl)
          · have h := ie_x h c8
            refine lv_lload hx hb dX9_missed_92 (lv_at hl 6 rfl) ?_
            refine lv_lload hx hb dX9_missed_94 (lv_at hl 7 rfl) ?_
            refine lv_aload_n hx hb dX9_missed_96 rfl (lv_at hl 1 rfl) ?_
            refine f_get X hH 0 rfl rfl 26 (by decide) inX9 fX9_248 rfl dX9_missed_97 ?_
            refine lv_aload_n hx hb dX9_missed_100 rfl (lv_at hl 1 rfl) ?_
            refine f_get X hH 0 rfl rfl 27 (by decide) inX9 fX9_252 rfl dX9_missed_101 ?_
            obtain ⟨o6, ho6, h⟩ := bd_x h
            refine r_S X hH (ws1 := (wX9 g a i o5.2)) (As := [.long l5, .long l7, .long (m_up o5.2), .long (m_down o5.2)]) (rest := []) (st1 := [.int o6]) (uX9_isLess  ho6) kX9_isLess mX9_306 sX9_isLess zX9 okX9_isLess ⟨Nat.le_of_ble_eq_true rfl, Nat.le_of_ble_eq_true rfl⟩ rfl rfl [] rfl rfl rfl (putl_self _ _ rfl) rfl hl.1 rfl (Nat.le_of_ble_eq_true rfl) ⟨Nat.le_refl 0, Nat.le_refl 0⟩ rfl dX9_missed_104 (fun H locs hH => ?_)
            refine lv_if_ne (tgt := 113) hx hb dX9_missed_107 (by decide) (fun c9 => ?_) (fun c9 => ?_)
            · have h := ie_x h c9
              exact pX9_missed_113 X (pX9_missed_140 X ih) o5.2 l9 o5.1 H locs ls h hH (lv_sub hl [1, 2, 3, 8, 0] rfl)
            · have h := it_x h c9
              refine lv_goto (tgt := 140) hx hb dX9_missed_110 (by decide) ?_
              exact pX9_missed_140 X ih o5.2 l3 l4 l5 l7 l9 H locs ls h hH (lv_sub hl [1, 2, 3, 4, 5, 6, 7, 8] rfl)
set_option maxHeartbeats 4000000 in
set_option maxRecDepth 100000 in
theorem uX9_missed {l : Launch} {g : GG} {a : Nat → Nat} {i : Nat} {xs : SX9} {pa : Int32} {pb : Int32} {o : (Int32 × SX9)} (h : fX9_missed xs pa pb = some o) : mC l g yX9_missed cX9_missed 11 (some .int) (rM 6 136) [.ref (a i), .int pa, .int pb] (wX9 g a i xs) (wX9 g a i o.2) (some (.int o.1)) := by
  refine mC.ofW (by decide) (fun p e s m below meth c X hH ls _ hl => ?_) (Nat.le_of_ble_eq_true rfl)
  have hx := X.1
  have hb := X.2.1
  have hl : lv_has ls 11 [(0, .ref (a i)), (1, .int pa), (2, .int pb)] := hl
  unfold fX9_missed at h
  suffices HH : ∀ (H : Heap) (locs : List Loc), mH g s (wX9 g a i xs) (wX9 g a i xs) H locs → W p l e (rM 6 136) s m _ below meth c H locs 0 0 (mZ g below _ s (wX9 g a i xs) (wX9 g a i o.2) (some (.int o.1))) (F0 m 0 ls []) from HH _ _ hH
  clear hH
  intro H locs hH
  refine lv_aload_n hx hb dX9_missed_0 rfl (lv_at hl 0 rfl) ?_
  refine lv_iload_n hx hb dX9_missed_1 rfl (lv_at hl 1 rfl) ?_
  obtain ⟨o1, ho1, h⟩ := bd_x h
  refine r_V X hH (ws1 := (wX9 g a i xs)) (As := [.int pa]) (rest := []) (st1 := [.int o1]) (uX9_isPoint (a := a) (i := i) ho1) kX9_isPoint mX9_141 iX9_isPoint vX9_isPoint zX9 okX9_isPoint ⟨Nat.le_of_ble_eq_true rfl, Nat.le_of_ble_eq_true rfl⟩ rfl rfl (q0 := 0) rfl rfl [0, 1, 2, 3, 4, 5, 6, 7, 8, 9, 10, 11, 12, 13, 14, 15, 16, 17, 18, 19, 20, 21, 22, 23, 24, 25, 26, 27, 28, 29, 30, 31, 32, 33] rfl rfl rfl (putl_self _ _ rfl) rfl hl.1 rfl (Nat.le_of_ble_eq_true rfl) ⟨Nat.le_refl 0, Nat.le_refl 0⟩ rfl dX9_missed_2 (fun H locs hH => ?_)
  refine lv_if_eq (tgt := 21) hx hb dX9_missed_5 (by decide) (fun c1 => ?_) (fun c1 => ?_)
  · have h := it_x h c1
    exact pX9_missed_21 X  xs H locs ls h hH (lv_sub hl [0, 1, 2] rfl)
  · have h := ie_x h c1
    refine lv_aload_n hx hb dX9_missed_8 rfl (lv_at hl 0 rfl) ?_
    refine lv_iload_n hx hb dX9_missed_9 rfl (lv_at hl 2 rfl) ?_
    obtain ⟨o3, ho3, h⟩ := bd_x h
    refine r_V X hH (ws1 := (wX9 g a i xs)) (As := [.int pb]) (rest := []) (st1 := [.int o3]) (uX9_isPoint (a := a) (i := i) ho3) kX9_isPoint mX9_141 iX9_isPoint vX9_isPoint zX9 okX9_isPoint ⟨Nat.le_of_ble_eq_true rfl, Nat.le_of_ble_eq_true rfl⟩ rfl rfl (q0 := 0) rfl rfl [0, 1, 2, 3, 4, 5, 6, 7, 8, 9, 10, 11, 12, 13, 14, 15, 16, 17, 18, 19, 20, 21, 22, 23, 24, 25, 26, 27, 28, 29, 30, 31, 32, 33] rfl rfl rfl (putl_self _ _ rfl) rfl hl.1 rfl (Nat.le_of_ble_eq_true rfl) ⟨Nat.le_refl 0, Nat.le_refl 0⟩ rfl dX9_missed_10 (fun H locs hH => ?_)
    refine lv_if_eq (tgt := 21) hx hb dX9_missed_13 (by decide) (fun c2 => ?_) (fun c2 => ?_)
    · have h := it_x h c2
      exact pX9_missed_21 X  xs H locs ls h hH (lv_sub hl [0, 1, 2] rfl)
    · have h := ie_x h c2
      refine lv_iload_n hx hb dX9_missed_16 rfl (lv_at hl 1 rfl) ?_
      refine lv_iload_n hx hb dX9_missed_17 rfl (lv_at hl 2 rfl) ?_
      refine lv_icmp_ne (tgt := 27) hx hb dX9_missed_18 (by decide) (fun c3 => ?_) (fun c3 => ?_)
      · have h := ie_x h c3
        refine lv_bipush (v := (-9 : Int32)) hx hb dX9_missed_27 (by decide) ?_
        refine s_in X (lv' := [(3, .int (-9 : Int32)), (0, .ref (a i)), (1, .int pa), (2, .int pb)]) hl rfl dX9_missed_29 rfl (by decide) rfl (fun ls hl => ?_)
        refine lv_iconst (v := (0 : Int32)) hx hb dX9_missed_30 (by decide) ?_
        refine s_i X (lv' := [(4, .int (0 : Int32)), (3, .int (-9 : Int32)), (0, .ref (a i)), (1, .int pa), (2, .int pb)]) hl rfl dX9_missed_31 (by decide) rfl (fun ls hl => ?_)
        refine lv_lconst (v := (0 : Int64)) hx hb dX9_missed_33 (by decide) ?_
        refine s_l X (lv' := [(5, .long (0 : Int64)), (4, .int (0 : Int32)), (3, .int (-9 : Int32)), (0, .ref (a i)), (1, .int pa), (2, .int pb)]) hl rfl dX9_missed_34 (by decide) rfl (fun ls hl => ?_)
        refine lv_lconst (v := (1 : Int64)) hx hb dX9_missed_36 (by decide) ?_
        refine s_l X (lv' := [(7, .long (1 : Int64)), (5, .long (0 : Int64)), (4, .int (0 : Int32)), (3, .int (-9 : Int32)), (0, .ref (a i)), (1, .int pa), (2, .int pb)]) hl rfl dX9_missed_37 (by decide) rfl (fun ls hl => ?_)
        refine lv_iconst (v := (0 : Int32)) hx hb dX9_missed_39 (by decide) ?_
        refine s_i X (lv' := [(9, .int (0 : Int32)), (7, .long (1 : Int64)), (5, .long (0 : Int64)), (4, .int (0 : Int32)), (3, .int (-9 : Int32)), (0, .ref (a i)), (1, .int pa), (2, .int pb)]) hl rfl dX9_missed_40 (by decide) rfl (fun ls hl => ?_)
        exact pX9_missed_42 X FU xs (-9 : Int32) (0 : Int32) (0 : Int64) (1 : Int64) (0 : Int32) H locs ls h hH (lv_sub hl [5, 6, 7, 4, 3, 2, 1, 0] rfl)
      · have h := it_x h c3
        exact pX9_missed_21 X  xs H locs ls h hH (lv_sub hl [0, 1, 2] rfl)

def qX9_bridges_21 (pa : Int32) (pb : Int32)  (xs : SX9) : Option (Int32 × SX9) :=
  (fX9_no xs (-1 : Int32)).bind fun o2 =>
  some (o2.1, o2.2)
def qX9_bridges_104 (pa : Int32) (pb : Int32) (k55 : SX9 → Int32 → Int32 → Option (Int32 × SX9)) (xs : SX9) (l4 : Int32) (t0 : Int32) (t1 : Int32) : Option (Int32 × SX9) :=
  ltt ((t0 ||| t1)) fun v1 =>
  ltt (l4 + (1 : Int32)) fun v2 =>
  k55 xs v1 v2
def qX9_bridges_55 (pa : Int32) (pb : Int32)  : Nat → SX9 → Int32 → Int32 → Option (Int32 × SX9)
  | 0, _, _, _ => none
  | fu + 1, xs, l3, l4 =>
  (if (m_many xs) ≤ l4 then
  some (l3, xs)
  else
  ltt ((m_there_s xs ((((1 : Int32) <<< ((m_many xs) &&& 31)) - (1 : Int32)) &&& (((1 : Int32) <<< (l4 &&& 31)) ^^^ (-1 : Int32))))) fun xs1 =>
  (fX9_reach xs1 pa).bind fun o7 =>
  (fX9_has o7 pb).bind fun o8 =>
  (if o8 = (0 : Int32) then
  qX9_bridges_104 pa pb (qX9_bridges_55 pa pb  fu) xs1 l4 l3 ((1 : Int32) <<< (l4 &&& 31))
  else
  qX9_bridges_104 pa pb (qX9_bridges_55 pa pb  fu) xs1 l4 l3 (0 : Int32)))
def fX9_bridges (xs : SX9) (pa : Int32) (pb : Int32) : Option (Int32 × SX9) :=
  (fX9_isPoint xs pa).bind fun o1 =>
  (if o1 = (0 : Int32) then
  qX9_bridges_21 pa pb xs
  else
  (fX9_isPoint xs pb).bind fun o3 =>
  (if o3 = (0 : Int32) then
  qX9_bridges_21 pa pb xs
  else
  (if pa = pb then
  qX9_bridges_21 pa pb xs
  else
  (fX9_allThere xs).bind fun o4 =>
  (fX9_reach o4 pa).bind fun o5 =>
  (fX9_has o5 pb).bind fun o6 =>
  (if o6 = (0 : Int32) then
  (fX9_no o4 (-3 : Int32)).bind fun o9 =>
  some (o9.1, o9.2)
  else
  qX9_bridges_55 pa pb FU o4 (0 : Int32) (0 : Int32)))))
set_option maxHeartbeats 4000000 in
set_option maxRecDepth 100000 in
theorem pX9_bridges_21 {p : Program} {l : Launch} {e : Env} {s : State} {m : MethodId} {args : Array Value} {below : List Frame} {meth : Method} {c : Code} {g : GG} {w0 : va_W} {a : Nat → Nat} {i : Nat} {pa : Int32} {pb : Int32} {o : (Int32 × SX9)} (X : mX g yX9_bridges cX9_bridges 5 (some .int) p s m args meth c w0) :
  ∀ (xs : SX9) (H : Heap) (locs : List Loc) (ls : Array Slot), qX9_bridges_21 pa pb xs = some o → mH g s w0 (wX9 g a i xs) H locs → lv_has ls 5 [(0, .ref (a i)), (1, .int pa), (2, .int pb)] → W p l e (rM 2 46) s m args below meth c H locs 0 0 (mZ g below args s w0 (wX9 g a i o.2) (some (.int o.1))) (F0 m 21 ls []) := by
  have hx := X.1
  have hb := X.2.1
  intro xs H locs ls h hH hl
  unfold qX9_bridges_21 at h
  refine lv_aload_n hx hb dX9_bridges_21 rfl (lv_at hl 0 rfl) ?_
  refine lv_iconst (v := (-1 : Int32)) hx hb dX9_bridges_22 (by decide) ?_
  obtain ⟨o2, ho2, h⟩ := bd_x h
  refine r_V X hH (ws1 := (wX9 g a i o2.2)) (As := [.int (-1 : Int32)]) (rest := []) (st1 := [.int o2.1]) (uX9_no (a := a) (i := i) ho2) kX9_no mX9_125 iX9_no vX9_no zX9 okX9_no ⟨Nat.le_of_ble_eq_true rfl, Nat.le_of_ble_eq_true rfl⟩ rfl rfl (q0 := 0) rfl rfl [0, 1, 2, 3, 4, 5, 6, 7, 8, 9, 10, 11, 12, 13, 14, 15, 16, 17, 18, 19, 20, 21, 22, 23, 24, 25, 26, 27, 28, 29, 30, 31, 32, 33] rfl rfl rfl rfl rfl hl.1 rfl (Nat.le_of_ble_eq_true rfl) ⟨Nat.le_refl 0, Nat.le_refl 0⟩ rfl dX9_bridges_23 (fun H locs hH => ?_)
  cases h
  exact e_i X hH dX9_bridges_26
set_option maxHeartbeats 4000000 in
set_option maxRecDepth 100000 in
theorem pX9_bridges_104 {p : Program} {l : Launch} {e : Env} {s : State} {m : MethodId} {args : Array Value} {below : List Frame} {meth : Method} {c : Code} {g : GG} {w0 : va_W} {a : Nat → Nat} {i : Nat} {pa : Int32} {pb : Int32} {o : (Int32 × SX9)} (X : mX g yX9_bridges cX9_bridges 5 (some .int) p s m args meth c w0)
  {k55 : SX9 → Int32 → Int32 → Option (Int32 × SX9)} (K55 : ∀ (xs : SX9) (l3 : Int32) (l4 : Int32) (H : Heap) (locs : List Loc) (ls : Array Slot), k55 xs l3 l4 = some o → mH g s w0 (wX9 g a i xs) H locs → lv_has ls 5 [(0, .ref (a i)), (1, .int pa), (2, .int pb), (3, .int l3), (4, .int l4)] → W p l e (rM 2 46) s m args below meth c H locs 0 0 (mZ g below args s w0 (wX9 g a i o.2) (some (.int o.1))) (F0 m 55 ls [])) :
  ∀ (xs : SX9) (l4 : Int32) (t0 : Int32) (t1 : Int32) (H : Heap) (locs : List Loc) (ls : Array Slot), qX9_bridges_104 pa pb k55 xs l4 t0 t1 = some o → mH g s w0 (wX9 g a i xs) H locs → lv_has ls 5 [(0, .ref (a i)), (1, .int pa), (2, .int pb), (4, .int l4)] → W p l e (rM 2 46) s m args below meth c H locs 0 0 (mZ g below args s w0 (wX9 g a i o.2) (some (.int o.1))) (F0 m 104 ls [.int t1, .int t0]) := by
  have hx := X.1
  have hb := X.2.1
  intro xs l4 t0 t1 H locs ls h hH hl
  unfold qX9_bridges_104 at h
  refine lv_ior hx hb dX9_bridges_104 ?_
  obtain ⟨v1, ev1, h⟩ := ltt_x h
  refine s_in X (lv' := [(3, .int v1), (0, .ref (a i)), (1, .int pa), (2, .int pb), (4, .int l4)]) hl ev1 dX9_bridges_105 rfl (by decide) rfl (fun ls hl => ?_)
  obtain ⟨v2, ev2, h⟩ := ltt_x h
  refine s_inc X (k := 4) (lv' := [(4, .int v2), (3, .int v1), (0, .ref (a i)), (1, .int pa), (2, .int pb)]) hl rfl (by rw [ev2]; rfl) dX9_bridges_106 (by decide) rfl (fun ls hl => ?_)
  refine lv_goto (tgt := 55) hx hb dX9_bridges_109 (by decide) ?_
  exact K55 xs v1 v2 H locs ls h hH (lv_sub hl [2, 3, 4, 1, 0] rfl)
set_option maxHeartbeats 4000000 in
set_option maxRecDepth 100000 in
theorem pX9_bridges_55 {p : Program} {l : Launch} {e : Env} {s : State} {m : MethodId} {args : Array Value} {below : List Frame} {meth : Method} {c : Code} {g : GG} {w0 : va_W} {a : Nat → Nat} {i : Nat} {pa : Int32} {pb : Int32} {o : (Int32 × SX9)} (X : mX g yX9_bridges cX9_bridges 5 (some .int) p s m args meth c w0) :
  ∀ (fu : Nat) (xs : SX9) (l3 : Int32) (l4 : Int32) (H : Heap) (locs : List Loc) (ls : Array Slot), qX9_bridges_55 pa pb fu xs l3 l4 = some o → mH g s w0 (wX9 g a i xs) H locs → lv_has ls 5 [(0, .ref (a i)), (1, .int pa), (2, .int pb), (3, .int l3), (4, .int l4)] → W p l e (rM 2 46) s m args below meth c H locs 0 0 (mZ g below args s w0 (wX9 g a i o.2) (some (.int o.1))) (F0 m 55 ls []) := by
  have hx := X.1
  have hb := X.2.1
  intro fu
  induction fu with
  | zero =>
    intro xs l3 l4 H locs ls h
    unfold qX9_bridges_55 at h
    cases h
  | succ fu ih =>
    intro xs l3 l4 H locs ls h hH hl
    unfold qX9_bridges_55 at h
    refine lv_iload hx hb dX9_bridges_55 (lv_at hl 4 rfl) ?_
    refine lv_aload_n hx hb dX9_bridges_57 rfl (lv_at hl 0 rfl) ?_
    refine f_get X hH 0 rfl rfl 1 (by decide) inX9 fX9_120 rfl dX9_bridges_58 ?_
    refine lv_icmp_ge (tgt := 112) hx hb dX9_bridges_61 (by decide) (fun c5 => ?_) (fun c5 => ?_)
    · have h := it_x h c5
      refine lv_iload_n hx hb dX9_bridges_112 rfl (lv_at hl 3 rfl) ?_
      cases h
      exact e_i X hH dX9_bridges_113
    · have h := ie_x h c5
      refine lv_aload_n hx hb dX9_bridges_64 rfl (lv_at hl 0 rfl) ?_
      refine lv_iconst (v := (1 : Int32)) hx hb dX9_bridges_65 (by decide) ?_
      refine lv_aload_n hx hb dX9_bridges_66 rfl (lv_at hl 0 rfl) ?_
      refine f_get X hH 0 rfl rfl 1 (by decide) inX9 fX9_120 rfl dX9_bridges_67 ?_
      refine lv_ishl hx hb dX9_bridges_70 ?_
      refine lv_iconst (v := (1 : Int32)) hx hb dX9_bridges_71 (by decide) ?_
      refine lv_isub hx hb dX9_bridges_72 ?_
      refine lv_iconst (v := (1 : Int32)) hx hb dX9_bridges_73 (by decide) ?_
      refine lv_iload hx hb dX9_bridges_74 (lv_at hl 4 rfl) ?_
      refine lv_ishl hx hb dX9_bridges_76 ?_
      refine lv_iconst (v := (-1 : Int32)) hx hb dX9_bridges_77 (by decide) ?_
      refine lv_ixor hx hb dX9_bridges_78 ?_
      refine lv_iand hx hb dX9_bridges_79 ?_
      obtain ⟨xs1, exs1, h⟩ := ltt_x h
      refine f_put X hH (ws1 := (wX9 g a i xs1)) 0 rfl rfl 19 (by decide) inX9 tyX9 tyX9_ok nmX9 fX9_223 rfl rfl rfl (Nat.le_of_ble_eq_true rfl) (by rw [exs1]; rfl) dX9_bridges_80 (fun H locs hH => ?_)
      refine lv_iload_n hx hb dX9_bridges_83 rfl (lv_at hl 3 rfl) ?_
      refine lv_aload_n hx hb dX9_bridges_84 rfl (lv_at hl 0 rfl) ?_
      refine lv_iload_n hx hb dX9_bridges_85 rfl (lv_at hl 1 rfl) ?_
      obtain ⟨o7, ho7, h⟩ := bd_x h
      refine r_V X hH (ws1 := (wX9 g a i xs1)) (As := [.int pa]) (rest := [.int l3]) (st1 := [.int o7, .int l3]) (uX9_reach (a := a) (i := i) ho7) kX9_reach mX9_233 iX9_reach vX9_reach zX9 okX9_reach ⟨Nat.le_of_ble_eq_true rfl, Nat.le_of_ble_eq_true rfl⟩ rfl rfl (q0 := 0) rfl rfl [0, 1, 2, 3, 4, 5, 6, 7, 8, 9, 10, 11, 12, 13, 14, 15, 16, 17, 18, 19, 20, 21, 22, 23, 24, 25, 26, 27, 28, 29, 30, 31, 32, 33] rfl rfl rfl (putl_self _ _ rfl) rfl hl.1 rfl (Nat.le_of_ble_eq_true rfl) ⟨Nat.le_refl 0, Nat.le_refl 0⟩ rfl dX9_bridges_86 (fun H locs hH => ?_)
      refine lv_iload_n hx hb dX9_bridges_89 rfl (lv_at hl 2 rfl) ?_
      obtain ⟨o8, ho8, h⟩ := bd_x h
      refine r_S X hH (ws1 := (wX9 g a i xs1)) (As := [.int o7, .int pb]) (rest := [.int l3]) (st1 := [.int o8, .int l3]) (uX9_has  ho8) kX9_has mX9_226 sX9_has zX9 okX9_has ⟨Nat.le_of_ble_eq_true rfl, Nat.le_of_ble_eq_true rfl⟩ rfl rfl [] rfl rfl rfl (putl_self _ _ rfl) rfl hl.1 rfl (Nat.le_of_ble_eq_true rfl) ⟨Nat.le_refl 0, Nat.le_refl 0⟩ rfl dX9_bridges_90 (fun H locs hH => ?_)
      refine lv_if_eq (tgt := 100) hx hb dX9_bridges_93 (by decide) (fun c6 => ?_) (fun c6 => ?_)
      · have h := it_x h c6
        refine lv_iconst (v := (1 : Int32)) hx hb dX9_bridges_100 (by decide) ?_
        refine lv_iload hx hb dX9_bridges_101 (lv_at hl 4 rfl) ?_
        refine lv_ishl hx hb dX9_bridges_103 ?_
        exact pX9_bridges_104 X ih xs1 l4 l3 ((1 : Int32) <<< (l4 &&& 31)) H locs ls h hH (lv_sub hl [0, 1, 2, 4] rfl)
      · have h := ie_x h c6
        refine lv_iconst (v := (0 : Int32)) hx hb dX9_bridges_96 (by decide) ?_
        refine lv_goto (tgt := 104) hx hb dX9_bridges_97 (by decide) ?_
        exact pX9_bridges_104 X ih xs1 l4 l3 (0 : Int32) H locs ls h hH (lv_sub hl [0, 1, 2, 4] rfl)
set_option maxHeartbeats 4000000 in
set_option maxRecDepth 100000 in
theorem uX9_bridges {l : Launch} {g : GG} {a : Nat → Nat} {i : Nat} {xs : SX9} {pa : Int32} {pb : Int32} {o : (Int32 × SX9)} (h : fX9_bridges xs pa pb = some o) : mC l g yX9_bridges cX9_bridges 5 (some .int) (rM 2 46) [.ref (a i), .int pa, .int pb] (wX9 g a i xs) (wX9 g a i o.2) (some (.int o.1)) := by
  refine mC.ofW (by decide) (fun p e s m below meth c X hH ls _ hl => ?_) (Nat.le_of_ble_eq_true rfl)
  have hx := X.1
  have hb := X.2.1
  have hl : lv_has ls 5 [(0, .ref (a i)), (1, .int pa), (2, .int pb)] := hl
  unfold fX9_bridges at h
  suffices HH : ∀ (H : Heap) (locs : List Loc), mH g s (wX9 g a i xs) (wX9 g a i xs) H locs → W p l e (rM 2 46) s m _ below meth c H locs 0 0 (mZ g below _ s (wX9 g a i xs) (wX9 g a i o.2) (some (.int o.1))) (F0 m 0 ls []) from HH _ _ hH
  clear hH
  intro H locs hH
  refine lv_aload_n hx hb dX9_bridges_0 rfl (lv_at hl 0 rfl) ?_
  refine lv_iload_n hx hb dX9_bridges_1 rfl (lv_at hl 1 rfl) ?_
  obtain ⟨o1, ho1, h⟩ := bd_x h
  refine r_V X hH (ws1 := (wX9 g a i xs)) (As := [.int pa]) (rest := []) (st1 := [.int o1]) (uX9_isPoint (a := a) (i := i) ho1) kX9_isPoint mX9_141 iX9_isPoint vX9_isPoint zX9 okX9_isPoint ⟨Nat.le_of_ble_eq_true rfl, Nat.le_of_ble_eq_true rfl⟩ rfl rfl (q0 := 0) rfl rfl [0, 1, 2, 3, 4, 5, 6, 7, 8, 9, 10, 11, 12, 13, 14, 15, 16, 17, 18, 19, 20, 21, 22, 23, 24, 25, 26, 27, 28, 29, 30, 31, 32, 33] rfl rfl rfl (putl_self _ _ rfl) rfl hl.1 rfl (Nat.le_of_ble_eq_true rfl) ⟨Nat.le_refl 0, Nat.le_refl 0⟩ rfl dX9_bridges_2 (fun H locs hH => ?_)
  refine lv_if_eq (tgt := 21) hx hb dX9_bridges_5 (by decide) (fun c1 => ?_) (fun c1 => ?_)
  · have h := it_x h c1
    exact pX9_bridges_21 X  xs H locs ls h hH (lv_sub hl [0, 1, 2] rfl)
  · have h := ie_x h c1
    refine lv_aload_n hx hb dX9_bridges_8 rfl (lv_at hl 0 rfl) ?_
    refine lv_iload_n hx hb dX9_bridges_9 rfl (lv_at hl 2 rfl) ?_
    obtain ⟨o3, ho3, h⟩ := bd_x h
    refine r_V X hH (ws1 := (wX9 g a i xs)) (As := [.int pb]) (rest := []) (st1 := [.int o3]) (uX9_isPoint (a := a) (i := i) ho3) kX9_isPoint mX9_141 iX9_isPoint vX9_isPoint zX9 okX9_isPoint ⟨Nat.le_of_ble_eq_true rfl, Nat.le_of_ble_eq_true rfl⟩ rfl rfl (q0 := 0) rfl rfl [0, 1, 2, 3, 4, 5, 6, 7, 8, 9, 10, 11, 12, 13, 14, 15, 16, 17, 18, 19, 20, 21, 22, 23, 24, 25, 26, 27, 28, 29, 30, 31, 32, 33] rfl rfl rfl (putl_self _ _ rfl) rfl hl.1 rfl (Nat.le_of_ble_eq_true rfl) ⟨Nat.le_refl 0, Nat.le_refl 0⟩ rfl dX9_bridges_10 (fun H locs hH => ?_)
    refine lv_if_eq (tgt := 21) hx hb dX9_bridges_13 (by decide) (fun c2 => ?_) (fun c2 => ?_)
    · have h := it_x h c2
      exact pX9_bridges_21 X  xs H locs ls h hH (lv_sub hl [0, 1, 2] rfl)
    · have h := ie_x h c2
      refine lv_iload_n hx hb dX9_bridges_16 rfl (lv_at hl 1 rfl) ?_
      refine lv_iload_n hx hb dX9_bridges_17 rfl (lv_at hl 2 rfl) ?_
      refine lv_icmp_ne (tgt := 27) hx hb dX9_bridges_18 (by decide) (fun c3 => ?_) (fun c3 => ?_)
      · have h := ie_x h c3
        refine lv_aload_n hx hb dX9_bridges_27 rfl (lv_at hl 0 rfl) ?_
        obtain ⟨o4, ho4, h⟩ := bd_x h
        refine r_V X hH (ws1 := (wX9 g a i o4)) (As := []) (rest := []) (st1 := []) (uX9_allThere (a := a) (i := i) ho4) kX9_allThere mX9_230 iX9_allThere vX9_allThere zX9 okX9_allThere ⟨Nat.le_of_ble_eq_true rfl, Nat.le_of_ble_eq_true rfl⟩ rfl rfl (q0 := 0) rfl rfl [0, 1, 2, 3, 4, 5, 6, 7, 8, 9, 10, 11, 12, 13, 14, 15, 16, 17, 18, 19, 20, 21, 22, 23, 24, 25, 26, 27, 28, 29, 30, 31, 32, 33] rfl rfl rfl rfl rfl hl.1 rfl (Nat.le_of_ble_eq_true rfl) ⟨Nat.le_refl 0, Nat.le_refl 0⟩ rfl dX9_bridges_28 (fun H locs hH => ?_)
        refine lv_aload_n hx hb dX9_bridges_31 rfl (lv_at hl 0 rfl) ?_
        refine lv_iload_n hx hb dX9_bridges_32 rfl (lv_at hl 1 rfl) ?_
        obtain ⟨o5, ho5, h⟩ := bd_x h
        refine r_V X hH (ws1 := (wX9 g a i o4)) (As := [.int pa]) (rest := []) (st1 := [.int o5]) (uX9_reach (a := a) (i := i) ho5) kX9_reach mX9_233 iX9_reach vX9_reach zX9 okX9_reach ⟨Nat.le_of_ble_eq_true rfl, Nat.le_of_ble_eq_true rfl⟩ rfl rfl (q0 := 0) rfl rfl [0, 1, 2, 3, 4, 5, 6, 7, 8, 9, 10, 11, 12, 13, 14, 15, 16, 17, 18, 19, 20, 21, 22, 23, 24, 25, 26, 27, 28, 29, 30, 31, 32, 33] rfl rfl rfl (putl_self _ _ rfl) rfl hl.1 rfl (Nat.le_of_ble_eq_true rfl) ⟨Nat.le_refl 0, Nat.le_refl 0⟩ rfl dX9_bridges_33 (fun H locs hH => ?_)
        refine lv_iload_n hx hb dX9_bridges_36 rfl (lv_at hl 2 rfl) ?_
        obtain ⟨o6, ho6, h⟩ := bd_x h
        refine r_S X hH (ws1 := (wX9 g a i o4)) (As := [.int o5, .int pb]) (rest := []) (st1 := [.int o6]) (uX9_has  ho6) kX9_has mX9_226 sX9_has zX9 okX9_has ⟨Nat.le_of_ble_eq_true rfl, Nat.le_of_ble_eq_true rfl⟩ rfl rfl [] rfl rfl rfl (putl_self _ _ rfl) rfl hl.1 rfl (Nat.le_of_ble_eq_true rfl) ⟨Nat.le_refl 0, Nat.le_refl 0⟩ rfl dX9_bridges_37 (fun H locs hH => ?_)
        refine lv_if_ne (tgt := 50) hx hb dX9_bridges_40 (by decide) (fun c4 => ?_) (fun c4 => ?_)
        · have h := ie_x h c4
          refine lv_iconst (v := (0 : Int32)) hx hb dX9_bridges_50 (by decide) ?_
          refine s_in X (lv' := [(3, .int (0 : Int32)), (0, .ref (a i)), (1, .int pa), (2, .int pb)]) hl rfl dX9_bridges_51 rfl (by decide) rfl (fun ls hl => ?_)
          refine lv_iconst (v := (0 : Int32)) hx hb dX9_bridges_52 (by decide) ?_
          refine s_i X (lv' := [(4, .int (0 : Int32)), (3, .int (0 : Int32)), (0, .ref (a i)), (1, .int pa), (2, .int pb)]) hl rfl dX9_bridges_53 (by decide) rfl (fun ls hl => ?_)
          exact pX9_bridges_55 X FU o4 (0 : Int32) (0 : Int32) H locs ls h hH (lv_sub hl [2, 3, 4, 1, 0] rfl)
        · have h := it_x h c4
          refine lv_aload_n hx hb dX9_bridges_43 rfl (lv_at hl 0 rfl) ?_
          refine lv_bipush (v := (-3 : Int32)) hx hb dX9_bridges_44 (by decide) ?_
          obtain ⟨o9, ho9, h⟩ := bd_x h
          refine r_V X hH (ws1 := (wX9 g a i o9.2)) (As := [.int (-3 : Int32)]) (rest := []) (st1 := [.int o9.1]) (uX9_no (a := a) (i := i) ho9) kX9_no mX9_125 iX9_no vX9_no zX9 okX9_no ⟨Nat.le_of_ble_eq_true rfl, Nat.le_of_ble_eq_true rfl⟩ rfl rfl (q0 := 0) rfl rfl [0, 1, 2, 3, 4, 5, 6, 7, 8, 9, 10, 11, 12, 13, 14, 15, 16, 17, 18, 19, 20, 21, 22, 23, 24, 25, 26, 27, 28, 29, 30, 31, 32, 33] rfl rfl rfl rfl rfl hl.1 rfl (Nat.le_of_ble_eq_true rfl) ⟨Nat.le_refl 0, Nat.le_refl 0⟩ rfl dX9_bridges_46 (fun H locs hH => ?_)
          cases h
          exact e_i X hH dX9_bridges_49
      · have h := it_x h c3
        exact pX9_bridges_21 X  xs H locs ls h hH (lv_sub hl [0, 1, 2] rfl)
