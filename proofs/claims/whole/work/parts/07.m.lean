def fX3_isPoint (xs : SX3) (pa : Int32) : Option Int32 :=
  (if pa < (0 : Int32) then
  some (0 : Int32)
  else
  (if (n_points xs) ≤ pa then
  some (0 : Int32)
  else
  some (1 : Int32)))
set_option maxHeartbeats 4000000 in
set_option maxRecDepth 100000 in
theorem uX3_isPoint {l : Launch} {g : GG} {a : Nat → Nat} {i : Nat} {xs : SX3} {pa : Int32} {o : Int32} (h : fX3_isPoint xs pa = some o) : mC l g yX3_isPoint cX3_isPoint 2 (some .boolean) (rM 0 0) [.ref (a i), .int pa] (wX3 g a i xs) (wX3 g a i xs) (some (.int o)) := by
  refine mC.ofW (by decide) (fun p e s m below meth c X hH ls _ hl => ?_) (Nat.le_of_ble_eq_true rfl)
  have hx := X.1
  have hb := X.2.1
  have hl : lv_has ls 2 [(0, .ref (a i)), (1, .int pa)] := hl
  unfold fX3_isPoint at h
  suffices HH : ∀ (H : Heap) (locs : List Loc), mH g s (wX3 g a i xs) (wX3 g a i xs) H locs → W p l e (rM 0 0) s m _ below meth c H locs 0 0 (mZ g below _ s (wX3 g a i xs) (wX3 g a i xs) (some (.int o))) (F0 m 0 ls []) from HH _ _ hH
  clear hH
  intro H locs hH
  refine lv_iload_n hx hb dX3_isPoint_0 rfl (lv_at hl 1 rfl) ?_
  refine lv_if_lt (tgt := 16) hx hb dX3_isPoint_1 (by decide) (fun c1 => ?_) (fun c1 => ?_)
  · have h := it_x h c1
    refine lv_iconst (v := (0 : Int32)) hx hb dX3_isPoint_16 (by decide) ?_
    cases h
    exact e_z X hH (by decide) dX3_isPoint_17
  · have h := ie_x h c1
    refine lv_iload_n hx hb dX3_isPoint_4 rfl (lv_at hl 1 rfl) ?_
    refine lv_aload_n hx hb dX3_isPoint_5 rfl (lv_at hl 0 rfl) ?_
    refine f_get X hH 0 rfl rfl 0 (by decide) inX3 fX3_9 rfl dX3_isPoint_6 ?_
    refine lv_icmp_ge (tgt := 16) hx hb dX3_isPoint_9 (by decide) (fun c2 => ?_) (fun c2 => ?_)
    · have h := it_x h c2
      refine lv_iconst (v := (0 : Int32)) hx hb dX3_isPoint_16 (by decide) ?_
      cases h
      exact e_z X hH (by decide) dX3_isPoint_17
    · have h := ie_x h c2
      refine lv_iconst (v := (1 : Int32)) hx hb dX3_isPoint_12 (by decide) ?_
      refine lv_goto (tgt := 17) hx hb dX3_isPoint_13 (by decide) ?_
      cases h
      exact e_z X hH (by decide) dX3_isPoint_17

def fX3_isWay (xs : SX3) (pa : Int32) : Option Int32 :=
  (if pa < (0 : Int32) then
  some (0 : Int32)
  else
  (if (n_ways xs) ≤ pa then
  some (0 : Int32)
  else
  some (1 : Int32)))
set_option maxHeartbeats 4000000 in
set_option maxRecDepth 100000 in
theorem uX3_isWay {l : Launch} {g : GG} {a : Nat → Nat} {i : Nat} {xs : SX3} {pa : Int32} {o : Int32} (h : fX3_isWay xs pa = some o) : mC l g yX3_isWay cX3_isWay 2 (some .boolean) (rM 0 0) [.ref (a i), .int pa] (wX3 g a i xs) (wX3 g a i xs) (some (.int o)) := by
  refine mC.ofW (by decide) (fun p e s m below meth c X hH ls _ hl => ?_) (Nat.le_of_ble_eq_true rfl)
  have hx := X.1
  have hb := X.2.1
  have hl : lv_has ls 2 [(0, .ref (a i)), (1, .int pa)] := hl
  unfold fX3_isWay at h
  suffices HH : ∀ (H : Heap) (locs : List Loc), mH g s (wX3 g a i xs) (wX3 g a i xs) H locs → W p l e (rM 0 0) s m _ below meth c H locs 0 0 (mZ g below _ s (wX3 g a i xs) (wX3 g a i xs) (some (.int o))) (F0 m 0 ls []) from HH _ _ hH
  clear hH
  intro H locs hH
  refine lv_iload_n hx hb dX3_isWay_0 rfl (lv_at hl 1 rfl) ?_
  refine lv_if_lt (tgt := 16) hx hb dX3_isWay_1 (by decide) (fun c1 => ?_) (fun c1 => ?_)
  · have h := it_x h c1
    refine lv_iconst (v := (0 : Int32)) hx hb dX3_isWay_16 (by decide) ?_
    cases h
    exact e_z X hH (by decide) dX3_isWay_17
  · have h := ie_x h c1
    refine lv_iload_n hx hb dX3_isWay_4 rfl (lv_at hl 1 rfl) ?_
    refine lv_aload_n hx hb dX3_isWay_5 rfl (lv_at hl 0 rfl) ?_
    refine f_get X hH 0 rfl rfl 1 (by decide) inX3 fX3_15 rfl dX3_isWay_6 ?_
    refine lv_icmp_ge (tgt := 16) hx hb dX3_isWay_9 (by decide) (fun c2 => ?_) (fun c2 => ?_)
    · have h := it_x h c2
      refine lv_iconst (v := (0 : Int32)) hx hb dX3_isWay_16 (by decide) ?_
      cases h
      exact e_z X hH (by decide) dX3_isWay_17
    · have h := ie_x h c2
      refine lv_iconst (v := (1 : Int32)) hx hb dX3_isWay_12 (by decide) ?_
      refine lv_goto (tgt := 17) hx hb dX3_isWay_13 (by decide) ?_
      cases h
      exact e_z X hH (by decide) dX3_isWay_17

def fX3_allPoints (xs : SX3) : Option Int32 :=
  some (((1 : Int32) <<< ((n_points xs) &&& 31)) - (1 : Int32))
set_option maxHeartbeats 4000000 in
set_option maxRecDepth 100000 in
theorem uX3_allPoints {l : Launch} {g : GG} {a : Nat → Nat} {i : Nat} {xs : SX3} {o : Int32} (h : fX3_allPoints xs = some o) : mC l g yX3_allPoints cX3_allPoints 1 (some .int) (rM 0 0) [.ref (a i)] (wX3 g a i xs) (wX3 g a i xs) (some (.int o)) := by
  refine mC.ofW (by decide) (fun p e s m below meth c X hH ls _ hl => ?_) (Nat.le_of_ble_eq_true rfl)
  have hx := X.1
  have hb := X.2.1
  have hl : lv_has ls 1 [(0, .ref (a i))] := hl
  unfold fX3_allPoints at h
  suffices HH : ∀ (H : Heap) (locs : List Loc), mH g s (wX3 g a i xs) (wX3 g a i xs) H locs → W p l e (rM 0 0) s m _ below meth c H locs 0 0 (mZ g below _ s (wX3 g a i xs) (wX3 g a i xs) (some (.int o))) (F0 m 0 ls []) from HH _ _ hH
  clear hH
  intro H locs hH
  refine lv_iconst (v := (1 : Int32)) hx hb dX3_allPoints_0 (by decide) ?_
  refine lv_aload_n hx hb dX3_allPoints_1 rfl (lv_at hl 0 rfl) ?_
  refine f_get X hH 0 rfl rfl 0 (by decide) inX3 fX3_9 rfl dX3_allPoints_2 ?_
  refine lv_ishl hx hb dX3_allPoints_5 ?_
  refine lv_iconst (v := (1 : Int32)) hx hb dX3_allPoints_6 (by decide) ?_
  refine lv_isub hx hb dX3_allPoints_7 ?_
  cases h
  exact e_i X hH dX3_allPoints_8

def fX3_allWays (xs : SX3) : Option Int32 :=
  some (((1 : Int32) <<< ((n_ways xs) &&& 31)) - (1 : Int32))
set_option maxHeartbeats 4000000 in
set_option maxRecDepth 100000 in
theorem uX3_allWays {l : Launch} {g : GG} {a : Nat → Nat} {i : Nat} {xs : SX3} {o : Int32} (h : fX3_allWays xs = some o) : mC l g yX3_allWays cX3_allWays 1 (some .int) (rM 0 0) [.ref (a i)] (wX3 g a i xs) (wX3 g a i xs) (some (.int o)) := by
  refine mC.ofW (by decide) (fun p e s m below meth c X hH ls _ hl => ?_) (Nat.le_of_ble_eq_true rfl)
  have hx := X.1
  have hb := X.2.1
  have hl : lv_has ls 1 [(0, .ref (a i))] := hl
  unfold fX3_allWays at h
  suffices HH : ∀ (H : Heap) (locs : List Loc), mH g s (wX3 g a i xs) (wX3 g a i xs) H locs → W p l e (rM 0 0) s m _ below meth c H locs 0 0 (mZ g below _ s (wX3 g a i xs) (wX3 g a i xs) (some (.int o))) (F0 m 0 ls []) from HH _ _ hH
  clear hH
  intro H locs hH
  refine lv_iconst (v := (1 : Int32)) hx hb dX3_allWays_0 (by decide) ?_
  refine lv_aload_n hx hb dX3_allWays_1 rfl (lv_at hl 0 rfl) ?_
  refine f_get X hH 0 rfl rfl 1 (by decide) inX3 fX3_15 rfl dX3_allWays_2 ?_
  refine lv_ishl hx hb dX3_allWays_5 ?_
  refine lv_iconst (v := (1 : Int32)) hx hb dX3_allWays_6 (by decide) ?_
  refine lv_isub hx hb dX3_allWays_7 ?_
  cases h
  exact e_i X hH dX3_allWays_8

def fX8_weightOf (pa : Int32) (pb : Int32) (pc_ : Int32) : Option Int32 :=
  (if pa = (1 : Int32) then
  some ((pc_ + (1 : Int32)) / (2 : Int32))
  else
  (if pa = (2 : Int32) then
  some ((2 : Int32) * pc_)
  else
  (if pa = (3 : Int32) then
  (if ((2 : Int32) * pc_) ≤ pb then
  some (1 : Int32)
  else
  some (((2 : Int32) * pc_) - pb))
  else
  (if pa = (4 : Int32) then
  some (((pc_ + (1 : Int32)) / (2 : Int32)) + (1 : Int32))
  else
  some pc_))))
set_option maxHeartbeats 4000000 in
set_option maxRecDepth 100000 in
theorem uX8_weightOf {l : Launch} {g : GG}  {pa : Int32} {pb : Int32} {pc_ : Int32} {o : Int32} (h : fX8_weightOf pa pb pc_ = some o) : mC l g yX8_weightOf cX8_weightOf 3 (some .int) (rM 0 0) [.int pa, .int pb, .int pc_] [] [] (some (.int o)) := by
  refine mC.ofW (by decide) (fun p e s m below meth c X hH ls _ hl => ?_) (Nat.le_of_ble_eq_true rfl)
  have hx := X.1
  have hb := X.2.1
  have hl : lv_has ls 3 [(0, .int pa), (1, .int pb), (2, .int pc_)] := hl
  unfold fX8_weightOf at h
  suffices HH : ∀ (H : Heap) (locs : List Loc), mH g s [] [] H locs → W p l e (rM 0 0) s m _ below meth c H locs 0 0 (mZ g below _ s [] [] (some (.int o))) (F0 m 0 ls []) from HH _ _ hH
  clear hH
  intro H locs hH
  refine lv_iload_n hx hb dX8_weightOf_0 rfl (lv_at hl 0 rfl) ?_
  rcases Classical.em (pa = (1 : Int32)) with c1 | c1
  · have h := it_x h c1
    refine lv_tableIn (tgt := 32) hx hb dX8_weightOf_1 (by rw [c1]; decide) (by rw [c1]; decide) (off := 31) (by rw [c1]; decide) (by decide) ?_
    refine lv_iload_n hx hb dX8_weightOf_32 rfl (lv_at hl 2 rfl) ?_
    refine lv_iconst (v := (1 : Int32)) hx hb dX8_weightOf_33 (by decide) ?_
    refine lv_iadd hx hb dX8_weightOf_34 ?_
    refine lv_iconst (v := (2 : Int32)) hx hb dX8_weightOf_35 (by decide) ?_
    refine lv_idiv hx hb dX8_weightOf_36 (by decide) ?_
    cases h
    exact e_i X hH dX8_weightOf_37
  · have h := ie_x h c1
    rcases Classical.em (pa = (2 : Int32)) with c2 | c2
    · have h := it_x h c2
      refine lv_tableIn (tgt := 38) hx hb dX8_weightOf_1 (by rw [c2]; decide) (by rw [c2]; decide) (off := 37) (by rw [c2]; decide) (by decide) ?_
      refine lv_iconst (v := (2 : Int32)) hx hb dX8_weightOf_38 (by decide) ?_
      refine lv_iload_n hx hb dX8_weightOf_39 rfl (lv_at hl 2 rfl) ?_
      refine lv_imul hx hb dX8_weightOf_40 ?_
      cases h
      exact e_i X hH dX8_weightOf_41
    · have h := ie_x h c2
      rcases Classical.em (pa = (3 : Int32)) with c3 | c3
      · have h := it_x h c3
        refine lv_tableIn (tgt := 42) hx hb dX8_weightOf_1 (by rw [c3]; decide) (by rw [c3]; decide) (off := 41) (by rw [c3]; decide) (by decide) ?_
        refine lv_iconst (v := (2 : Int32)) hx hb dX8_weightOf_42 (by decide) ?_
        refine lv_iload_n hx hb dX8_weightOf_43 rfl (lv_at hl 2 rfl) ?_
        refine lv_imul hx hb dX8_weightOf_44 ?_
        refine lv_iload_n hx hb dX8_weightOf_45 rfl (lv_at hl 1 rfl) ?_
        refine lv_icmp_le (tgt := 57) hx hb dX8_weightOf_46 (by decide) (fun c5 => ?_) (fun c5 => ?_)
        · have h := it_x h c5
          refine lv_iconst (v := (1 : Int32)) hx hb dX8_weightOf_57 (by decide) ?_
          cases h
          exact e_i X hH dX8_weightOf_58
        · have h := ie_x h c5
          refine lv_iconst (v := (2 : Int32)) hx hb dX8_weightOf_49 (by decide) ?_
          refine lv_iload_n hx hb dX8_weightOf_50 rfl (lv_at hl 2 rfl) ?_
          refine lv_imul hx hb dX8_weightOf_51 ?_
          refine lv_iload_n hx hb dX8_weightOf_52 rfl (lv_at hl 1 rfl) ?_
          refine lv_isub hx hb dX8_weightOf_53 ?_
          refine lv_goto (tgt := 58) hx hb dX8_weightOf_54 (by decide) ?_
          cases h
          exact e_i X hH dX8_weightOf_58
      · have h := ie_x h c3
        rcases Classical.em (pa = (4 : Int32)) with c4 | c4
        · have h := it_x h c4
          refine lv_tableIn (tgt := 59) hx hb dX8_weightOf_1 (by rw [c4]; decide) (by rw [c4]; decide) (off := 58) (by rw [c4]; decide) (by decide) ?_
          refine lv_iload_n hx hb dX8_weightOf_59 rfl (lv_at hl 2 rfl) ?_
          refine lv_iconst (v := (1 : Int32)) hx hb dX8_weightOf_60 (by decide) ?_
          refine lv_iadd hx hb dX8_weightOf_61 ?_
          refine lv_iconst (v := (2 : Int32)) hx hb dX8_weightOf_62 (by decide) ?_
          refine lv_idiv hx hb dX8_weightOf_63 (by decide) ?_
          refine lv_iconst (v := (1 : Int32)) hx hb dX8_weightOf_64 (by decide) ?_
          refine lv_iadd hx hb dX8_weightOf_65 ?_
          cases h
          exact e_i X hH dX8_weightOf_66
        · have h := ie_x h c4
          refine lv_tableOut (tgt := 67) hx hb dX8_weightOf_1 (tsw_1_4 (c1) (c2) (c3) (c4)) (by decide) ?_
          refine lv_iload_n hx hb dX8_weightOf_67 rfl (lv_at hl 2 rfl) ?_
          cases h
          exact e_i X hH dX8_weightOf_68

def fX3_weight (xs : SX3) (pa : Int32) : Option Int32 :=
  ga 11 pa fun j1 =>
  ga 11 pa fun j2 =>
  ga 11 pa fun j3 =>
  (fX8_weightOf ((n_kinds xs) j1) ((n_figures xs) j2) ((n_loads xs) j3)).bind fun o1 =>
  some o1
set_option maxHeartbeats 4000000 in
set_option maxRecDepth 100000 in
theorem uX3_weight {l : Launch} {g : GG} {a : Nat → Nat} {i : Nat} {xs : SX3} {pa : Int32} {o : Int32} (h : fX3_weight xs pa = some o) : mC l g yX3_weight cX3_weight 2 (some .int) (rM 1 22) [.ref (a i), .int pa] (wX3 g a i xs) (wX3 g a i xs) (some (.int o)) := by
  refine mC.ofW (by decide) (fun p e s m below meth c X hH ls _ hl => ?_) (Nat.le_of_ble_eq_true rfl)
  have hx := X.1
  have hb := X.2.1
  have hl : lv_has ls 2 [(0, .ref (a i)), (1, .int pa)] := hl
  unfold fX3_weight at h
  suffices HH : ∀ (H : Heap) (locs : List Loc), mH g s (wX3 g a i xs) (wX3 g a i xs) H locs → W p l e (rM 1 22) s m _ below meth c H locs 0 0 (mZ g below _ s (wX3 g a i xs) (wX3 g a i xs) (some (.int o))) (F0 m 0 ls []) from HH _ _ hH
  clear hH
  intro H locs hH
  refine lv_aload_n hx hb dX3_weight_0 rfl (lv_at hl 0 rfl) ?_
  refine f_get X hH 0 rfl rfl 4 (by decide) inX3 fX3_25 rfl dX3_weight_1 ?_
  refine lv_iload_n hx hb dX3_weight_4 rfl (lv_at hl 1 rfl) ?_
  obtain ⟨j1, ej1, hinj1, h⟩ := ga_x h
  refine a_il X hH 3 rfl hinj1 ej1 dX3_weight_5 ?_
  refine lv_aload_n hx hb dX3_weight_6 rfl (lv_at hl 0 rfl) ?_
  refine f_get X hH 0 rfl rfl 5 (by decide) inX3 fX3_28 rfl dX3_weight_7 ?_
  refine lv_iload_n hx hb dX3_weight_10 rfl (lv_at hl 1 rfl) ?_
  obtain ⟨j2, ej2, hinj2, h⟩ := ga_x h
  refine a_il X hH 4 rfl hinj2 ej2 dX3_weight_11 ?_
  refine lv_aload_n hx hb dX3_weight_12 rfl (lv_at hl 0 rfl) ?_
  refine f_get X hH 0 rfl rfl 6 (by decide) inX3 fX3_31 rfl dX3_weight_13 ?_
  refine lv_iload_n hx hb dX3_weight_16 rfl (lv_at hl 1 rfl) ?_
  obtain ⟨j3, ej3, hinj3, h⟩ := ga_x h
  refine a_il X hH 5 rfl hinj3 ej3 dX3_weight_17 ?_
  obtain ⟨o1, ho1, h⟩ := bd_x h
  refine r_SN X hH (ws1 := (wX3 g a i xs)) (As := [.int ((n_kinds xs) j1), .int ((n_figures xs) j2), .int ((n_loads xs) j3)]) (rest := []) (st1 := [.int o1]) (uX8_weightOf  ho1) kX8_weightOf nnX3_37 sX8_weightOf zX8 okX8_weightOf ⟨Nat.le_of_ble_eq_true rfl, Nat.le_of_ble_eq_true rfl⟩ rfl rfl [] rfl rfl rfl (putl_self _ _ rfl) rfl hl.1 rfl (Nat.le_of_ble_eq_true rfl) ⟨Nat.le_refl 0, Nat.le_refl 0⟩ rfl dX3_weight_18 (fun H locs hH => ?_)
  cases h
  exact e_i X hH dX3_weight_21

def qX8_minutesOf_32 (pa : Int32) (pb : Int32) (pc_ : Int32)   : Option Int32 :=
  some ((pc_ + (1 : Int32)) / (2 : Int32))
def fX8_minutesOf (pa : Int32) (pb : Int32) (pc_ : Int32) : Option Int32 :=
  (if pa = (2 : Int32) then
  qX8_minutesOf_32 pa pb pc_ 
  else
  (if pa = (3 : Int32) then
  qX8_minutesOf_32 pa pb pc_ 
  else
  (if pa = (4 : Int32) then
  some (pc_ + pb)
  else
  (if pa = (5 : Int32) then
  some (pc_ + pb)
  else
  some pc_))))
set_option maxHeartbeats 4000000 in
set_option maxRecDepth 100000 in
theorem pX8_minutesOf_32 {p : Program} {l : Launch} {e : Env} {s : State} {m : MethodId} {args : Array Value} {below : List Frame} {meth : Method} {c : Code} {g : GG} {w0 : va_W}  {pa : Int32} {pb : Int32} {pc_ : Int32} {o : Int32} (X : mX g yX8_minutesOf cX8_minutesOf 3 (some .int) p s m args meth c w0) :
  ∀  (H : Heap) (locs : List Loc) (ls : Array Slot), qX8_minutesOf_32 pa pb pc_ = some o → mH g s w0 [] H locs → lv_has ls 3 [(0, .int pa), (1, .int pb), (2, .int pc_)] → W p l e (rM 0 0) s m args below meth c H locs 0 0 (mZ g below args s w0 [] (some (.int o))) (F0 m 32 ls []) := by
  have hx := X.1
  have hb := X.2.1
  intro  H locs ls h hH hl
  unfold qX8_minutesOf_32 at h
  refine lv_iload_n hx hb dX8_minutesOf_32 rfl (lv_at hl 2 rfl) ?_
  refine lv_iconst (v := (1 : Int32)) hx hb dX8_minutesOf_33 (by decide) ?_
  refine lv_iadd hx hb dX8_minutesOf_34 ?_
  refine lv_iconst (v := (2 : Int32)) hx hb dX8_minutesOf_35 (by decide) ?_
  refine lv_idiv hx hb dX8_minutesOf_36 (by decide) ?_
  cases h
  exact e_i X hH dX8_minutesOf_37
set_option maxHeartbeats 4000000 in
set_option maxRecDepth 100000 in
theorem uX8_minutesOf {l : Launch} {g : GG}  {pa : Int32} {pb : Int32} {pc_ : Int32} {o : Int32} (h : fX8_minutesOf pa pb pc_ = some o) : mC l g yX8_minutesOf cX8_minutesOf 3 (some .int) (rM 0 0) [.int pa, .int pb, .int pc_] [] [] (some (.int o)) := by
  refine mC.ofW (by decide) (fun p e s m below meth c X hH ls _ hl => ?_) (Nat.le_of_ble_eq_true rfl)
  have hx := X.1
  have hb := X.2.1
  have hl : lv_has ls 3 [(0, .int pa), (1, .int pb), (2, .int pc_)] := hl
  unfold fX8_minutesOf at h
  suffices HH : ∀ (H : Heap) (locs : List Loc), mH g s [] [] H locs → W p l e (rM 0 0) s m _ below meth c H locs 0 0 (mZ g below _ s [] [] (some (.int o))) (F0 m 0 ls []) from HH _ _ hH
  clear hH
  intro H locs hH
  refine lv_iload_n hx hb dX8_minutesOf_0 rfl (lv_at hl 0 rfl) ?_
  rcases Classical.em (pa = (2 : Int32)) with c1 | c1
  · have h := it_x h c1
    refine lv_tableIn (tgt := 32) hx hb dX8_minutesOf_1 (by rw [c1]; decide) (by rw [c1]; decide) (off := 31) (by rw [c1]; decide) (by decide) ?_
    exact pX8_minutesOf_32 X   H locs ls h hH (lv_sub hl [0, 1, 2] rfl)
  · have h := ie_x h c1
    rcases Classical.em (pa = (3 : Int32)) with c2 | c2
    · have h := it_x h c2
      refine lv_tableIn (tgt := 32) hx hb dX8_minutesOf_1 (by rw [c2]; decide) (by rw [c2]; decide) (off := 31) (by rw [c2]; decide) (by decide) ?_
      exact pX8_minutesOf_32 X   H locs ls h hH (lv_sub hl [0, 1, 2] rfl)
    · have h := ie_x h c2
      rcases Classical.em (pa = (4 : Int32)) with c3 | c3
      · have h := it_x h c3
        refine lv_tableIn (tgt := 38) hx hb dX8_minutesOf_1 (by rw [c3]; decide) (by rw [c3]; decide) (off := 37) (by rw [c3]; decide) (by decide) ?_
        refine lv_iload_n hx hb dX8_minutesOf_38 rfl (lv_at hl 2 rfl) ?_
        refine lv_iload_n hx hb dX8_minutesOf_39 rfl (lv_at hl 1 rfl) ?_
        refine lv_iadd hx hb dX8_minutesOf_40 ?_
        cases h
        exact e_i X hH dX8_minutesOf_41
      · have h := ie_x h c3
        rcases Classical.em (pa = (5 : Int32)) with c4 | c4
        · have h := it_x h c4
          refine lv_tableIn (tgt := 38) hx hb dX8_minutesOf_1 (by rw [c4]; decide) (by rw [c4]; decide) (off := 37) (by rw [c4]; decide) (by decide) ?_
          refine lv_iload_n hx hb dX8_minutesOf_38 rfl (lv_at hl 2 rfl) ?_
          refine lv_iload_n hx hb dX8_minutesOf_39 rfl (lv_at hl 1 rfl) ?_
          refine lv_iadd hx hb dX8_minutesOf_40 ?_
          cases h
          exact e_i X hH dX8_minutesOf_41
        · have h := ie_x h c4
          refine lv_tableOut (tgt := 42) hx hb dX8_minutesOf_1 (tsw_2_5 (c1) (c2) (c3) (c4)) (by decide) ?_
          refine lv_iload_n hx hb dX8_minutesOf_42 rfl (lv_at hl 2 rfl) ?_
          cases h
          exact e_i X hH dX8_minutesOf_43

def fX3_minutes (xs : SX3) (pa : Int32) : Option Int32 :=
  ga 11 pa fun j1 =>
  ga 11 pa fun j2 =>
  ga 11 pa fun j3 =>
  (fX8_minutesOf ((n_kinds xs) j1) ((n_figures xs) j2) ((n_lengths xs) j3)).bind fun o1 =>
  some o1
set_option maxHeartbeats 4000000 in
set_option maxRecDepth 100000 in
theorem uX3_minutes {l : Launch} {g : GG} {a : Nat → Nat} {i : Nat} {xs : SX3} {pa : Int32} {o : Int32} (h : fX3_minutes xs pa = some o) : mC l g yX3_minutes cX3_minutes 2 (some .int) (rM 1 22) [.ref (a i), .int pa] (wX3 g a i xs) (wX3 g a i xs) (some (.int o)) := by
  refine mC.ofW (by decide) (fun p e s m below meth c X hH ls _ hl => ?_) (Nat.le_of_ble_eq_true rfl)
  have hx := X.1
  have hb := X.2.1
  have hl : lv_has ls 2 [(0, .ref (a i)), (1, .int pa)] := hl
  unfold fX3_minutes at h
  suffices HH : ∀ (H : Heap) (locs : List Loc), mH g s (wX3 g a i xs) (wX3 g a i xs) H locs → W p l e (rM 1 22) s m _ below meth c H locs 0 0 (mZ g below _ s (wX3 g a i xs) (wX3 g a i xs) (some (.int o))) (F0 m 0 ls []) from HH _ _ hH
  clear hH
  intro H locs hH
  refine lv_aload_n hx hb dX3_minutes_0 rfl (lv_at hl 0 rfl) ?_
  refine f_get X hH 0 rfl rfl 4 (by decide) inX3 fX3_25 rfl dX3_minutes_1 ?_
  refine lv_iload_n hx hb dX3_minutes_4 rfl (lv_at hl 1 rfl) ?_
  obtain ⟨j1, ej1, hinj1, h⟩ := ga_x h
  refine a_il X hH 3 rfl hinj1 ej1 dX3_minutes_5 ?_
  refine lv_aload_n hx hb dX3_minutes_6 rfl (lv_at hl 0 rfl) ?_
  refine f_get X hH 0 rfl rfl 5 (by decide) inX3 fX3_28 rfl dX3_minutes_7 ?_
  refine lv_iload_n hx hb dX3_minutes_10 rfl (lv_at hl 1 rfl) ?_
  obtain ⟨j2, ej2, hinj2, h⟩ := ga_x h
  refine a_il X hH 4 rfl hinj2 ej2 dX3_minutes_11 ?_
  refine lv_aload_n hx hb dX3_minutes_12 rfl (lv_at hl 0 rfl) ?_
  refine f_get X hH 0 rfl rfl 7 (by decide) inX3 fX3_34 rfl dX3_minutes_13 ?_
  refine lv_iload_n hx hb dX3_minutes_16 rfl (lv_at hl 1 rfl) ?_
  obtain ⟨j3, ej3, hinj3, h⟩ := ga_x h
  refine a_il X hH 6 rfl hinj3 ej3 dX3_minutes_17 ?_
  obtain ⟨o1, ho1, h⟩ := bd_x h
  refine r_SN X hH (ws1 := (wX3 g a i xs)) (As := [.int ((n_kinds xs) j1), .int ((n_figures xs) j2), .int ((n_lengths xs) j3)]) (rest := []) (st1 := [.int o1]) (uX8_minutesOf  ho1) kX8_minutesOf nnX3_41 sX8_minutesOf zX8 okX8_minutesOf ⟨Nat.le_of_ble_eq_true rfl, Nat.le_of_ble_eq_true rfl⟩ rfl rfl [] rfl rfl rfl (putl_self _ _ rfl) rfl hl.1 rfl (Nat.le_of_ble_eq_true rfl) ⟨Nat.le_refl 0, Nat.le_refl 0⟩ rfl dX3_minutes_18 (fun H locs hH => ?_)
  cases h
  exact e_i X hH dX3_minutes_21

def qX3_touches_20 (xs : SX3) (pa : Int32) (pb : Int32)   : Option Int32 :=
  some (1 : Int32)
def fX3_touches (xs : SX3) (pa : Int32) (pb : Int32) : Option Int32 :=
  ga 11 pa fun j1 =>
  (if ((n_first xs) j1) = pb then
  qX3_touches_20 xs pa pb 
  else
  ga 11 pa fun j2 =>
  (if ((n_second xs) j2) = pb then
  qX3_touches_20 xs pa pb 
  else
  some (0 : Int32)))
set_option maxHeartbeats 4000000 in
set_option maxRecDepth 100000 in
theorem pX3_touches_20 {p : Program} {l : Launch} {e : Env} {s : State} {m : MethodId} {args : Array Value} {below : List Frame} {meth : Method} {c : Code} {g : GG} {w0 : va_W} {a : Nat → Nat} {i : Nat} {xs : SX3} {pa : Int32} {pb : Int32} {o : Int32} (X : mX g yX3_touches cX3_touches 3 (some .boolean) p s m args meth c w0) :
  ∀  (H : Heap) (locs : List Loc) (ls : Array Slot), qX3_touches_20 xs pa pb = some o → mH g s w0 (wX3 g a i xs) H locs → lv_has ls 3 [(0, .ref (a i)), (1, .int pa), (2, .int pb)] → W p l e (rM 0 0) s m args below meth c H locs 0 0 (mZ g below args s w0 (wX3 g a i xs) (some (.int o))) (F0 m 20 ls []) := by
  have hx := X.1
  have hb := X.2.1
  intro  H locs ls h hH hl
  unfold qX3_touches_20 at h
  refine lv_iconst (v := (1 : Int32)) hx hb dX3_touches_20 (by decide) ?_
  refine lv_goto (tgt := 25) hx hb dX3_touches_21 (by decide) ?_
  cases h
  exact e_z X hH (by decide) dX3_touches_25
set_option maxHeartbeats 4000000 in
set_option maxRecDepth 100000 in
theorem uX3_touches {l : Launch} {g : GG} {a : Nat → Nat} {i : Nat} {xs : SX3} {pa : Int32} {pb : Int32} {o : Int32} (h : fX3_touches xs pa pb = some o) : mC l g yX3_touches cX3_touches 3 (some .boolean) (rM 0 0) [.ref (a i), .int pa, .int pb] (wX3 g a i xs) (wX3 g a i xs) (some (.int o)) := by
  refine mC.ofW (by decide) (fun p e s m below meth c X hH ls _ hl => ?_) (Nat.le_of_ble_eq_true rfl)
  have hx := X.1
  have hb := X.2.1
  have hl : lv_has ls 3 [(0, .ref (a i)), (1, .int pa), (2, .int pb)] := hl
  unfold fX3_touches at h
  suffices HH : ∀ (H : Heap) (locs : List Loc), mH g s (wX3 g a i xs) (wX3 g a i xs) H locs → W p l e (rM 0 0) s m _ below meth c H locs 0 0 (mZ g below _ s (wX3 g a i xs) (wX3 g a i xs) (some (.int o))) (F0 m 0 ls []) from HH _ _ hH
  clear hH
  intro H locs hH
  refine lv_aload_n hx hb dX3_touches_0 rfl (lv_at hl 0 rfl) ?_
  refine f_get X hH 0 rfl rfl 2 (by decide) inX3 fX3_18 rfl dX3_touches_1 ?_
  refine lv_iload_n hx hb dX3_touches_4 rfl (lv_at hl 1 rfl) ?_
  obtain ⟨j1, ej1, hinj1, h⟩ := ga_x h
  refine a_il X hH 1 rfl hinj1 ej1 dX3_touches_5 ?_
  refine lv_iload_n hx hb dX3_touches_6 rfl (lv_at hl 2 rfl) ?_
  refine lv_icmp_eq (tgt := 20) hx hb dX3_touches_7 (by decide) (fun c1 => ?_) (fun c1 => ?_)
  · have h := it_x h c1
    exact pX3_touches_20 X   H locs ls h hH (lv_sub hl [0, 1, 2] rfl)
  · have h := ie_x h c1
    refine lv_aload_n hx hb dX3_touches_10 rfl (lv_at hl 0 rfl) ?_
    refine f_get X hH 0 rfl rfl 3 (by decide) inX3 fX3_22 rfl dX3_touches_11 ?_
    refine lv_iload_n hx hb dX3_touches_14 rfl (lv_at hl 1 rfl) ?_
    obtain ⟨j2, ej2, hinj2, h⟩ := ga_x h
    refine a_il X hH 2 rfl hinj2 ej2 dX3_touches_15 ?_
    refine lv_iload_n hx hb dX3_touches_16 rfl (lv_at hl 2 rfl) ?_
    refine lv_icmp_ne (tgt := 24) hx hb dX3_touches_17 (by decide) (fun c2 => ?_) (fun c2 => ?_)
    · have h := ie_x h c2
      refine lv_iconst (v := (0 : Int32)) hx hb dX3_touches_24 (by decide) ?_
      cases h
      exact e_z X hH (by decide) dX3_touches_25
    · have h := it_x h c2
      exact pX3_touches_20 X   H locs ls h hH (lv_sub hl [0, 1, 2] rfl)

def fX3_otherEnd (xs : SX3) (pa : Int32) (pb : Int32) : Option Int32 :=
  ga 11 pa fun j1 =>
  (if ((n_first xs) j1) = pb then
  ga 11 pa fun j3 =>
  some ((n_second xs) j3)
  else
  ga 11 pa fun j2 =>
  some ((n_first xs) j2))
set_option maxHeartbeats 4000000 in
set_option maxRecDepth 100000 in
theorem uX3_otherEnd {l : Launch} {g : GG} {a : Nat → Nat} {i : Nat} {xs : SX3} {pa : Int32} {pb : Int32} {o : Int32} (h : fX3_otherEnd xs pa pb = some o) : mC l g yX3_otherEnd cX3_otherEnd 3 (some .int) (rM 0 0) [.ref (a i), .int pa, .int pb] (wX3 g a i xs) (wX3 g a i xs) (some (.int o)) := by
  refine mC.ofW (by decide) (fun p e s m below meth c X hH ls _ hl => ?_) (Nat.le_of_ble_eq_true rfl)
  have hx := X.1
  have hb := X.2.1
  have hl : lv_has ls 3 [(0, .ref (a i)), (1, .int pa), (2, .int pb)] := hl
  unfold fX3_otherEnd at h
  suffices HH : ∀ (H : Heap) (locs : List Loc), mH g s (wX3 g a i xs) (wX3 g a i xs) H locs → W p l e (rM 0 0) s m _ below meth c H locs 0 0 (mZ g below _ s (wX3 g a i xs) (wX3 g a i xs) (some (.int o))) (F0 m 0 ls []) from HH _ _ hH
  clear hH
  intro H locs hH
  refine lv_aload_n hx hb dX3_otherEnd_0 rfl (lv_at hl 0 rfl) ?_
  refine f_get X hH 0 rfl rfl 2 (by decide) inX3 fX3_18 rfl dX3_otherEnd_1 ?_
  refine lv_iload_n hx hb dX3_otherEnd_4 rfl (lv_at hl 1 rfl) ?_
  obtain ⟨j1, ej1, hinj1, h⟩ := ga_x h
  refine a_il X hH 1 rfl hinj1 ej1 dX3_otherEnd_5 ?_
  refine lv_iload_n hx hb dX3_otherEnd_6 rfl (lv_at hl 2 rfl) ?_
  refine lv_icmp_ne (tgt := 19) hx hb dX3_otherEnd_7 (by decide) (fun c1 => ?_) (fun c1 => ?_)
  · have h := ie_x h c1
    refine lv_aload_n hx hb dX3_otherEnd_19 rfl (lv_at hl 0 rfl) ?_
    refine f_get X hH 0 rfl rfl 2 (by decide) inX3 fX3_18 rfl dX3_otherEnd_20 ?_
    refine lv_iload_n hx hb dX3_otherEnd_23 rfl (lv_at hl 1 rfl) ?_
    obtain ⟨j2, ej2, hinj2, h⟩ := ga_x h
    refine a_il X hH 1 rfl hinj2 ej2 dX3_otherEnd_24 ?_
    cases h
    exact e_i X hH dX3_otherEnd_25
  · have h := it_x h c1
    refine lv_aload_n hx hb dX3_otherEnd_10 rfl (lv_at hl 0 rfl) ?_
    refine f_get X hH 0 rfl rfl 3 (by decide) inX3 fX3_22 rfl dX3_otherEnd_11 ?_
    refine lv_iload_n hx hb dX3_otherEnd_14 rfl (lv_at hl 1 rfl) ?_
    obtain ⟨j3, ej3, hinj3, h⟩ := ga_x h
    refine a_il X hH 2 rfl hinj3 ej3 dX3_otherEnd_15 ?_
    refine lv_goto (tgt := 25) hx hb dX3_otherEnd_16 (by decide) ?_
    cases h
    exact e_i X hH dX3_otherEnd_25

def qX3_weightsAt_29 (xs : SX3) (pa : Int32) (k4 : Int32 → Int32 → Option Int32) (l2 : Int32) (l3 : Int32) : Option Int32 :=
  ltt (l3 + (1 : Int32)) fun v1 =>
  k4 l2 v1
def qX3_weightsAt_4 (xs : SX3) (pa : Int32)  : Nat → Int32 → Int32 → Option Int32
  | 0, _, _ => none
  | fu + 1, l2, l3 =>
  (if (n_ways xs) ≤ l3 then
  some l2
  else
  (fX3_touches xs l3 pa).bind fun o1 =>
  (if o1 = (0 : Int32) then
  qX3_weightsAt_29 xs pa (qX3_weightsAt_4 xs pa  fu) l2 l3
  else
  (fX3_weight xs l3).bind fun o2 =>
  ltt ((l2 + o2)) fun v2 =>
  qX3_weightsAt_29 xs pa (qX3_weightsAt_4 xs pa  fu) v2 l3))
def fX3_weightsAt (xs : SX3) (pa : Int32) : Option Int32 :=
  qX3_weightsAt_4 xs pa FU (0 : Int32) (0 : Int32)
set_option maxHeartbeats 4000000 in
set_option maxRecDepth 100000 in
theorem pX3_weightsAt_29 {p : Program} {l : Launch} {e : Env} {s : State} {m : MethodId} {args : Array Value} {below : List Frame} {meth : Method} {c : Code} {g : GG} {w0 : va_W} {a : Nat → Nat} {i : Nat} {xs : SX3} {pa : Int32} {o : Int32} (X : mX g yX3_weightsAt cX3_weightsAt 4 (some .int) p s m args meth c w0)
  {k4 : Int32 → Int32 → Option Int32} (K4 : ∀ (l2 : Int32) (l3 : Int32) (H : Heap) (locs : List Loc) (ls : Array Slot), k4 l2 l3 = some o → mH g s w0 (wX3 g a i xs) H locs → lv_has ls 4 [(0, .ref (a i)), (1, .int pa), (2, .int l2), (3, .int l3)] → W p l e (rM 2 43) s m args below meth c H locs 0 0 (mZ g below args s w0 (wX3 g a i xs) (some (.int o))) (F0 m 4 ls [])) :
  ∀ (l2 : Int32) (l3 : Int32) (H : Heap) (locs : List Loc) (ls : Array Slot), qX3_weightsAt_29 xs pa k4 l2 l3 = some o → mH g s w0 (wX3 g a i xs) H locs → lv_has ls 4 [(0, .ref (a i)), (1, .int pa), (2, .int l2), (3, .int l3)] → W p l e (rM 2 43) s m args below meth c H locs 0 0 (mZ g below args s w0 (wX3 g a i xs) (some (.int o))) (F0 m 29 ls []) := by
  have hx := X.1
  have hb := X.2.1
  intro l2 l3 H locs ls h hH hl
  unfold qX3_weightsAt_29 at h
  obtain ⟨v1, ev1, h⟩ := ltt_x h
  refine s_inc X (k := 3) (lv' := [(3, .int v1), (0, .ref (a i)), (1, .int pa), (2, .int l2)]) hl rfl (by rw [ev1]; rfl) dX3_weightsAt_29 (by decide) rfl (fun ls hl => ?_)
  refine lv_goto (tgt := 4) hx hb dX3_weightsAt_32 (by decide) ?_
  exact K4 l2 v1 H locs ls h hH (lv_sub hl [1, 2, 3, 0] rfl)
set_option maxHeartbeats 4000000 in
set_option maxRecDepth 100000 in
theorem pX3_weightsAt_4 {p : Program} {l : Launch} {e : Env} {s : State} {m : MethodId} {args : Array Value} {below : List Frame} {meth : Method} {c : Code} {g : GG} {w0 : va_W} {a : Nat → Nat} {i : Nat} {xs : SX3} {pa : Int32} {o : Int32} (X : mX g yX3_weightsAt cX3_weightsAt 4 (some .int) p s m args meth c w0) :
  ∀ (fu : Nat) (l2 : Int32) (l3 : Int32) (H : Heap) (locs : List Loc) (ls : Array Slot), qX3_weightsAt_4 xs pa fu l2 l3 = some o → mH g s w0 (wX3 g a i xs) H locs → lv_has ls 4 [(0, .ref (a i)), (1, .int pa), (2, .int l2), (3, .int l3)] → W p l e (rM 2 43) s m args below meth c H locs 0 0 (mZ g below args s w0 (wX3 g a i xs) (some (.int o))) (F0 m 4 ls []) := by
  have hx := X.1
  have hb := X.2.1
  intro fu
  induction fu with
  | zero =>
    intro l2 l3 H locs ls h
    unfold qX3_weightsAt_4 at h
    cases h
  | succ fu ih =>
    intro l2 l3 H locs ls h hH hl
    unfold qX3_weightsAt_4 at h
    refine lv_iload_n hx hb dX3_weightsAt_4 rfl (lv_at hl 3 rfl) ?_
    refine lv_aload_n hx hb dX3_weightsAt_5 rfl (lv_at hl 0 rfl) ?_
    refine f_get X hH 0 rfl rfl 1 (by decide) inX3 fX3_15 rfl dX3_weightsAt_6 ?_
    refine lv_icmp_ge (tgt := 35) hx hb dX3_weightsAt_9 (by decide) (fun c1 => ?_) (fun c1 => ?_)
    · have h := it_x h c1
      refine lv_iload_n hx hb dX3_weightsAt_35 rfl (lv_at hl 2 rfl) ?_
      cases h
      exact e_i X hH dX3_weightsAt_36
    · have h := ie_x h c1
      refine lv_aload_n hx hb dX3_weightsAt_12 rfl (lv_at hl 0 rfl) ?_
      refine lv_iload_n hx hb dX3_weightsAt_13 rfl (lv_at hl 3 rfl) ?_
      refine lv_iload_n hx hb dX3_weightsAt_14 rfl (lv_at hl 1 rfl) ?_
      obtain ⟨o1, ho1, h⟩ := bd_x h
      refine r_V X hH (ws1 := (wX3 g a i xs)) (As := [.int l3, .int pa]) (rest := []) (st1 := [.int o1]) (uX3_touches (a := a) (i := i) ho1) kX3_touches mX3_44 iX3_touches vX3_touches zX3 okX3_touches ⟨Nat.le_of_ble_eq_true rfl, Nat.le_of_ble_eq_true rfl⟩ rfl rfl (q0 := 0) rfl rfl [0, 1, 2, 3, 4, 5, 6] rfl rfl rfl (putl_self _ _ rfl) rfl hl.1 rfl (Nat.le_of_ble_eq_true rfl) ⟨Nat.le_refl 0, Nat.le_refl 0⟩ rfl dX3_weightsAt_15 (fun H locs hH => ?_)
      refine lv_if_eq (tgt := 29) hx hb dX3_weightsAt_18 (by decide) (fun c2 => ?_) (fun c2 => ?_)
      · have h := it_x h c2
        exact pX3_weightsAt_29 X ih l2 l3 H locs ls h hH (lv_sub hl [0, 1, 2, 3] rfl)
      · have h := ie_x h c2
        refine lv_iload_n hx hb dX3_weightsAt_21 rfl (lv_at hl 2 rfl) ?_
        refine lv_aload_n hx hb dX3_weightsAt_22 rfl (lv_at hl 0 rfl) ?_
        refine lv_iload_n hx hb dX3_weightsAt_23 rfl (lv_at hl 3 rfl) ?_
        obtain ⟨o2, ho2, h⟩ := bd_x h
        refine r_V X hH (ws1 := (wX3 g a i xs)) (As := [.int l3]) (rest := [.int l2]) (st1 := [.int o2, .int l2]) (uX3_weight (a := a) (i := i) ho2) kX3_weight mX3_48 iX3_weight vX3_weight zX3 okX3_weight ⟨Nat.le_of_ble_eq_true rfl, Nat.le_of_ble_eq_true rfl⟩ rfl rfl (q0 := 0) rfl rfl [0, 1, 2, 3, 4, 5, 6] rfl rfl rfl (putl_self _ _ rfl) rfl hl.1 rfl (Nat.le_of_ble_eq_true rfl) ⟨Nat.le_refl 0, Nat.le_refl 0⟩ rfl dX3_weightsAt_24 (fun H locs hH => ?_)
        refine lv_iadd hx hb dX3_weightsAt_27 ?_
        obtain ⟨v2, ev2, h⟩ := ltt_x h
        refine s_in X (lv' := [(2, .int v2), (0, .ref (a i)), (1, .int pa), (3, .int l3)]) hl ev2 dX3_weightsAt_28 rfl (by decide) rfl (fun ls hl => ?_)
        exact pX3_weightsAt_29 X ih v2 l3 H locs ls h hH (lv_sub hl [1, 2, 0, 3] rfl)
set_option maxHeartbeats 4000000 in
set_option maxRecDepth 100000 in
theorem uX3_weightsAt {l : Launch} {g : GG} {a : Nat → Nat} {i : Nat} {xs : SX3} {pa : Int32} {o : Int32} (h : fX3_weightsAt xs pa = some o) : mC l g yX3_weightsAt cX3_weightsAt 4 (some .int) (rM 2 43) [.ref (a i), .int pa] (wX3 g a i xs) (wX3 g a i xs) (some (.int o)) := by
  refine mC.ofW (by decide) (fun p e s m below meth c X hH ls _ hl => ?_) (Nat.le_of_ble_eq_true rfl)
  have hx := X.1
  have hb := X.2.1
  have hl : lv_has ls 4 [(0, .ref (a i)), (1, .int pa)] := hl
  unfold fX3_weightsAt at h
  suffices HH : ∀ (H : Heap) (locs : List Loc), mH g s (wX3 g a i xs) (wX3 g a i xs) H locs → W p l e (rM 2 43) s m _ below meth c H locs 0 0 (mZ g below _ s (wX3 g a i xs) (wX3 g a i xs) (some (.int o))) (F0 m 0 ls []) from HH _ _ hH
  clear hH
  intro H locs hH
  refine lv_iconst (v := (0 : Int32)) hx hb dX3_weightsAt_0 (by decide) ?_
  refine s_in X (lv' := [(2, .int (0 : Int32)), (0, .ref (a i)), (1, .int pa)]) hl rfl dX3_weightsAt_1 rfl (by decide) rfl (fun ls hl => ?_)
  refine lv_iconst (v := (0 : Int32)) hx hb dX3_weightsAt_2 (by decide) ?_
  refine s_in X (lv' := [(3, .int (0 : Int32)), (2, .int (0 : Int32)), (0, .ref (a i)), (1, .int pa)]) hl rfl dX3_weightsAt_3 rfl (by decide) rfl (fun ls hl => ?_)
  exact pX3_weightsAt_4 X FU (0 : Int32) (0 : Int32) H locs ls h hH (lv_sub hl [2, 3, 1, 0] rfl)

def fX8_has (pa : Int32) (pb : Int32) : Option Int32 :=
  (if ((pa >>> (pb &&& 31)) &&& (1 : Int32)) = (1 : Int32) then
  some (1 : Int32)
  else
  some (0 : Int32))
set_option maxHeartbeats 4000000 in
set_option maxRecDepth 100000 in
theorem uX8_has {l : Launch} {g : GG}  {pa : Int32} {pb : Int32} {o : Int32} (h : fX8_has pa pb = some o) : mC l g yX8_has cX8_has 2 (some .boolean) (rM 0 0) [.int pa, .int pb] [] [] (some (.int o)) := by
  refine mC.ofW (by decide) (fun p e s m below meth c X hH ls _ hl => ?_) (Nat.le_of_ble_eq_true rfl)
  have hx := X.1
  have hb := X.2.1
  have hl : lv_has ls 2 [(0, .int pa), (1, .int pb)] := hl
  unfold fX8_has at h
  suffices HH : ∀ (H : Heap) (locs : List Loc), mH g s [] [] H locs → W p l e (rM 0 0) s m _ below meth c H locs 0 0 (mZ g below _ s [] [] (some (.int o))) (F0 m 0 ls []) from HH _ _ hH
  clear hH
  intro H locs hH
  refine lv_iload_n hx hb dX8_has_0 rfl (lv_at hl 0 rfl) ?_
  refine lv_iload_n hx hb dX8_has_1 rfl (lv_at hl 1 rfl) ?_
  refine lv_ishr hx hb dX8_has_2 ?_
  refine lv_iconst (v := (1 : Int32)) hx hb dX8_has_3 (by decide) ?_
  refine lv_iand hx hb dX8_has_4 ?_
  refine lv_iconst (v := (1 : Int32)) hx hb dX8_has_5 (by decide) ?_
  refine lv_icmp_ne (tgt := 13) hx hb dX8_has_6 (by decide) (fun c1 => ?_) (fun c1 => ?_)
  · have h := ie_x h c1
    refine lv_iconst (v := (0 : Int32)) hx hb dX8_has_13 (by decide) ?_
    cases h
    exact e_z X hH (by decide) dX8_has_14
  · have h := it_x h c1
    refine lv_iconst (v := (1 : Int32)) hx hb dX8_has_9 (by decide) ?_
    refine lv_goto (tgt := 14) hx hb dX8_has_10 (by decide) ?_
    cases h
    exact e_z X hH (by decide) dX8_has_14

def qX3_reached_80 (xs : SX3) (pa : Int32) (pb : Int32) (k29 : Int32 → Int32 → Int32 → Int32 → Option Int32) (l3 : Int32) (l4 : Int32) (l5 : Int32) (l6 : Int32) : Option Int32 :=
  ltt (l6 + (1 : Int32)) fun v3 =>
  k29 l3 l4 l5 v3
def qX3_reached_29 (xs : SX3) (pa : Int32) (pb : Int32) (k8 : Int32 → Int32 → Int32 → Option Int32) : Nat → Int32 → Int32 → Int32 → Int32 → Option Int32
  | 0, _, _, _, _ => none
  | fu + 1, l3, l4, l5, l6 =>
  (if (n_ways xs) ≤ l6 then
  ltt (l5 + (1 : Int32)) fun v1 =>
  k8 l3 l4 v1
  else
  ga 11 l6 fun j1 =>
  ga 11 l6 fun j2 =>
  ltt ((((1 : Int32) <<< (((n_first xs) j1) &&& 31)) ||| ((1 : Int32) <<< (((n_second xs) j2) &&& 31)))) fun v2 =>
  (fX8_has pb l6).bind fun o1 =>
  (if o1 = (0 : Int32) then
  qX3_reached_80 xs pa pb (qX3_reached_29 xs pa pb k8 fu) l3 l4 l5 l6
  else
  (if (l3 &&& v2) = (0 : Int32) then
  qX3_reached_80 xs pa pb (qX3_reached_29 xs pa pb k8 fu) l3 l4 l5 l6
  else
  ltt ((l3 ||| v2)) fun v4 =>
  qX3_reached_80 xs pa pb (qX3_reached_29 xs pa pb k8 fu) v4 l4 l5 l6)))
def qX3_reached_8 (xs : SX3) (pa : Int32) (pb : Int32)  : Nat → Int32 → Int32 → Int32 → Option Int32
  | 0, _, _, _ => none
  | fu + 1, l3, l4, l5 =>
  (if (n_points xs) ≤ l5 then
  some l3
  else
  (if l3 = l4 then
  some l3
  else
  qX3_reached_29 xs pa pb (qX3_reached_8 xs pa pb  fu) FU l3 l3 l5 (0 : Int32)))
def fX3_reached (xs : SX3) (pa : Int32) (pb : Int32) : Option Int32 :=
  qX3_reached_8 xs pa pb FU pa (0 : Int32) (1 : Int32)
set_option maxHeartbeats 4000000 in
set_option maxRecDepth 100000 in
theorem pX3_reached_80 {p : Program} {l : Launch} {e : Env} {s : State} {m : MethodId} {args : Array Value} {below : List Frame} {meth : Method} {c : Code} {g : GG} {w0 : va_W} {a : Nat → Nat} {i : Nat} {xs : SX3} {pa : Int32} {pb : Int32} {o : Int32} (X : mX g yX3_reached cX3_reached 8 (some .int) p s m args meth c w0)
  {k29 : Int32 → Int32 → Int32 → Int32 → Option Int32} (K29 : ∀ (l3 : Int32) (l4 : Int32) (l5 : Int32) (l6 : Int32) (H : Heap) (locs : List Loc) (ls : Array Slot), k29 l3 l4 l5 l6 = some o → mH g s w0 (wX3 g a i xs) H locs → lv_has ls 8 [(0, .ref (a i)), (1, .int pa), (2, .int pb), (3, .int l3), (4, .int l4), (5, .int l5), (6, .int l6)] → W p l e (rM 1 21) s m args below meth c H locs 0 0 (mZ g below args s w0 (wX3 g a i xs) (some (.int o))) (F0 m 29 ls [])) :
  ∀ (l3 : Int32) (l4 : Int32) (l5 : Int32) (l6 : Int32) (H : Heap) (locs : List Loc) (ls : Array Slot), qX3_reached_80 xs pa pb k29 l3 l4 l5 l6 = some o → mH g s w0 (wX3 g a i xs) H locs → lv_has ls 8 [(0, .ref (a i)), (1, .int pa), (2, .int pb), (3, .int l3), (4, .int l4), (5, .int l5), (6, .int l6)] → W p l e (rM 1 21) s m args below meth c H locs 0 0 (mZ g below args s w0 (wX3 g a i xs) (some (.int o))) (F0 m 80 ls []) := by
  have hx := X.1
  have hb := X.2.1
  intro l3 l4 l5 l6 H locs ls h hH hl
  unfold qX3_reached_80 at h
  obtain ⟨v3, ev3, h⟩ := ltt_x h
  refine s_inc X (k := 6) (lv' := [(6, .int v3), (0, .ref (a i)), (1, .int pa), (2, .int pb), (3, .int l3), (4, .int l4), (5, .int l5)]) hl rfl (by rw [ev3]; rfl) dX3_reached_80 (by decide) rfl (fun ls hl => ?_)
  refine lv_goto (tgt := 29) hx hb dX3_reached_83 (by decide) ?_
  exact K29 l3 l4 l5 v3 H locs ls h hH (lv_sub hl [1, 2, 3, 4, 5, 6, 0] rfl)
set_option maxHeartbeats 4000000 in
set_option maxRecDepth 100000 in
theorem pX3_reached_29 {p : Program} {l : Launch} {e : Env} {s : State} {m : MethodId} {args : Array Value} {below : List Frame} {meth : Method} {c : Code} {g : GG} {w0 : va_W} {a : Nat → Nat} {i : Nat} {xs : SX3} {pa : Int32} {pb : Int32} {o : Int32} (X : mX g yX3_reached cX3_reached 8 (some .int) p s m args meth c w0)
  {k8 : Int32 → Int32 → Int32 → Option Int32} (K8 : ∀ (l3 : Int32) (l4 : Int32) (l5 : Int32) (H : Heap) (locs : List Loc) (ls : Array Slot), k8 l3 l4 l5 = some o → mH g s w0 (wX3 g a i xs) H locs → lv_has ls 8 [(0, .ref (a i)), (1, .int pa), (2, .int pb), (3, .int l3), (4, .int l4), (5, .int l5)] → W p l e (rM 1 21) s m args below meth c H locs 0 0 (mZ g below args s w0 (wX3 g a i xs) (some (.int o))) (F0 m 8 ls [])) :
  ∀ (fu : Nat) (l3 : Int32) (l4 : Int32) (l5 : Int32) (l6 : Int32) (H : Heap) (locs : List Loc) (ls : Array Slot), qX3_reached_29 xs pa pb k8 fu l3 l4 l5 l6 = some o → mH g s w0 (wX3 g a i xs) H locs → lv_has ls 8 [(0, .ref (a i)), (1, .int pa), (2, .int pb), (3, .int l3), (4, .int l4), (5, .int l5), (6, .int l6)] → W p l e (rM 1 21) s m args below meth c H locs 0 0 (mZ g below args s w0 (wX3 g a i xs) (some (.int o))) (F0 m 29 ls []) := by
  have hx := X.1
  have hb := X.2.1
  intro fu
  induction fu with
  | zero =>
    intro l3 l4 l5 l6 H locs ls h
    unfold qX3_reached_29 at h
    cases h
  | succ fu ih =>
    intro l3 l4 l5 l6 H locs ls h hH hl
    unfold qX3_reached_29 at h
    refine lv_iload hx hb dX3_reached_29 (lv_at hl 6 rfl) ?_
    refine lv_aload_n hx hb dX3_reached_31 rfl (lv_at hl 0 rfl) ?_
    refine f_get X hH 0 rfl rfl 1 (by decide) inX3 fX3_15 rfl dX3_reached_32 ?_
    refine lv_icmp_ge (tgt := 86) hx hb dX3_reached_35 (by decide) (fun c3 => ?_) (fun c3 => ?_)
    · have h := it_x h c3
      obtain ⟨v1, ev1, h⟩ := ltt_x h
      refine s_inc X (k := 5) (lv' := [(5, .int v1), (0, .ref (a i)), (1, .int pa), (2, .int pb), (3, .int l3), (4, .int l4), (6, .int l6)]) hl rfl (by rw [ev1]; rfl) dX3_reached_86 (by decide) rfl (fun ls hl => ?_)
      refine lv_goto (tgt := 8) hx hb dX3_reached_89 (by decide) ?_
      exact K8 l3 l4 v1 H locs ls h hH (lv_sub hl [1, 2, 3, 4, 5, 0] rfl)
    · have h := ie_x h c3
      refine lv_iconst (v := (1 : Int32)) hx hb dX3_reached_38 (by decide) ?_
      refine lv_aload_n hx hb dX3_reached_39 rfl (lv_at hl 0 rfl) ?_
      refine f_get X hH 0 rfl rfl 2 (by decide) inX3 fX3_18 rfl dX3_reached_40 ?_
      refine lv_iload hx hb dX3_reached_43 (lv_at hl 6 rfl) ?_
      obtain ⟨j1, ej1, hinj1, h⟩ := ga_x h
      refine a_il X hH 1 rfl hinj1 ej1 dX3_reached_45 ?_
      refine lv_ishl hx hb dX3_reached_46 ?_
      refine lv_iconst (v := (1 : Int32)) hx hb dX3_reached_47 (by decide) ?_
      refine lv_aload_n hx hb dX3_reached_48 rfl (lv_at hl 0 rfl) ?_
      refine f_get X hH 0 rfl rfl 3 (by decide) inX3 fX3_22 rfl dX3_reached_49 ?_
      refine lv_iload hx hb dX3_reached_52 (lv_at hl 6 rfl) ?_
      obtain ⟨j2, ej2, hinj2, h⟩ := ga_x h
      refine a_il X hH 2 rfl hinj2 ej2 dX3_reached_54 ?_
      refine lv_ishl hx hb dX3_reached_55 ?_
      refine lv_ior hx hb dX3_reached_56 ?_
      obtain ⟨v2, ev2, h⟩ := ltt_x h
      refine s_i X (lv' := [(7, .int v2), (0, .ref (a i)), (1, .int pa), (2, .int pb), (3, .int l3), (4, .int l4), (5, .int l5), (6, .int l6)]) hl ev2 dX3_reached_57 (by decide) rfl (fun ls hl => ?_)
      refine lv_iload_n hx hb dX3_reached_59 rfl (lv_at hl 3 rfl) ?_
      refine lv_iload hx hb dX3_reached_60 (lv_at hl 7 rfl) ?_
      obtain ⟨o1, ho1, h⟩ := bd_x h
      refine r_SN X hH (ws1 := (wX3 g a i xs)) (As := [.int pb, .int l6]) (rest := []) (st1 := [.int o1]) (uX8_has  ho1) kX8_has nnX3_55 sX8_has zX8 okX8_has ⟨Nat.le_of_ble_eq_true rfl, Nat.le_of_ble_eq_true rfl⟩ rfl rfl [] rfl rfl rfl (putl_self _ _ rfl) rfl hl.1 rfl (Nat.le_of_ble_eq_true rfl) ⟨Nat.le_refl 0, Nat.le_refl 0⟩ rfl dX3_reached_62 (fun H locs hH => ?_)
      refine lv_if_eq (tgt := 80) hx hb dX3_reached_65 (by decide) (fun c4 => ?_) (fun c4 => ?_)
      · have h := it_x h c4
        exact pX3_reached_80 X ih l3 l4 l5 l6 H locs ls h hH (lv_sub hl [1, 2, 3, 4, 5, 6, 7] rfl)
      · have h := ie_x h c4
        refine lv_iload_n hx hb dX3_reached_68 rfl (lv_at hl 4 rfl) ?_
        refine lv_iload hx hb dX3_reached_69 (lv_at hl 0 rfl) ?_
        refine lv_iand hx hb dX3_reached_71 ?_
        refine lv_if_eq (tgt := 80) hx hb dX3_reached_72 (by decide) (fun c5 => ?_) (fun c5 => ?_)
        · have h := it_x h c5
          exact pX3_reached_80 X ih l3 l4 l5 l6 H locs ls h hH (lv_sub hl [1, 2, 3, 4, 5, 6, 7] rfl)
        · have h := ie_x h c5
          refine lv_iload_n hx hb dX3_reached_75 rfl (lv_at hl 4 rfl) ?_
          refine lv_iload hx hb dX3_reached_76 (lv_at hl 0 rfl) ?_
          refine lv_ior hx hb dX3_reached_78 ?_
          obtain ⟨v4, ev4, h⟩ := ltt_x h
          refine s_in X (lv' := [(3, .int v4), (7, .int v2), (0, .ref (a i)), (1, .int pa), (2, .int pb), (4, .int l4), (5, .int l5), (6, .int l6)]) hl ev4 dX3_reached_79 rfl (by decide) rfl (fun ls hl => ?_)
          exact pX3_reached_80 X ih v4 l4 l5 l6 H locs ls h hH (lv_sub hl [2, 3, 4, 0, 5, 6, 7] rfl)
set_option maxHeartbeats 4000000 in
set_option maxRecDepth 100000 in
theorem pX3_reached_8 {p : Program} {l : Launch} {e : Env} {s : State} {m : MethodId} {args : Array Value} {below : List Frame} {meth : Method} {c : Code} {g : GG} {w0 : va_W} {a : Nat → Nat} {i : Nat} {xs : SX3} {pa : Int32} {pb : Int32} {o : Int32} (X : mX g yX3_reached cX3_reached 8 (some .int) p s m args meth c w0) :
  ∀ (fu : Nat) (l3 : Int32) (l4 : Int32) (l5 : Int32) (H : Heap) (locs : List Loc) (ls : Array Slot), qX3_reached_8 xs pa pb fu l3 l4 l5 = some o → mH g s w0 (wX3 g a i xs) H locs → lv_has ls 8 [(0, .ref (a i)), (1, .int pa), (2, .int pb), (3, .int l3), (4, .int l4), (5, .int l5)] → W p l e (rM 1 21) s m args below meth c H locs 0 0 (mZ g below args s w0 (wX3 g a i xs) (some (.int o))) (F0 m 8 ls []) := by
  have hx := X.1
  have hb := X.2.1
  intro fu
  induction fu with
  | zero =>
    intro l3 l4 l5 H locs ls h
    unfold qX3_reached_8 at h
    cases h
  | succ fu ih =>
    intro l3 l4 l5 H locs ls h hH hl
    unfold qX3_reached_8 at h
    refine lv_iload hx hb dX3_reached_8 (lv_at hl 5 rfl) ?_
    refine lv_aload_n hx hb dX3_reached_10 rfl (lv_at hl 0 rfl) ?_
    refine f_get X hH 0 rfl rfl 0 (by decide) inX3 fX3_9 rfl dX3_reached_11 ?_
    refine lv_icmp_ge (tgt := 92) hx hb dX3_reached_14 (by decide) (fun c1 => ?_) (fun c1 => ?_)
    · have h := it_x h c1
      refine lv_iload_n hx hb dX3_reached_92 rfl (lv_at hl 3 rfl) ?_
      cases h
      exact e_i X hH dX3_reached_93
    · have h := ie_x h c1
      refine lv_iload_n hx hb dX3_reached_17 rfl (lv_at hl 3 rfl) ?_
      refine lv_iload hx hb dX3_reached_18 (lv_at hl 4 rfl) ?_
      refine lv_icmp_eq (tgt := 92) hx hb dX3_reached_20 (by decide) (fun c2 => ?_) (fun c2 => ?_)
      · have h := it_x h c2
        refine lv_iload_n hx hb dX3_reached_92 rfl (lv_at hl 3 rfl) ?_
        cases h
        exact e_i X hH dX3_reached_93
      · have h := ie_x h c2
        refine lv_iload_n hx hb dX3_reached_23 rfl (lv_at hl 3 rfl) ?_
        refine s_i X (lv' := [(4, .int l3), (0, .ref (a i)), (1, .int pa), (2, .int pb), (3, .int l3), (5, .int l5)]) hl rfl dX3_reached_24 (by decide) rfl (fun ls hl => ?_)
        refine lv_iconst (v := (0 : Int32)) hx hb dX3_reached_26 (by decide) ?_
        refine s_i X (lv' := [(6, .int (0 : Int32)), (4, .int l3), (0, .ref (a i)), (1, .int pa), (2, .int pb), (3, .int l3), (5, .int l5)]) hl rfl dX3_reached_27 (by decide) rfl (fun ls hl => ?_)
        exact pX3_reached_29 X ih FU l3 l3 l5 (0 : Int32) H locs ls h hH (lv_sub hl [2, 3, 4, 5, 1, 6, 0] rfl)
set_option maxHeartbeats 4000000 in
set_option maxRecDepth 100000 in
theorem uX3_reached {l : Launch} {g : GG} {a : Nat → Nat} {i : Nat} {xs : SX3} {pa : Int32} {pb : Int32} {o : Int32} (h : fX3_reached xs pa pb = some o) : mC l g yX3_reached cX3_reached 8 (some .int) (rM 1 21) [.ref (a i), .int pa, .int pb] (wX3 g a i xs) (wX3 g a i xs) (some (.int o)) := by
  refine mC.ofW (by decide) (fun p e s m below meth c X hH ls _ hl => ?_) (Nat.le_of_ble_eq_true rfl)
  have hx := X.1
  have hb := X.2.1
  have hl : lv_has ls 8 [(0, .ref (a i)), (1, .int pa), (2, .int pb)] := hl
  unfold fX3_reached at h
  suffices HH : ∀ (H : Heap) (locs : List Loc), mH g s (wX3 g a i xs) (wX3 g a i xs) H locs → W p l e (rM 1 21) s m _ below meth c H locs 0 0 (mZ g below _ s (wX3 g a i xs) (wX3 g a i xs) (some (.int o))) (F0 m 0 ls []) from HH _ _ hH
  clear hH
  intro H locs hH
  refine lv_iload_n hx hb dX3_reached_0 rfl (lv_at hl 1 rfl) ?_
  refine s_in X (lv' := [(3, .int pa), (0, .ref (a i)), (1, .int pa), (2, .int pb)]) hl rfl dX3_reached_1 rfl (by decide) rfl (fun ls hl => ?_)
  refine lv_iconst (v := (0 : Int32)) hx hb dX3_reached_2 (by decide) ?_
  refine s_i X (lv' := [(4, .int (0 : Int32)), (3, .int pa), (0, .ref (a i)), (1, .int pa), (2, .int pb)]) hl rfl dX3_reached_3 (by decide) rfl (fun ls hl => ?_)
  refine lv_iconst (v := (1 : Int32)) hx hb dX3_reached_5 (by decide) ?_
  refine s_i X (lv' := [(5, .int (1 : Int32)), (4, .int (0 : Int32)), (3, .int pa), (0, .ref (a i)), (1, .int pa), (2, .int pb)]) hl rfl dX3_reached_6 (by decide) rfl (fun ls hl => ?_)
  exact pX3_reached_8 X FU pa (0 : Int32) (1 : Int32) H locs ls h hH (lv_sub hl [3, 4, 5, 2, 1, 0] rfl)

def fX3_copyWay_o (xs : SX3) (xt : SX3) (pa : Int32) (pb : Int32) : Option SX3 :=
  ga 11 pa fun j1 =>
  ga 11 pb fun j2 =>
  ltt ((n_first_s xs (upd (n_first xs) j2 ((n_first xt) j1)))) fun xs1 =>
  ga 11 pa fun j3 =>
  ga 11 pb fun j4 =>
  ltt ((n_second_s xs1 (upd (n_second xs1) j4 ((n_second xt) j3)))) fun xs2 =>
  ga 11 pa fun j5 =>
  ga 11 pb fun j6 =>
  ltt ((n_kinds_s xs2 (upd (n_kinds xs2) j6 ((n_kinds xt) j5)))) fun xs3 =>
  ga 11 pa fun j7 =>
  ga 11 pb fun j8 =>
  ltt ((n_figures_s xs3 (upd (n_figures xs3) j8 ((n_figures xt) j7)))) fun xs4 =>
  ga 11 pa fun j9 =>
  ga 11 pb fun j10 =>
  ltt ((n_loads_s xs4 (upd (n_loads xs4) j10 ((n_loads xt) j9)))) fun xs5 =>
  ga 11 pa fun j11 =>
  ga 11 pb fun j12 =>
  ltt ((n_lengths_s xs5 (upd (n_lengths xs5) j12 ((n_lengths xt) j11)))) fun xs6 =>
  some xs6
set_option maxHeartbeats 4000000 in
set_option maxRecDepth 100000 in
theorem uX3_copyWay_o {l : Launch} {g : GG} {a : Nat → Nat} {i : Nat} {b : Nat → Nat} {j : Nat} {xs : SX3} {xt : SX3} {pa : Int32} {pb : Int32} {o : SX3} (h : fX3_copyWay_o xs xt pa pb = some o) : mC l g yX3_copyWay cX3_copyWay 4 none (rM 0 0) [.ref (a i), .ref (b j), .int pa, .int pb] ((wX3 g a i xs) ++ (wX3 g b j xt)) ((wX3 g a i o) ++ (wX3 g b j xt)) none := by
  refine mC.ofW (by decide) (fun p e s m below meth c X hH ls _ hl => ?_) (Nat.le_of_ble_eq_true rfl)
  have hx := X.1
  have hb := X.2.1
  have hl : lv_has ls 4 [(0, .ref (a i)), (1, .ref (b j)), (2, .int pa), (3, .int pb)] := hl
  unfold fX3_copyWay_o at h
  suffices HH : ∀ (H : Heap) (locs : List Loc), mH g s ((wX3 g a i xs) ++ (wX3 g b j xt)) ((wX3 g a i xs) ++ (wX3 g b j xt)) H locs → W p l e (rM 0 0) s m _ below meth c H locs 0 0 (mZ g below _ s ((wX3 g a i xs) ++ (wX3 g b j xt)) ((wX3 g a i o) ++ (wX3 g b j xt)) none) (F0 m 0 ls []) from HH _ _ hH
  clear hH
  intro H locs hH
  refine lv_aload_n hx hb dX3_copyWay_0 rfl (lv_at hl 0 rfl) ?_
  refine f_get X hH 0 rfl rfl 2 (by decide) inX3 fX3_18 rfl dX3_copyWay_1 ?_
  refine lv_iload_n hx hb dX3_copyWay_4 rfl (lv_at hl 3 rfl) ?_
  refine lv_aload_n hx hb dX3_copyWay_5 rfl (lv_at hl 1 rfl) ?_
  refine f_get X hH 7 rfl rfl 2 (by decide) inX3 fX3_18 rfl dX3_copyWay_6 ?_
  refine lv_iload_n hx hb dX3_copyWay_9 rfl (lv_at hl 2 rfl) ?_
  obtain ⟨j1, ej1, hinj1, h⟩ := ga_x h
  refine a_il X hH 8 rfl hinj1 ej1 dX3_copyWay_10 ?_
  obtain ⟨j2, ej2, hinj2, h⟩ := ga_x h
  obtain ⟨xs1, exs1, h⟩ := ltt_x h
  refine a_is X hH (ws1 := ((wX3 g a i xs1) ++ (wX3 g b j xt))) 1 rfl hinj2 ej2 (by rw [exs1]; rfl) dX3_copyWay_11 (fun H locs hH => ?_)
  refine lv_aload_n hx hb dX3_copyWay_12 rfl (lv_at hl 0 rfl) ?_
  refine f_get X hH 0 rfl rfl 3 (by decide) inX3 fX3_22 rfl dX3_copyWay_13 ?_
  refine lv_iload_n hx hb dX3_copyWay_16 rfl (lv_at hl 3 rfl) ?_
  refine lv_aload_n hx hb dX3_copyWay_17 rfl (lv_at hl 1 rfl) ?_
  refine f_get X hH 7 rfl rfl 3 (by decide) inX3 fX3_22 rfl dX3_copyWay_18 ?_
  refine lv_iload_n hx hb dX3_copyWay_21 rfl (lv_at hl 2 rfl) ?_
  obtain ⟨j3, ej3, hinj3, h⟩ := ga_x h
  refine a_il X hH 9 rfl hinj3 ej3 dX3_copyWay_22 ?_
  obtain ⟨j4, ej4, hinj4, h⟩ := ga_x h
  obtain ⟨xs2, exs2, h⟩ := ltt_x h
  refine a_is X hH (ws1 := ((wX3 g a i xs2) ++ (wX3 g b j xt))) 2 rfl hinj4 ej4 (by rw [exs2]; rfl) dX3_copyWay_23 (fun H locs hH => ?_)
  refine lv_aload_n hx hb dX3_copyWay_24 rfl (lv_at hl 0 rfl) ?_
  refine f_get X hH 0 rfl rfl 4 (by decide) inX3 fX3_25 rfl dX3_copyWay_25 ?_
  refine lv_iload_n hx hb dX3_copyWay_28 rfl (lv_at hl 3 rfl) ?_
  refine lv_aload_n hx hb dX3_copyWay_29 rfl (lv_at hl 1 rfl) ?_
  refine f_get X hH 7 rfl rfl 4 (by decide) inX3 fX3_25 rfl dX3_copyWay_30 ?_
  refine lv_iload_n hx hb dX3_copyWay_33 rfl (lv_at hl 2 rfl) ?_
  obtain ⟨j5, ej5, hinj5, h⟩ := ga_x h
  refine a_il X hH 10 rfl hinj5 ej5 dX3_copyWay_34 ?_
  obtain ⟨j6, ej6, hinj6, h⟩ := ga_x h
  obtain ⟨xs3, exs3, h⟩ := ltt_x h
  refine a_is X hH (ws1 := ((wX3 g a i xs3) ++ (wX3 g b j xt))) 3 rfl hinj6 ej6 (by rw [exs3]; rfl) dX3_copyWay_35 (fun H locs hH => ?_)
  refine lv_aload_n hx hb dX3_copyWay_36 rfl (lv_at hl 0 rfl) ?_
  refine f_get X hH 0 rfl rfl 5 (by decide) inX3 fX3_28 rfl dX3_copyWay_37 ?_
  refine lv_iload_n hx hb dX3_copyWay_40 rfl (lv_at hl 3 rfl) ?_
  refine lv_aload_n hx hb dX3_copyWay_41 rfl (lv_at hl 1 rfl) ?_
  refine f_get X hH 7 rfl rfl 5 (by decide) inX3 fX3_28 rfl dX3_copyWay_42 ?_
  refine lv_iload_n hx hb dX3_copyWay_45 rfl (lv_at hl 2 rfl) ?_
  obtain ⟨j7, ej7, hinj7, h⟩ := ga_x h
  refine a_il X hH 11 rfl hinj7 ej7 dX3_copyWay_46 ?_
  obtain ⟨j8, ej8, hinj8, h⟩ := ga_x h
  obtain ⟨xs4, exs4, h⟩ := ltt_x h
  refine a_is X hH (ws1 := ((wX3 g a i xs4) ++ (wX3 g b j xt))) 4 rfl hinj8 ej8 (by rw [exs4]; rfl) dX3_copyWay_47 (fun H locs hH => ?_)
  refine lv_aload_n hx hb dX3_copyWay_48 rfl (lv_at hl 0 rfl) ?_
  refine f_get X hH 0 rfl rfl 6 (by decide) inX3 fX3_31 rfl dX3_copyWay_49 ?_
  refine lv_iload_n hx hb dX3_copyWay_52 rfl (lv_at hl 3 rfl) ?_
  refine lv_aload_n hx hb dX3_copyWay_53 rfl (lv_at hl 1 rfl) ?_
  refine f_get X hH 7 rfl rfl 6 (by decide) inX3 fX3_31 rfl dX3_copyWay_54 ?_
  refine lv_iload_n hx hb dX3_copyWay_57 rfl (lv_at hl 2 rfl) ?_
  obtain ⟨j9, ej9, hinj9, h⟩ := ga_x h
  refine a_il X hH 12 rfl hinj9 ej9 dX3_copyWay_58 ?_
  obtain ⟨j10, ej10, hinj10, h⟩ := ga_x h
  obtain ⟨xs5, exs5, h⟩ := ltt_x h
  refine a_is X hH (ws1 := ((wX3 g a i xs5) ++ (wX3 g b j xt))) 5 rfl hinj10 ej10 (by rw [exs5]; rfl) dX3_copyWay_59 (fun H locs hH => ?_)
  refine lv_aload_n hx hb dX3_copyWay_60 rfl (lv_at hl 0 rfl) ?_
  refine f_get X hH 0 rfl rfl 7 (by decide) inX3 fX3_34 rfl dX3_copyWay_61 ?_
  refine lv_iload_n hx hb dX3_copyWay_64 rfl (lv_at hl 3 rfl) ?_
  refine lv_aload_n hx hb dX3_copyWay_65 rfl (lv_at hl 1 rfl) ?_
  refine f_get X hH 7 rfl rfl 7 (by decide) inX3 fX3_34 rfl dX3_copyWay_66 ?_
  refine lv_iload_n hx hb dX3_copyWay_69 rfl (lv_at hl 2 rfl) ?_
  obtain ⟨j11, ej11, hinj11, h⟩ := ga_x h
  refine a_il X hH 13 rfl hinj11 ej11 dX3_copyWay_70 ?_
  obtain ⟨j12, ej12, hinj12, h⟩ := ga_x h
  obtain ⟨xs6, exs6, h⟩ := ltt_x h
  refine a_is X hH (ws1 := ((wX3 g a i xs6) ++ (wX3 g b j xt))) 6 rfl hinj12 ej12 (by rw [exs6]; rfl) dX3_copyWay_71 (fun H locs hH => ?_)
  cases h
  exact e_v X hH dX3_copyWay_72

def fX3_lay (xs : SX3) (pa : Int32) (pb : Int32) (pc_ : Int32) (pd : Int32) (pe : Int32) : Option SX3 :=
  ga 11 pa fun j1 =>
  ltt ((n_first_s xs (upd (n_first xs) j1 pb))) fun xs1 =>
  ga 11 pa fun j2 =>
  ltt ((n_second_s xs1 (upd (n_second xs1) j2 pc_))) fun xs2 =>
  ga 11 pa fun j3 =>
  ltt ((n_kinds_s xs2 (upd (n_kinds xs2) j3 (0 : Int32)))) fun xs3 =>
  ga 11 pa fun j4 =>
  ltt ((n_figures_s xs3 (upd (n_figures xs3) j4 (0 : Int32)))) fun xs4 =>
  ga 11 pa fun j5 =>
  ltt ((n_loads_s xs4 (upd (n_loads xs4) j5 pd))) fun xs5 =>
  ga 11 pa fun j6 =>
  ltt ((n_lengths_s xs5 (upd (n_lengths xs5) j6 pe))) fun xs6 =>
  some xs6
set_option maxHeartbeats 4000000 in
set_option maxRecDepth 100000 in
theorem uX3_lay {l : Launch} {g : GG} {a : Nat → Nat} {i : Nat} {xs : SX3} {pa : Int32} {pb : Int32} {pc_ : Int32} {pd : Int32} {pe : Int32} {o : SX3} (h : fX3_lay xs pa pb pc_ pd pe = some o) : mC l g yX3_lay cX3_lay 6 none (rM 0 0) [.ref (a i), .int pa, .int pb, .int pc_, .int pd, .int pe] (wX3 g a i xs) (wX3 g a i o) none := by
  refine mC.ofW (by decide) (fun p e s m below meth c X hH ls _ hl => ?_) (Nat.le_of_ble_eq_true rfl)
  have hx := X.1
  have hb := X.2.1
  have hl : lv_has ls 6 [(0, .ref (a i)), (1, .int pa), (2, .int pb), (3, .int pc_), (4, .int pd), (5, .int pe)] := hl
  unfold fX3_lay at h
  suffices HH : ∀ (H : Heap) (locs : List Loc), mH g s (wX3 g a i xs) (wX3 g a i xs) H locs → W p l e (rM 0 0) s m _ below meth c H locs 0 0 (mZ g below _ s (wX3 g a i xs) (wX3 g a i o) none) (F0 m 0 ls []) from HH _ _ hH
  clear hH
  intro H locs hH
  refine lv_aload_n hx hb dX3_lay_0 rfl (lv_at hl 0 rfl) ?_
  refine f_get X hH 0 rfl rfl 2 (by decide) inX3 fX3_18 rfl dX3_lay_1 ?_
  refine lv_iload_n hx hb dX3_lay_4 rfl (lv_at hl 1 rfl) ?_
  refine lv_iload_n hx hb dX3_lay_5 rfl (lv_at hl 2 rfl) ?_
  obtain ⟨j1, ej1, hinj1, h⟩ := ga_x h
  obtain ⟨xs1, exs1, h⟩ := ltt_x h
  refine a_is X hH (ws1 := (wX3 g a i xs1)) 1 rfl hinj1 ej1 (by rw [exs1]; rfl) dX3_lay_6 (fun H locs hH => ?_)
  refine lv_aload_n hx hb dX3_lay_7 rfl (lv_at hl 0 rfl) ?_
  refine f_get X hH 0 rfl rfl 3 (by decide) inX3 fX3_22 rfl dX3_lay_8 ?_
  refine lv_iload_n hx hb dX3_lay_11 rfl (lv_at hl 1 rfl) ?_
  refine lv_iload_n hx hb dX3_lay_12 rfl (lv_at hl 3 rfl) ?_
  obtain ⟨j2, ej2, hinj2, h⟩ := ga_x h
  obtain ⟨xs2, exs2, h⟩ := ltt_x h
  refine a_is X hH (ws1 := (wX3 g a i xs2)) 2 rfl hinj2 ej2 (by rw [exs2]; rfl) dX3_lay_13 (fun H locs hH => ?_)
  refine lv_aload_n hx hb dX3_lay_14 rfl (lv_at hl 0 rfl) ?_
  refine f_get X hH 0 rfl rfl 4 (by decide) inX3 fX3_25 rfl dX3_lay_15 ?_
  refine lv_iload_n hx hb dX3_lay_18 rfl (lv_at hl 1 rfl) ?_
  refine lv_iconst (v := (0 : Int32)) hx hb dX3_lay_19 (by decide) ?_
  obtain ⟨j3, ej3, hinj3, h⟩ := ga_x h
  obtain ⟨xs3, exs3, h⟩ := ltt_x h
  refine a_is X hH (ws1 := (wX3 g a i xs3)) 3 rfl hinj3 ej3 (by rw [exs3]; rfl) dX3_lay_20 (fun H locs hH => ?_)
  refine lv_aload_n hx hb dX3_lay_21 rfl (lv_at hl 0 rfl) ?_
  refine f_get X hH 0 rfl rfl 5 (by decide) inX3 fX3_28 rfl dX3_lay_22 ?_
  refine lv_iload_n hx hb dX3_lay_25 rfl (lv_at hl 1 rfl) ?_
  refine lv_iconst (v := (0 : Int32)) hx hb dX3_lay_26 (by decide) ?_
  obtain ⟨j4, ej4, hinj4, h⟩ := ga_x h
  obtain ⟨xs4, exs4, h⟩ := ltt_x h
  refine a_is X hH (ws1 := (wX3 g a i xs4)) 4 rfl hinj4 ej4 (by rw [exs4]; rfl) dX3_lay_27 (fun H locs hH => ?_)
  refine lv_aload_n hx hb dX3_lay_28 rfl (lv_at hl 0 rfl) ?_
  refine f_get X hH 0 rfl rfl 6 (by decide) inX3 fX3_31 rfl dX3_lay_29 ?_
  refine lv_iload_n hx hb dX3_lay_32 rfl (lv_at hl 1 rfl) ?_
  refine lv_iload hx hb dX3_lay_33 (lv_at hl 4 rfl) ?_
  obtain ⟨j5, ej5, hinj5, h⟩ := ga_x h
  obtain ⟨xs5, exs5, h⟩ := ltt_x h
  refine a_is X hH (ws1 := (wX3 g a i xs5)) 5 rfl hinj5 ej5 (by rw [exs5]; rfl) dX3_lay_35 (fun H locs hH => ?_)
  refine lv_aload_n hx hb dX3_lay_36 rfl (lv_at hl 0 rfl) ?_
  refine f_get X hH 0 rfl rfl 7 (by decide) inX3 fX3_34 rfl dX3_lay_37 ?_
  refine lv_iload_n hx hb dX3_lay_40 rfl (lv_at hl 1 rfl) ?_
  refine lv_iload hx hb dX3_lay_41 (lv_at hl 5 rfl) ?_
  obtain ⟨j6, ej6, hinj6, h⟩ := ga_x h
  obtain ⟨xs6, exs6, h⟩ := ltt_x h
  refine a_is X hH (ws1 := (wX3 g a i xs6)) 6 rfl hinj6 ej6 (by rw [exs6]; rfl) dX3_lay_43 (fun H locs hH => ?_)
  cases h
  exact e_v X hH dX3_lay_44

def qX3_more_19   (xs : SX3) : Option (Int32 × SX3) :=
  some (((n_ways xs) - (1 : Int32)), xs)
def fX3_more (xs : SX3) : Option (Int32 × SX3) :=
  (if (10 : Int32) < (n_ways xs) then
  qX3_more_19  xs
  else
  ltt ((n_ways_s xs ((n_ways xs) + (1 : Int32)))) fun xs1 =>
  qX3_more_19  xs1)
set_option maxHeartbeats 4000000 in
set_option maxRecDepth 100000 in
theorem pX3_more_19 {p : Program} {l : Launch} {e : Env} {s : State} {m : MethodId} {args : Array Value} {below : List Frame} {meth : Method} {c : Code} {g : GG} {w0 : va_W} {a : Nat → Nat} {i : Nat}  {o : (Int32 × SX3)} (X : mX g yX3_more cX3_more 1 (some .int) p s m args meth c w0) :
  ∀ (xs : SX3) (H : Heap) (locs : List Loc) (ls : Array Slot), qX3_more_19 xs = some o → mH g s w0 (wX3 g a i xs) H locs → lv_has ls 1 [(0, .ref (a i))] → W p l e (rM 0 0) s m args below meth c H locs 0 0 (mZ g below args s w0 (wX3 g a i o.2) (some (.int o.1))) (F0 m 19 ls []) := by
  have hx := X.1
  have hb := X.2.1
  intro xs H locs ls h hH hl
  unfold qX3_more_19 at h
  refine lv_aload_n hx hb dX3_more_19 rfl (lv_at hl 0 rfl) ?_
  refine f_get X hH 0 rfl rfl 1 (by decide) inX3 fX3_15 rfl dX3_more_20 ?_
  refine lv_iconst (v := (1 : Int32)) hx hb dX3_more_23 (by decide) ?_
  refine lv_isub hx hb dX3_more_24 ?_
  cases h
  exact e_i X hH dX3_more_25
set_option maxHeartbeats 4000000 in
set_option maxRecDepth 100000 in
theorem uX3_more {l : Launch} {g : GG} {a : Nat → Nat} {i : Nat} {xs : SX3} {o : (Int32 × SX3)} (h : fX3_more xs = some o) : mC l g yX3_more cX3_more 1 (some .int) (rM 0 0) [.ref (a i)] (wX3 g a i xs) (wX3 g a i o.2) (some (.int o.1)) := by
  refine mC.ofW (by decide) (fun p e s m below meth c X hH ls _ hl => ?_) (Nat.le_of_ble_eq_true rfl)
  have hx := X.1
  have hb := X.2.1
  have hl : lv_has ls 1 [(0, .ref (a i))] := hl
  unfold fX3_more at h
  suffices HH : ∀ (H : Heap) (locs : List Loc), mH g s (wX3 g a i xs) (wX3 g a i xs) H locs → W p l e (rM 0 0) s m _ below meth c H locs 0 0 (mZ g below _ s (wX3 g a i xs) (wX3 g a i o.2) (some (.int o.1))) (F0 m 0 ls []) from HH _ _ hH
  clear hH
  intro H locs hH
  refine lv_aload_n hx hb dX3_more_0 rfl (lv_at hl 0 rfl) ?_
  refine f_get X hH 0 rfl rfl 1 (by decide) inX3 fX3_15 rfl dX3_more_1 ?_
  refine lv_bipush (v := (10 : Int32)) hx hb dX3_more_4 (by decide) ?_
  refine lv_icmp_gt (tgt := 19) hx hb dX3_more_6 (by decide) (fun c1 => ?_) (fun c1 => ?_)
  · have h := it_x h c1
    exact pX3_more_19 X  xs H locs ls h hH (lv_sub hl [0] rfl)
  · have h := ie_x h c1
    refine lv_aload_n hx hb dX3_more_9 rfl (lv_at hl 0 rfl) ?_
    refine lv_dup hx hb dX3_more_10 rfl ?_
    refine f_get X hH 0 rfl rfl 1 (by decide) inX3 fX3_15 rfl dX3_more_11 ?_
    refine lv_iconst (v := (1 : Int32)) hx hb dX3_more_14 (by decide) ?_
    refine lv_iadd hx hb dX3_more_15 ?_
    obtain ⟨xs1, exs1, h⟩ := ltt_x h
    refine f_put X hH (ws1 := (wX3 g a i xs1)) 0 rfl rfl 1 (by decide) inX3 tyX3 tyX3_ok nmX3 fX3_15 rfl rfl rfl (Nat.le_of_ble_eq_true rfl) (by rw [exs1]; rfl) dX3_more_16 (fun H locs hH => ?_)
    exact pX3_more_19 X  xs1 H locs ls h hH (lv_sub hl [0] rfl)

def fX3_join (xs : SX3) (pa : Int32) (pb : Int32) (pc_ : Int32) (pd : Int32) : Option (Int32 × SX3) :=
  (fX3_isPoint xs pa).bind fun o1 =>
  (if o1 = (0 : Int32) then
  some ((-1 : Int32), xs)
  else
  (fX3_isPoint xs pb).bind fun o2 =>
  (if o2 = (0 : Int32) then
  some ((-1 : Int32), xs)
  else
  (if pa = pb then
  some ((-1 : Int32), xs)
  else
  (if pc_ < (1 : Int32) then
  some ((-4 : Int32), xs)
  else
  (if (1 : Int32) ≤ pd then
  (if (9 : Int32) < pc_ then
  some ((-6 : Int32), xs)
  else
  (if (9 : Int32) < pd then
  some ((-6 : Int32), xs)
  else
  (if (n_ways xs) < (10 : Int32) then
  (fX3_more xs).bind fun o3 =>
  (fX3_lay o3.2 o3.1 pa pb pc_ pd).bind fun o4 =>
  some (o3.1, o4)
  else
  some ((-6 : Int32), xs))))
  else
  some ((-4 : Int32), xs))))))
set_option maxHeartbeats 4000000 in
set_option maxRecDepth 100000 in
theorem uX3_join {l : Launch} {g : GG} {a : Nat → Nat} {i : Nat} {xs : SX3} {pa : Int32} {pb : Int32} {pc_ : Int32} {pd : Int32} {o : (Int32 × SX3)} (h : fX3_join xs pa pb pc_ pd = some o) : mC l g yX3_join cX3_join 6 (some .int) (rM 1 25) [.ref (a i), .int pa, .int pb, .int pc_, .int pd] (wX3 g a i xs) (wX3 g a i o.2) (some (.int o.1)) := by
  refine mC.ofW (by decide) (fun p e s m below meth c X hH ls _ hl => ?_) (Nat.le_of_ble_eq_true rfl)
  have hx := X.1
  have hb := X.2.1
  have hl : lv_has ls 6 [(0, .ref (a i)), (1, .int pa), (2, .int pb), (3, .int pc_), (4, .int pd)] := hl
  unfold fX3_join at h
  suffices HH : ∀ (H : Heap) (locs : List Loc), mH g s (wX3 g a i xs) (wX3 g a i xs) H locs → W p l e (rM 1 25) s m _ below meth c H locs 0 0 (mZ g below _ s (wX3 g a i xs) (wX3 g a i o.2) (some (.int o.1))) (F0 m 0 ls []) from HH _ _ hH
  clear hH
  intro H locs hH
  refine lv_aload_n hx hb dX3_join_0 rfl (lv_at hl 0 rfl) ?_
  refine lv_iload_n hx hb dX3_join_1 rfl (lv_at hl 1 rfl) ?_
  obtain ⟨o1, ho1, h⟩ := bd_x h
  refine r_V X hH (ws1 := (wX3 g a i xs)) (As := [.int pa]) (rest := []) (st1 := [.int o1]) (uX3_isPoint (a := a) (i := i) ho1) kX3_isPoint mX3_73 iX3_isPoint vX3_isPoint zX3 okX3_isPoint ⟨Nat.le_of_ble_eq_true rfl, Nat.le_of_ble_eq_true rfl⟩ rfl rfl (q0 := 0) rfl rfl [0, 1, 2, 3, 4, 5, 6] rfl rfl rfl (putl_self _ _ rfl) rfl hl.1 rfl (Nat.le_of_ble_eq_true rfl) ⟨Nat.le_refl 0, Nat.le_refl 0⟩ rfl dX3_join_2 (fun H locs hH => ?_)
  refine lv_if_eq (tgt := 21) hx hb dX3_join_5 (by decide) (fun c1 => ?_) (fun c1 => ?_)
  · have h := it_x h c1
    refine lv_iconst (v := (-1 : Int32)) hx hb dX3_join_21 (by decide) ?_
    cases h
    exact e_i X hH dX3_join_22
  · have h := ie_x h c1
    refine lv_aload_n hx hb dX3_join_8 rfl (lv_at hl 0 rfl) ?_
    refine lv_iload_n hx hb dX3_join_9 rfl (lv_at hl 2 rfl) ?_
    obtain ⟨o2, ho2, h⟩ := bd_x h
    refine r_V X hH (ws1 := (wX3 g a i xs)) (As := [.int pb]) (rest := []) (st1 := [.int o2]) (uX3_isPoint (a := a) (i := i) ho2) kX3_isPoint mX3_73 iX3_isPoint vX3_isPoint zX3 okX3_isPoint ⟨Nat.le_of_ble_eq_true rfl, Nat.le_of_ble_eq_true rfl⟩ rfl rfl (q0 := 0) rfl rfl [0, 1, 2, 3, 4, 5, 6] rfl rfl rfl (putl_self _ _ rfl) rfl hl.1 rfl (Nat.le_of_ble_eq_true rfl) ⟨Nat.le_refl 0, Nat.le_refl 0⟩ rfl dX3_join_10 (fun H locs hH => ?_)
    refine lv_if_eq (tgt := 21) hx hb dX3_join_13 (by decide) (fun c2 => ?_) (fun c2 => ?_)
    · have h := it_x h c2
      refine lv_iconst (v := (-1 : Int32)) hx hb dX3_join_21 (by decide) ?_
      cases h
      exact e_i X hH dX3_join_22
    · have h := ie_x h c2
      refine lv_iload_n hx hb dX3_join_16 rfl (lv_at hl 1 rfl) ?_
      refine lv_iload_n hx hb dX3_join_17 rfl (lv_at hl 2 rfl) ?_
      refine lv_icmp_ne (tgt := 23) hx hb dX3_join_18 (by decide) (fun c3 => ?_) (fun c3 => ?_)
      · have h := ie_x h c3
        refine lv_iload_n hx hb dX3_join_23 rfl (lv_at hl 3 rfl) ?_
        refine lv_iconst (v := (1 : Int32)) hx hb dX3_join_24 (by decide) ?_
        refine lv_icmp_lt (tgt := 34) hx hb dX3_join_25 (by decide) (fun c4 => ?_) (fun c4 => ?_)
        · have h := it_x h c4
          refine lv_bipush (v := (-4 : Int32)) hx hb dX3_join_34 (by decide) ?_
          cases h
          exact e_i X hH dX3_join_36
        · have h := ie_x h c4
          refine lv_iload hx hb dX3_join_28 (lv_at hl 4 rfl) ?_
          refine lv_iconst (v := (1 : Int32)) hx hb dX3_join_30 (by decide) ?_
          refine lv_icmp_ge (tgt := 37) hx hb dX3_join_31 (by decide) (fun c5 => ?_) (fun c5 => ?_)
          · have h := it_x h c5
            refine lv_iload_n hx hb dX3_join_37 rfl (lv_at hl 3 rfl) ?_
            refine lv_bipush (v := (9 : Int32)) hx hb dX3_join_38 (by decide) ?_
            refine lv_icmp_gt (tgt := 59) hx hb dX3_join_40 (by decide) (fun c6 => ?_) (fun c6 => ?_)
            · have h := it_x h c6
              refine lv_bipush (v := (-6 : Int32)) hx hb dX3_join_59 (by decide) ?_
              cases h
              exact e_i X hH dX3_join_61
            · have h := ie_x h c6
              refine lv_iload hx hb dX3_join_43 (lv_at hl 4 rfl) ?_
              refine lv_bipush (v := (9 : Int32)) hx hb dX3_join_45 (by decide) ?_
              refine lv_icmp_gt (tgt := 59) hx hb dX3_join_47 (by decide) (fun c7 => ?_) (fun c7 => ?_)
              · have h := it_x h c7
                refine lv_bipush (v := (-6 : Int32)) hx hb dX3_join_59 (by decide) ?_
                cases h
                exact e_i X hH dX3_join_61
              · have h := ie_x h c7
                refine lv_aload_n hx hb dX3_join_50 rfl (lv_at hl 0 rfl) ?_
                refine f_get X hH 0 rfl rfl 1 (by decide) inX3 fX3_15 rfl dX3_join_51 ?_
                refine lv_bipush (v := (10 : Int32)) hx hb dX3_join_54 (by decide) ?_
                refine lv_icmp_lt (tgt := 62) hx hb dX3_join_56 (by decide) (fun c8 => ?_) (fun c8 => ?_)
                · have h := it_x h c8
                  refine lv_aload_n hx hb dX3_join_62 rfl (lv_at hl 0 rfl) ?_
                  obtain ⟨o3, ho3, h⟩ := bd_x h
                  refine r_V X hH (ws1 := (wX3 g a i o3.2)) (As := []) (rest := []) (st1 := [.int o3.1]) (uX3_more (a := a) (i := i) ho3) kX3_more mX3_77 iX3_more vX3_more zX3 okX3_more ⟨Nat.le_of_ble_eq_true rfl, Nat.le_of_ble_eq_true rfl⟩ rfl rfl (q0 := 0) rfl rfl [0, 1, 2, 3, 4, 5, 6] rfl rfl rfl rfl rfl hl.1 rfl (Nat.le_of_ble_eq_true rfl) ⟨Nat.le_refl 0, Nat.le_refl 0⟩ rfl dX3_join_63 (fun H locs hH => ?_)
                  refine s_i X (lv' := [(5, .int o3.1), (0, .ref (a i)), (1, .int pa), (2, .int pb), (3, .int pc_), (4, .int pd)]) hl rfl dX3_join_66 (by decide) rfl (fun ls hl => ?_)
                  refine lv_aload_n hx hb dX3_join_68 rfl (lv_at hl 1 rfl) ?_
                  refine lv_iload hx hb dX3_join_69 (lv_at hl 0 rfl) ?_
                  refine lv_iload_n hx hb dX3_join_71 rfl (lv_at hl 2 rfl) ?_
                  refine lv_iload_n hx hb dX3_join_72 rfl (lv_at hl 3 rfl) ?_
                  refine lv_iload_n hx hb dX3_join_73 rfl (lv_at hl 4 rfl) ?_
                  refine lv_iload hx hb dX3_join_74 (lv_at hl 5 rfl) ?_
                  obtain ⟨o4, ho4, h⟩ := bd_x h
                  refine r_V X hH (ws1 := (wX3 g a i o4)) (As := [.int o3.1, .int pa, .int pb, .int pc_, .int pd]) (rest := []) (st1 := []) (uX3_lay (a := a) (i := i) ho4) kX3_lay mX3_80 iX3_lay vX3_lay zX3 okX3_lay ⟨Nat.le_of_ble_eq_true rfl, Nat.le_of_ble_eq_true rfl⟩ rfl rfl (q0 := 0) rfl rfl [0, 1, 2, 3, 4, 5, 6] rfl rfl rfl rfl rfl hl.1 rfl (Nat.le_of_ble_eq_true rfl) ⟨Nat.le_refl 0, Nat.le_refl 0⟩ rfl dX3_join_76 (fun H locs hH => ?_)
                  refine lv_iload hx hb dX3_join_79 (lv_at hl 0 rfl) ?_
                  cases h
                  exact e_i X hH dX3_join_81
                · have h := ie_x h c8
                  refine lv_bipush (v := (-6 : Int32)) hx hb dX3_join_59 (by decide) ?_
                  cases h
                  exact e_i X hH dX3_join_61
          · have h := ie_x h c5
            refine lv_bipush (v := (-4 : Int32)) hx hb dX3_join_34 (by decide) ?_
            cases h
            exact e_i X hH dX3_join_36
      · have h := it_x h c3
        refine lv_iconst (v := (-1 : Int32)) hx hb dX3_join_21 (by decide) ?_
        cases h
        exact e_i X hH dX3_join_22
