def fX8_slotted (xs : SX8) (pa : Int32) (pb : Int32) (pc_ : Int32) : Option (Int32 × SX8) :=
  (fX5_weightIn (w_slotRows xs) pa pb pc_).bind fun o1 =>
  (fX8_counted xs o1).bind fun o2 =>
  some (o2.1, o2.2)
set_option maxHeartbeats 4000000 in
set_option maxRecDepth 100000 in
theorem uX8_slotted {l : Launch} {g : GG} {a : Nat → Nat} {i : Nat} {xs : SX8} {pa : Int32} {pb : Int32} {pc_ : Int32} {o : (Int32 × SX8)} (h : fX8_slotted xs pa pb pc_ = some o) : mC l g yX8_slotted cX8_slotted 4 (some .int) (rM 2 46) [.ref (a i), .int pa, .int pb, .int pc_] (wX8 g a i xs) (wX8 g a i o.2) (some (.int o.1)) := by
  refine mC.ofW (by decide) (fun p e s m below meth c X hH ls _ hl => ?_) (Nat.le_of_ble_eq_true rfl)
  have hx := X.1
  have hb := X.2.1
  have hl : lv_has ls 4 [(0, .ref (a i)), (1, .int pa), (2, .int pb), (3, .int pc_)] := hl
  unfold fX8_slotted at h
  suffices HH : ∀ (H : Heap) (locs : List Loc), mH g s (wX8 g a i xs) (wX8 g a i xs) H locs → W p l e (rM 2 46) s m _ below meth c H locs 0 0 (mZ g below _ s (wX8 g a i xs) (wX8 g a i o.2) (some (.int o.1))) (F0 m 0 ls []) from HH _ _ hH
  clear hH
  intro H locs hH
  refine lv_aload_n hx hb dX8_slotted_0 rfl (lv_at hl 0 rfl) ?_
  refine lv_aload_n hx hb dX8_slotted_1 rfl (lv_at hl 0 rfl) ?_
  refine f_get X hH 0 rfl rfl 13 (by decide) inX8 fX8_83 rfl dX8_slotted_2 ?_
  refine lv_iload_n hx hb dX8_slotted_5 rfl (lv_at hl 1 rfl) ?_
  refine lv_iload_n hx hb dX8_slotted_6 rfl (lv_at hl 2 rfl) ?_
  refine lv_iload_n hx hb dX8_slotted_7 rfl (lv_at hl 3 rfl) ?_
  obtain ⟨o1, ho1, h⟩ := bd_x h
  refine r_V X hH (ws1 := (wX8 g a i xs)) (As := [.int pa, .int pb, .int pc_]) (rest := [.ref (a i)]) (st1 := [.int o1, .ref (a i)]) (uX5_weightIn (a := a) (i := (i + 51)) ho1) kX5_weightIn mX8_299 iX5_weightIn vX5_weightIn zX5 okX5_weightIn ⟨Nat.le_of_ble_eq_true rfl, Nat.le_of_ble_eq_true rfl⟩ rfl rfl (q0 := 51) rfl rfl (bX8_12) (bX8_12) rfl hl.1 rfl (Nat.le_of_ble_eq_true rfl) ⟨Nat.le_refl 0, Nat.le_refl 0⟩ rfl dX8_slotted_8 (fun H locs hH => ?_)
  obtain ⟨o2, ho2, h⟩ := bd_x h
  refine r_V X hH (ws1 := (wX8 g a i o2.2)) (As := [.int o1]) (rest := []) (st1 := [.int o2.1]) (uX8_counted (a := a) (i := i) ho2) kX8_counted mX8_94 iX8_counted vX8_counted zX8 okX8_counted ⟨Nat.le_of_ble_eq_true rfl, Nat.le_of_ble_eq_true rfl⟩ rfl rfl (q0 := 0) rfl rfl (pm_all _) (pm_all _) rfl hl.1 rfl (Nat.le_of_ble_eq_true rfl) ⟨Nat.le_refl 0, Nat.le_refl 0⟩ rfl dX8_slotted_11 (fun H locs hH => ?_)
  have h := Option.some.inj h
  subst h
  exact e_i X hH dX8_slotted_14

def fX8_like (xs : SX8) (pa : Int32) (pb : Int32) : Option (Int32 × SX8) :=
  (fX5_copy (w_slotRows xs) pa pb).bind fun o1 =>
  ltt ((w_slotRows_s xs o1.2)) fun xs1 =>
  (fX8_counted xs1 o1.1).bind fun o2 =>
  some (o2.1, o2.2)
set_option maxHeartbeats 4000000 in
set_option maxRecDepth 100000 in
theorem uX8_like {l : Launch} {g : GG} {a : Nat → Nat} {i : Nat} {xs : SX8} {pa : Int32} {pb : Int32} {o : (Int32 × SX8)} (h : fX8_like xs pa pb = some o) : mC l g yX8_like cX8_like 3 (some .int) (rM 2 43) [.ref (a i), .int pa, .int pb] (wX8 g a i xs) (wX8 g a i o.2) (some (.int o.1)) := by
  refine mC.ofW (by decide) (fun p e s m below meth c X hH ls _ hl => ?_) (Nat.le_of_ble_eq_true rfl)
  have hx := X.1
  have hb := X.2.1
  have hl : lv_has ls 3 [(0, .ref (a i)), (1, .int pa), (2, .int pb)] := hl
  unfold fX8_like at h
  suffices HH : ∀ (H : Heap) (locs : List Loc), mH g s (wX8 g a i xs) (wX8 g a i xs) H locs → W p l e (rM 2 43) s m _ below meth c H locs 0 0 (mZ g below _ s (wX8 g a i xs) (wX8 g a i o.2) (some (.int o.1))) (F0 m 0 ls []) from HH _ _ hH
  clear hH
  intro H locs hH
  refine lv_aload_n hx hb dX8_like_0 rfl (lv_at hl 0 rfl) ?_
  refine lv_aload_n hx hb dX8_like_1 rfl (lv_at hl 0 rfl) ?_
  refine f_get X hH 0 rfl rfl 13 (by decide) inX8 fX8_83 rfl dX8_like_2 ?_
  refine lv_iload_n hx hb dX8_like_5 rfl (lv_at hl 1 rfl) ?_
  refine lv_iload_n hx hb dX8_like_6 rfl (lv_at hl 2 rfl) ?_
  obtain ⟨o1, ho1, h⟩ := bd_x h
  obtain ⟨xs1, exs1, h⟩ := ltt_x h
  refine r_V X hH (ws1 := (wX8 g a i xs1)) (As := [.int pa, .int pb]) (rest := [.ref (a i)]) (st1 := [.int o1.1, .ref (a i)]) (uX5_copy (a := a) (i := (i + 51)) ho1) kX5_copy mX8_302 iX5_copy vX5_copy zX5 okX5_copy ⟨Nat.le_of_ble_eq_true rfl, Nat.le_of_ble_eq_true rfl⟩ rfl rfl (q0 := 51) rfl rfl (bX8_12) (by rw [exs1]; exact (bX8_12)) rfl hl.1 rfl (Nat.le_of_ble_eq_true rfl) ⟨Nat.le_refl 0, Nat.le_refl 0⟩ rfl dX8_like_7 (fun H locs hH => ?_)
  obtain ⟨o2, ho2, h⟩ := bd_x h
  refine r_V X hH (ws1 := (wX8 g a i o2.2)) (As := [.int o1.1]) (rest := []) (st1 := [.int o2.1]) (uX8_counted (a := a) (i := i) ho2) kX8_counted mX8_94 iX8_counted vX8_counted zX8 okX8_counted ⟨Nat.le_of_ble_eq_true rfl, Nat.le_of_ble_eq_true rfl⟩ rfl rfl (q0 := 0) rfl rfl (pm_all _) (pm_all _) rfl hl.1 rfl (Nat.le_of_ble_eq_true rfl) ⟨Nat.le_refl 0, Nat.le_refl 0⟩ rfl dX8_like_10 (fun H locs hH => ?_)
  have h := Option.some.inj h
  subst h
  exact e_i X hH dX8_like_13

def fX8_image (xs : SX8) : Option (Int32 × SX8) :=
  (fX3_copy (w_imaged xs) (w_net xs)).bind fun o1 =>
  ltt ((w_imaged_s xs o1)) fun xs1 =>
  ltt ((w_hasImage_s xs1 (1 : Int32))) fun xs2 =>
  some ((n_ways (w_net xs2)), xs2)
set_option maxHeartbeats 4000000 in
set_option maxRecDepth 100000 in
theorem uX8_image {l : Launch} {g : GG} {a : Nat → Nat} {i : Nat} {xs : SX8} {o : (Int32 × SX8)} (h : fX8_image xs = some o) : mC l g yX8_image cX8_image 1 (some .int) (rM 2 45) [.ref (a i)] (wX8 g a i xs) (wX8 g a i o.2) (some (.int o.1)) := by
  refine mC.ofW (by decide) (fun p e s m below meth c X hH ls _ hl => ?_) (Nat.le_of_ble_eq_true rfl)
  have hx := X.1
  have hb := X.2.1
  have hl : lv_has ls 1 [(0, .ref (a i))] := hl
  unfold fX8_image at h
  suffices HH : ∀ (H : Heap) (locs : List Loc), mH g s (wX8 g a i xs) (wX8 g a i xs) H locs → W p l e (rM 2 45) s m _ below meth c H locs 0 0 (mZ g below _ s (wX8 g a i xs) (wX8 g a i o.2) (some (.int o.1))) (F0 m 0 ls []) from HH _ _ hH
  clear hH
  intro H locs hH
  refine lv_aload_n hx hb dX8_image_0 rfl (lv_at hl 0 rfl) ?_
  refine f_get X hH 0 rfl rfl 2 (by decide) inX8 fX8_19 rfl dX8_image_1 ?_
  refine lv_aload_n hx hb dX8_image_4 rfl (lv_at hl 0 rfl) ?_
  refine f_get X hH 0 rfl rfl 0 (by decide) inX8 fX8_10 rfl dX8_image_5 ?_
  obtain ⟨o1, ho1, h⟩ := bd_x h
  obtain ⟨xs1, exs1, h⟩ := ltt_x h
  refine r_V X hH (ws1 := (wX8 g a i xs1)) (As := [.ref (a (i + 1))]) (rest := []) (st1 := []) (uX3_copy (a := a) (i := (i + 15)) (b := a) (j := (i + 1)) ho1) kX3_copy mX8_97 iX3_copy vX3_copy zX3 okX3_copy ⟨Nat.le_of_ble_eq_true rfl, Nat.le_of_ble_eq_true rfl⟩ rfl rfl (q0 := 15) rfl rfl (pm_2 (bX8_3) (bX8_3_1)) (by rw [exs1]; exact (pm_2 (bX8_3) (bX8_3_1))) rfl hl.1 rfl (Nat.le_of_ble_eq_true rfl) ⟨Nat.le_refl 0, Nat.le_refl 0⟩ rfl dX8_image_8 (fun H locs hH => ?_)
  refine lv_aload_n hx hb dX8_image_11 rfl (lv_at hl 0 rfl) ?_
  refine lv_iconst (v := (1 : Int32)) hx hb dX8_image_12 (by decide) ?_
  obtain ⟨xs2, exs2, h⟩ := ltt_x h
  refine f_put X hH (ws1 := (wX8 g a i xs2)) 0 rfl rfl 3 (by decide) inX8 tyX8 tyX8_ok nmX8 fX8_22 rfl rfl rfl (Nat.le_of_ble_eq_true rfl) (by rw [exs2]; rfl) dX8_image_13 (fun H locs hH => ?_)
  refine lv_aload_n hx hb dX8_image_16 rfl (lv_at hl 0 rfl) ?_
  refine f_get X hH 0 rfl rfl 0 (by decide) inX8 fX8_10 rfl dX8_image_17 ?_
  refine f_get X hH 1 rfl rfl 1 (by decide) inX3 fX8_227 rfl dX8_image_20 ?_
  have h := Option.some.inj h
  subst h
  exact e_i X hH dX8_image_23

def fX8_on (xs : SX8) : Option (Int32 × SX8) :=
  (if (w_hasImage xs) = (0 : Int32) then
  (fX8_counted xs (-3 : Int32)).bind fun o2 =>
  some (o2.1, o2.2)
  else
  (fX3_copy (w_net xs) (w_imaged xs)).bind fun o1 =>
  ltt ((w_net_s xs o1)) fun xs1 =>
  some ((n_ways (w_net xs1)), xs1))
set_option maxHeartbeats 4000000 in
set_option maxRecDepth 100000 in
theorem uX8_on {l : Launch} {g : GG} {a : Nat → Nat} {i : Nat} {xs : SX8} {o : (Int32 × SX8)} (h : fX8_on xs = some o) : mC l g yX8_on cX8_on 1 (some .int) (rM 2 45) [.ref (a i)] (wX8 g a i xs) (wX8 g a i o.2) (some (.int o.1)) := by
  refine mC.ofW (by decide) (fun p e s m below meth c X hH ls _ hl => ?_) (Nat.le_of_ble_eq_true rfl)
  have hx := X.1
  have hb := X.2.1
  have hl : lv_has ls 1 [(0, .ref (a i))] := hl
  unfold fX8_on at h
  suffices HH : ∀ (H : Heap) (locs : List Loc), mH g s (wX8 g a i xs) (wX8 g a i xs) H locs → W p l e (rM 2 45) s m _ below meth c H locs 0 0 (mZ g below _ s (wX8 g a i xs) (wX8 g a i o.2) (some (.int o.1))) (F0 m 0 ls []) from HH _ _ hH
  clear hH
  intro H locs hH
  refine lv_aload_n hx hb dX8_on_0 rfl (lv_at hl 0 rfl) ?_
  refine f_get X hH 0 rfl rfl 3 (by decide) inX8 fX8_22 rfl dX8_on_1 ?_
  refine lv_if_ne (tgt := 14) hx hb dX8_on_4 (by decide) (fun c1 => ?_) (fun c1 => ?_)
  · have h := ie_x h c1
    refine lv_aload_n hx hb dX8_on_14 rfl (lv_at hl 0 rfl) ?_
    refine f_get X hH 0 rfl rfl 0 (by decide) inX8 fX8_10 rfl dX8_on_15 ?_
    refine lv_aload_n hx hb dX8_on_18 rfl (lv_at hl 0 rfl) ?_
    refine f_get X hH 0 rfl rfl 2 (by decide) inX8 fX8_19 rfl dX8_on_19 ?_
    obtain ⟨o1, ho1, h⟩ := bd_x h
    obtain ⟨xs1, exs1, h⟩ := ltt_x h
    refine r_V X hH (ws1 := (wX8 g a i xs1)) (As := [.ref (a (i + 15))]) (rest := []) (st1 := []) (uX3_copy (a := a) (i := (i + 1)) (b := a) (j := (i + 15)) ho1) kX3_copy mX8_97 iX3_copy vX3_copy zX3 okX3_copy ⟨Nat.le_of_ble_eq_true rfl, Nat.le_of_ble_eq_true rfl⟩ rfl rfl (q0 := 1) rfl rfl (pm_2 (bX8_1) (bX8_1_3)) (by rw [exs1]; exact (pm_2 (bX8_1) (bX8_1_3))) rfl hl.1 rfl (Nat.le_of_ble_eq_true rfl) ⟨Nat.le_refl 0, Nat.le_refl 0⟩ rfl dX8_on_22 (fun H locs hH => ?_)
    refine lv_aload_n hx hb dX8_on_25 rfl (lv_at hl 0 rfl) ?_
    refine f_get X hH 0 rfl rfl 0 (by decide) inX8 fX8_10 rfl dX8_on_26 ?_
    refine f_get X hH 1 rfl rfl 1 (by decide) inX3 fX8_227 rfl dX8_on_29 ?_
    have h := Option.some.inj h
    subst h
    exact e_i X hH dX8_on_32
  · have h := it_x h c1
    refine lv_aload_n hx hb dX8_on_7 rfl (lv_at hl 0 rfl) ?_
    refine lv_bipush (v := (-3 : Int32)) hx hb dX8_on_8 (by decide) ?_
    obtain ⟨o2, ho2, h⟩ := bd_x h
    refine r_V X hH (ws1 := (wX8 g a i o2.2)) (As := [.int (-3 : Int32)]) (rest := []) (st1 := [.int o2.1]) (uX8_counted (a := a) (i := i) ho2) kX8_counted mX8_94 iX8_counted vX8_counted zX8 okX8_counted ⟨Nat.le_of_ble_eq_true rfl, Nat.le_of_ble_eq_true rfl⟩ rfl rfl (q0 := 0) rfl rfl (pm_all _) (pm_all _) rfl hl.1 rfl (Nat.le_of_ble_eq_true rfl) ⟨Nat.le_refl 0, Nat.le_refl 0⟩ rfl dX8_on_10 (fun H locs hH => ?_)
    have h := Option.some.inj h
    subst h
    exact e_i X hH dX8_on_13

def fX8_count (xs : SX8) (pa : Int32) : Option Int32 :=
  (if pa = (0 : Int32) then
  some (n_points (w_net xs))
  else
  (if pa = (1 : Int32) then
  some (n_ways (w_net xs))
  else
  (if pa = (2 : Int32) then
  some (te_size (w_telling xs))
  else
  (if pa = (3 : Int32) then
  some (w_rowSize xs)
  else
  (if pa = (4 : Int32) then
  (fX3_weightsOfAll (w_net xs)).bind fun o2 =>
  some o2
  else
  (if pa = (5 : Int32) then
  (fX3_sets (w_net xs)).bind fun o1 =>
  some o1
  else
  (if pa < (11 : Int32) then
  some (-9 : Int32)
  else
  (if (16 : Int32) < pa then
  some (-9 : Int32)
  else
  ga 7 (pa - (10 : Int32)) fun j1 =>
  some ((w_refusals xs) j1)))))))))
set_option maxHeartbeats 4000000 in
set_option maxRecDepth 100000 in
theorem uX8_count {l : Launch} {g : GG} {a : Nat → Nat} {i : Nat} {xs : SX8} {pa : Int32} {o : Int32} (h : fX8_count xs pa = some o) : mC l g yX8_count cX8_count 2 (some .int) (rM 3 71) [.ref (a i), .int pa] (wX8 g a i xs) (wX8 g a i xs) (some (.int o)) := by
  refine mC.ofW (by decide) (fun p e s m below meth c X hH ls _ hl => ?_) (Nat.le_of_ble_eq_true rfl)
  have hx := X.1
  have hb := X.2.1
  have hl : lv_has ls 2 [(0, .ref (a i)), (1, .int pa)] := hl
  unfold fX8_count at h
  suffices HH : ∀ (H : Heap) (locs : List Loc), mH g s (wX8 g a i xs) (wX8 g a i xs) H locs → W p l e (rM 3 71) s m _ below meth c H locs 0 0 (mZ g below _ s (wX8 g a i xs) (wX8 g a i xs) (some (.int o))) (F0 m 0 ls []) from HH _ _ hH
  clear hH
  intro H locs hH
  refine lv_iload_n hx hb dX8_count_0 rfl (lv_at hl 1 rfl) ?_
  rcases Classical.em (pa = (0 : Int32)) with c3 | c3
  · have h := it_x h c3
    refine lv_tableIn (tgt := 40) hx hb dX8_count_1 (by rw [c3]; decide) (by rw [c3]; decide) (off := 39) (by rw [c3]; decide) (by decide) ?_
    refine lv_aload_n hx hb dX8_count_40 rfl (lv_at hl 0 rfl) ?_
    refine f_get X hH 0 rfl rfl 0 (by decide) inX8 fX8_10 rfl dX8_count_41 ?_
    refine f_get X hH 1 rfl rfl 0 (by decide) inX3 fX8_216 rfl dX8_count_44 ?_
    have h := Option.some.inj h
    subst h
    exact e_i X hH dX8_count_47
  · have h := ie_x h c3
    rcases Classical.em (pa = (1 : Int32)) with c4 | c4
    · have h := it_x h c4
      refine lv_tableIn (tgt := 48) hx hb dX8_count_1 (by rw [c4]; decide) (by rw [c4]; decide) (off := 47) (by rw [c4]; decide) (by decide) ?_
      refine lv_aload_n hx hb dX8_count_48 rfl (lv_at hl 0 rfl) ?_
      refine f_get X hH 0 rfl rfl 0 (by decide) inX8 fX8_10 rfl dX8_count_49 ?_
      refine f_get X hH 1 rfl rfl 1 (by decide) inX3 fX8_227 rfl dX8_count_52 ?_
      have h := Option.some.inj h
      subst h
      exact e_i X hH dX8_count_55
    · have h := ie_x h c4
      rcases Classical.em (pa = (2 : Int32)) with c5 | c5
      · have h := it_x h c5
        refine lv_tableIn (tgt := 56) hx hb dX8_count_1 (by rw [c5]; decide) (by rw [c5]; decide) (off := 55) (by rw [c5]; decide) (by decide) ?_
        refine lv_aload_n hx hb dX8_count_56 rfl (lv_at hl 0 rfl) ?_
        refine f_get X hH 0 rfl rfl 6 (by decide) inX8 fX8_40 rfl dX8_count_57 ?_
        refine f_get X hH 34 rfl rfl 0 (by decide) inX7 fX8_304 rfl dX8_count_60 ?_
        have h := Option.some.inj h
        subst h
        exact e_i X hH dX8_count_63
      · have h := ie_x h c5
        rcases Classical.em (pa = (3 : Int32)) with c6 | c6
        · have h := it_x h c6
          refine lv_tableIn (tgt := 64) hx hb dX8_count_1 (by rw [c6]; decide) (by rw [c6]; decide) (off := 63) (by rw [c6]; decide) (by decide) ?_
          refine lv_aload_n hx hb dX8_count_64 rfl (lv_at hl 0 rfl) ?_
          refine f_get X hH 0 rfl rfl 11 (by decide) inX8 fX8_69 rfl dX8_count_65 ?_
          have h := Option.some.inj h
          subst h
          exact e_i X hH dX8_count_68
        · have h := ie_x h c6
          rcases Classical.em (pa = (4 : Int32)) with c7 | c7
          · have h := it_x h c7
            refine lv_tableIn (tgt := 69) hx hb dX8_count_1 (by rw [c7]; decide) (by rw [c7]; decide) (off := 68) (by rw [c7]; decide) (by decide) ?_
            refine lv_aload_n hx hb dX8_count_69 rfl (lv_at hl 0 rfl) ?_
            refine f_get X hH 0 rfl rfl 0 (by decide) inX8 fX8_10 rfl dX8_count_70 ?_
            obtain ⟨o2, ho2, h⟩ := bd_x h
            refine r_V X hH (ws1 := (wX8 g a i xs)) (As := []) (rest := []) (st1 := [.int o2]) (uX3_weightsOfAll (a := a) (i := (i + 1)) ho2) kX3_weightsOfAll mX8_305 iX3_weightsOfAll vX3_weightsOfAll zX3 okX3_weightsOfAll ⟨Nat.le_of_ble_eq_true rfl, Nat.le_of_ble_eq_true rfl⟩ rfl rfl (q0 := 1) rfl rfl (bX8_1) (bX8_1) rfl hl.1 rfl (Nat.le_of_ble_eq_true rfl) ⟨Nat.le_refl 0, Nat.le_refl 0⟩ rfl dX8_count_73 (fun H locs hH => ?_)
            have h := Option.some.inj h
            subst h
            exact e_i X hH dX8_count_76
          · have h := ie_x h c7
            rcases Classical.em (pa = (5 : Int32)) with c8 | c8
            · have h := it_x h c8
              refine lv_tableIn (tgt := 77) hx hb dX8_count_1 (by rw [c8]; decide) (by rw [c8]; decide) (off := 76) (by rw [c8]; decide) (by decide) ?_
              refine lv_aload_n hx hb dX8_count_77 rfl (lv_at hl 0 rfl) ?_
              refine f_get X hH 0 rfl rfl 0 (by decide) inX8 fX8_10 rfl dX8_count_78 ?_
              obtain ⟨o1, ho1, h⟩ := bd_x h
              refine r_V X hH (ws1 := (wX8 g a i xs)) (As := []) (rest := []) (st1 := [.int o1]) (uX3_sets (a := a) (i := (i + 1)) ho1) kX3_sets mX8_308 iX3_sets vX3_sets zX3 okX3_sets ⟨Nat.le_of_ble_eq_true rfl, Nat.le_of_ble_eq_true rfl⟩ rfl rfl (q0 := 1) rfl rfl (bX8_1) (bX8_1) rfl hl.1 rfl (Nat.le_of_ble_eq_true rfl) ⟨Nat.le_refl 0, Nat.le_refl 0⟩ rfl dX8_count_81 (fun H locs hH => ?_)
              have h := Option.some.inj h
              subst h
              exact e_i X hH dX8_count_84
            · have h := ie_x h c8
              refine lv_tableOut (tgt := 85) hx hb dX8_count_1 (tsw_0_5 (c3) (c4) (c5) (c6) (c7) (c8)) (by decide) ?_
              refine lv_iload_n hx hb dX8_count_85 rfl (lv_at hl 1 rfl) ?_
              refine lv_bipush (v := (11 : Int32)) hx hb dX8_count_86 (by decide) ?_
              refine lv_icmp_lt (tgt := 109) hx hb dX8_count_88 (by decide) (fun c1 => ?_) (fun c1 => ?_)
              · have h := it_x h c1
                refine lv_bipush (v := (-9 : Int32)) hx hb dX8_count_109 (by decide) ?_
                have h := Option.some.inj h
                subst h
                exact e_i X hH dX8_count_111
              · have h := ie_x h c1
                refine lv_iload_n hx hb dX8_count_91 rfl (lv_at hl 1 rfl) ?_
                refine lv_bipush (v := (16 : Int32)) hx hb dX8_count_92 (by decide) ?_
                refine lv_icmp_gt (tgt := 109) hx hb dX8_count_94 (by decide) (fun c2 => ?_) (fun c2 => ?_)
                · have h := it_x h c2
                  refine lv_bipush (v := (-9 : Int32)) hx hb dX8_count_109 (by decide) ?_
                  have h := Option.some.inj h
                  subst h
                  exact e_i X hH dX8_count_111
                · have h := ie_x h c2
                  refine lv_aload_n hx hb dX8_count_97 rfl (lv_at hl 0 rfl) ?_
                  refine f_get X hH 0 rfl rfl 14 (by decide) inX8 fX8_87 rfl dX8_count_98 ?_
                  refine lv_iload_n hx hb dX8_count_101 rfl (lv_at hl 1 rfl) ?_
                  refine lv_bipush (v := (10 : Int32)) hx hb dX8_count_102 (by decide) ?_
                  refine lv_isub hx hb dX8_count_104 ?_
                  obtain ⟨j1, ej1, hinj1, h⟩ := ga_x h
                  refine a_il X hH 62 rfl hinj1 ej1 dX8_count_105 ?_
                  refine lv_goto (tgt := 111) hx hb dX8_count_106 (by decide) ?_
                  have h := Option.some.inj h
                  subst h
                  exact e_i X hH dX8_count_111

def fX9_isIn (pa : Int64) (pb : Int64) (pc_ : Int64) : Option Int32 :=
  (if pa < pb then
  some (0 : Int32)
  else
  (if pc_ < pa then
  some (0 : Int32)
  else
  some (1 : Int32)))
set_option maxHeartbeats 4000000 in
set_option maxRecDepth 100000 in
theorem uX9_isIn {l : Launch} {g : GG}  {pa : Int64} {pb : Int64} {pc_ : Int64} {o : Int32} (h : fX9_isIn pa pb pc_ = some o) : mC l g yX9_isIn cX9_isIn 6 (some .boolean) (rM 0 0) [.long pa, .long pb, .long pc_] [] [] (some (.int o)) := by
  refine mC.ofW (by decide) (fun p e s m below meth c X hH ls _ hl => ?_) (Nat.le_of_ble_eq_true rfl)
  have hx := X.1
  have hb := X.2.1
  have hl : lv_has ls 6 [(0, .long pa), (2, .long pb), (4, .long pc_)] := hl
  unfold fX9_isIn at h
  suffices HH : ∀ (H : Heap) (locs : List Loc), mH g s [] [] H locs → W p l e (rM 0 0) s m _ below meth c H locs 0 0 (mZ g below _ s [] [] (some (.int o))) (F0 m 0 ls []) from HH _ _ hH
  clear hH
  intro H locs hH
  refine lv_lload_n hx hb dX9_isIn_0 rfl (lv_at hl 0 rfl) ?_
  refine lv_lload_n hx hb dX9_isIn_1 rfl (lv_at hl 1 rfl) ?_
  refine W.lcmp hx hb dX9_isIn_2 ?_
  refine lv_if_lt (tgt := 17) hx hb dX9_isIn_3 (by decide) (fun c1 => ?_) (fun c1 => ?_)
  · have h := it_x h ((lg_cmp_lt pa pb).mp c1)
    refine lv_iconst (v := (0 : Int32)) hx hb dX9_isIn_17 (by decide) ?_
    have h := Option.some.inj h
    subst h
    exact e_z X hH (Or.inl rfl) dX9_isIn_18
  · have h := ie_x h (mt (lg_cmp_lt pa pb).mpr c1)
    refine lv_lload_n hx hb dX9_isIn_6 rfl (lv_at hl 0 rfl) ?_
    refine lv_lload hx hb dX9_isIn_7 (lv_at hl 2 rfl) ?_
    refine W.lcmp hx hb dX9_isIn_9 ?_
    refine lv_if_gt (tgt := 17) hx hb dX9_isIn_10 (by decide) (fun c2 => ?_) (fun c2 => ?_)
    · have h := it_x h ((lg_cmp_gt pa pc_).mp c2)
      refine lv_iconst (v := (0 : Int32)) hx hb dX9_isIn_17 (by decide) ?_
      have h := Option.some.inj h
      subst h
      exact e_z X hH (Or.inl rfl) dX9_isIn_18
    · have h := ie_x h (mt (lg_cmp_gt pa pc_).mpr c2)
      refine lv_iconst (v := (1 : Int32)) hx hb dX9_isIn_13 (by decide) ?_
      refine lv_goto (tgt := 18) hx hb dX9_isIn_14 (by decide) ?_
      have h := Option.some.inj h
      subst h
      exact e_z X hH (Or.inr rfl) dX9_isIn_18

def fX9_has (pa : Int32) (pb : Int32) : Option Int32 :=
  (if ((pa >>> (pb &&& 31)) &&& (1 : Int32)) = (1 : Int32) then
  some (1 : Int32)
  else
  some (0 : Int32))
set_option maxHeartbeats 4000000 in
set_option maxRecDepth 100000 in
theorem uX9_has {l : Launch} {g : GG}  {pa : Int32} {pb : Int32} {o : Int32} (h : fX9_has pa pb = some o) : mC l g yX9_has cX9_has 2 (some .boolean) (rM 0 0) [.int pa, .int pb] [] [] (some (.int o)) := by
  refine mC.ofW (by decide) (fun p e s m below meth c X hH ls _ hl => ?_) (Nat.le_of_ble_eq_true rfl)
  have hx := X.1
  have hb := X.2.1
  have hl : lv_has ls 2 [(0, .int pa), (1, .int pb)] := hl
  unfold fX9_has at h
  suffices HH : ∀ (H : Heap) (locs : List Loc), mH g s [] [] H locs → W p l e (rM 0 0) s m _ below meth c H locs 0 0 (mZ g below _ s [] [] (some (.int o))) (F0 m 0 ls []) from HH _ _ hH
  clear hH
  intro H locs hH
  refine lv_iload_n hx hb dX9_has_0 rfl (lv_at hl 0 rfl) ?_
  refine lv_iload_n hx hb dX9_has_1 rfl (lv_at hl 1 rfl) ?_
  refine lv_ishr hx hb dX9_has_2 ?_
  refine lv_iconst (v := (1 : Int32)) hx hb dX9_has_3 (by decide) ?_
  refine lv_iand hx hb dX9_has_4 ?_
  refine lv_iconst (v := (1 : Int32)) hx hb dX9_has_5 (by decide) ?_
  refine lv_icmp_ne (tgt := 13) hx hb dX9_has_6 (by decide) (fun c1 => ?_) (fun c1 => ?_)
  · have h := ie_x h c1
    refine lv_iconst (v := (0 : Int32)) hx hb dX9_has_13 (by decide) ?_
    have h := Option.some.inj h
    subst h
    exact e_z X hH (Or.inl rfl) dX9_has_14
  · have h := it_x h c1
    refine lv_iconst (v := (1 : Int32)) hx hb dX9_has_9 (by decide) ?_
    refine lv_goto (tgt := 14) hx hb dX9_has_10 (by decide) ?_
    have h := Option.some.inj h
    subst h
    exact e_z X hH (Or.inr rfl) dX9_has_14

def fX9_isPoint (xs : SX9) (pa : Int32) : Option Int32 :=
  (fX9_isIn (pa.toInt64) (0 : Int64) (((m_points xs) - (1 : Int32)).toInt64)).bind fun o1 =>
  gb o1 (some o1)
set_option maxHeartbeats 4000000 in
set_option maxRecDepth 100000 in
theorem uX9_isPoint {l : Launch} {g : GG} {a : Nat → Nat} {i : Nat} {xs : SX9} {pa : Int32} {o : Int32} (h : fX9_isPoint xs pa = some o) : mC l g yX9_isPoint cX9_isPoint 2 (some .boolean) (rM 1 25) [.ref (a i), .int pa] (wX9 g a i xs) (wX9 g a i xs) (some (.int o)) := by
  refine mC.ofW (by decide) (fun p e s m below meth c X hH ls _ hl => ?_) (Nat.le_of_ble_eq_true rfl)
  have hx := X.1
  have hb := X.2.1
  have hl : lv_has ls 2 [(0, .ref (a i)), (1, .int pa)] := hl
  unfold fX9_isPoint at h
  suffices HH : ∀ (H : Heap) (locs : List Loc), mH g s (wX9 g a i xs) (wX9 g a i xs) H locs → W p l e (rM 1 25) s m _ below meth c H locs 0 0 (mZ g below _ s (wX9 g a i xs) (wX9 g a i xs) (some (.int o))) (F0 m 0 ls []) from HH _ _ hH
  clear hH
  intro H locs hH
  refine lv_iload_n hx hb dX9_isPoint_0 rfl (lv_at hl 1 rfl) ?_
  refine lv_i2l hx hb dX9_isPoint_1 rfl ?_
  refine lv_lconst (v := (0 : Int64)) hx hb dX9_isPoint_2 (by decide) ?_
  refine lv_aload_n hx hb dX9_isPoint_3 rfl (lv_at hl 0 rfl) ?_
  refine f_get X hH 0 rfl rfl 0 (by decide) inX9 fX9_7 rfl dX9_isPoint_4 ?_
  refine lv_iconst (v := (1 : Int32)) hx hb dX9_isPoint_7 (by decide) ?_
  refine lv_isub hx hb dX9_isPoint_8 ?_
  refine lv_i2l hx hb dX9_isPoint_9 rfl ?_
  obtain ⟨o1, ho1, h⟩ := bd_x h
  refine r_S X hH (ws1 := (wX9 g a i xs)) (As := [.long (pa.toInt64), .long (0 : Int64), .long (((m_points xs) - (1 : Int32)).toInt64)]) (rest := []) (st1 := [.int o1]) (uX9_isIn  ho1) kX9_isIn mX9_116 sX9_isIn zX9 okX9_isIn ⟨Nat.le_of_ble_eq_true rfl, Nat.le_of_ble_eq_true rfl⟩ rfl rfl (pm_none _) (pm_none _) rfl hl.1 rfl (Nat.le_of_ble_eq_true rfl) ⟨Nat.le_refl 0, Nat.le_refl 0⟩ rfl dX9_isPoint_10 (fun H locs hH => ?_)
  obtain ⟨z1, h⟩ := gb_x h
  have h := Option.some.inj h
  subst h
  exact e_z X hH z1 dX9_isPoint_13

def fX9_isWay (xs : SX9) (pa : Int32) : Option Int32 :=
  (fX9_isIn (pa.toInt64) (0 : Int64) (((m_many xs) - (1 : Int32)).toInt64)).bind fun o1 =>
  gb o1 (some o1)
set_option maxHeartbeats 4000000 in
set_option maxRecDepth 100000 in
theorem uX9_isWay {l : Launch} {g : GG} {a : Nat → Nat} {i : Nat} {xs : SX9} {pa : Int32} {o : Int32} (h : fX9_isWay xs pa = some o) : mC l g yX9_isWay cX9_isWay 2 (some .boolean) (rM 1 25) [.ref (a i), .int pa] (wX9 g a i xs) (wX9 g a i xs) (some (.int o)) := by
  refine mC.ofW (by decide) (fun p e s m below meth c X hH ls _ hl => ?_) (Nat.le_of_ble_eq_true rfl)
  have hx := X.1
  have hb := X.2.1
  have hl : lv_has ls 2 [(0, .ref (a i)), (1, .int pa)] := hl
  unfold fX9_isWay at h
  suffices HH : ∀ (H : Heap) (locs : List Loc), mH g s (wX9 g a i xs) (wX9 g a i xs) H locs → W p l e (rM 1 25) s m _ below meth c H locs 0 0 (mZ g below _ s (wX9 g a i xs) (wX9 g a i xs) (some (.int o))) (F0 m 0 ls []) from HH _ _ hH
  clear hH
  intro H locs hH
  refine lv_iload_n hx hb dX9_isWay_0 rfl (lv_at hl 1 rfl) ?_
  refine lv_i2l hx hb dX9_isWay_1 rfl ?_
  refine lv_lconst (v := (0 : Int64)) hx hb dX9_isWay_2 (by decide) ?_
  refine lv_aload_n hx hb dX9_isWay_3 rfl (lv_at hl 0 rfl) ?_
  refine f_get X hH 0 rfl rfl 1 (by decide) inX9 fX9_120 rfl dX9_isWay_4 ?_
  refine lv_iconst (v := (1 : Int32)) hx hb dX9_isWay_7 (by decide) ?_
  refine lv_isub hx hb dX9_isWay_8 ?_
  refine lv_i2l hx hb dX9_isWay_9 rfl ?_
  obtain ⟨o1, ho1, h⟩ := bd_x h
  refine r_S X hH (ws1 := (wX9 g a i xs)) (As := [.long (pa.toInt64), .long (0 : Int64), .long (((m_many xs) - (1 : Int32)).toInt64)]) (rest := []) (st1 := [.int o1]) (uX9_isIn  ho1) kX9_isIn mX9_116 sX9_isIn zX9 okX9_isIn ⟨Nat.le_of_ble_eq_true rfl, Nat.le_of_ble_eq_true rfl⟩ rfl rfl (pm_none _) (pm_none _) rfl hl.1 rfl (Nat.le_of_ble_eq_true rfl) ⟨Nat.le_refl 0, Nat.le_refl 0⟩ rfl dX9_isWay_10 (fun H locs hH => ?_)
  obtain ⟨z1, h⟩ := gb_x h
  have h := Option.some.inj h
  subst h
  exact e_z X hH z1 dX9_isWay_13

def fX9_no (xs : SX9) (pa : Int32) : Option (Int32 × SX9) :=
  (if pa < (-6 : Int32) then
  some (pa, xs)
  else
  ga 7 (-pa) fun j1 =>
  ltt ((((m_refusals xs) j1) + (1 : Int32))) fun v1 =>
  ga 7 (-pa) fun j2 =>
  ltt ((m_refusals_s xs (upd (m_refusals xs) j2 v1))) fun xs1 =>
  some (pa, xs1))
set_option maxHeartbeats 4000000 in
set_option maxRecDepth 100000 in
theorem uX9_no {l : Launch} {g : GG} {a : Nat → Nat} {i : Nat} {xs : SX9} {pa : Int32} {o : (Int32 × SX9)} (h : fX9_no xs pa = some o) : mC l g yX9_no cX9_no 2 (some .int) (rM 0 0) [.ref (a i), .int pa] (wX9 g a i xs) (wX9 g a i o.2) (some (.int o.1)) := by
  refine mC.ofW (by decide) (fun p e s m below meth c X hH ls _ hl => ?_) (Nat.le_of_ble_eq_true rfl)
  have hx := X.1
  have hb := X.2.1
  have hl : lv_has ls 2 [(0, .ref (a i)), (1, .int pa)] := hl
  unfold fX9_no at h
  suffices HH : ∀ (H : Heap) (locs : List Loc), mH g s (wX9 g a i xs) (wX9 g a i xs) H locs → W p l e (rM 0 0) s m _ below meth c H locs 0 0 (mZ g below _ s (wX9 g a i xs) (wX9 g a i o.2) (some (.int o.1))) (F0 m 0 ls []) from HH _ _ hH
  clear hH
  intro H locs hH
  refine lv_iload_n hx hb dX9_no_0 rfl (lv_at hl 1 rfl) ?_
  refine lv_bipush (v := (-6 : Int32)) hx hb dX9_no_1 (by decide) ?_
  refine lv_icmp_lt (tgt := 17) hx hb dX9_no_3 (by decide) (fun c1 => ?_) (fun c1 => ?_)
  · have h := it_x h c1
    refine lv_iload_n hx hb dX9_no_17 rfl (lv_at hl 1 rfl) ?_
    have h := Option.some.inj h
    subst h
    exact e_i X hH dX9_no_18
  · have h := ie_x h c1
    refine lv_aload_n hx hb dX9_no_6 rfl (lv_at hl 0 rfl) ?_
    refine f_get X hH 0 rfl rfl 8 (by decide) inX9 fX9_32 rfl dX9_no_7 ?_
    refine lv_iload_n hx hb dX9_no_10 rfl (lv_at hl 1 rfl) ?_
    refine lv_ineg hx hb dX9_no_11 ?_
    refine lv_dup2_11 hx hb dX9_no_12 rfl rfl ?_
    obtain ⟨j1, ej1, hinj1, h⟩ := ga_x h
    refine a_il X hH 7 rfl hinj1 ej1 dX9_no_13 ?_
    refine lv_iconst (v := (1 : Int32)) hx hb dX9_no_14 (by decide) ?_
    refine lv_iadd hx hb dX9_no_15 ?_
    obtain ⟨v1, ev1, h⟩ := ltt_x h
    refine lv_topi (fun y0 e0 => ?_)
    rw [← ev1] at e0
    subst y0
    obtain ⟨j2, ej2, hinj2, h⟩ := ga_x h
    obtain ⟨xs1, exs1, h⟩ := ltt_x h
    refine a_is X hH (ws1 := (wX9 g a i xs1)) 7 rfl hinj2 ej2 (by rw [exs1]; rfl) dX9_no_16 (fun H locs hH => ?_)
    refine lv_iload_n hx hb dX9_no_17 rfl (lv_at hl 1 rfl) ?_
    have h := Option.some.inj h
    subst h
    exact e_i X hH dX9_no_18

def fX9_far (xs : SX9) (pa : Int32) : Option (Int64 × SX9) :=
  (fX9_no xs pa).bind fun o1 =>
  some (((4000000000000000000 : Int64) - (o1.1.toInt64)), o1.2)
set_option maxHeartbeats 4000000 in
set_option maxRecDepth 100000 in
theorem uX9_far {l : Launch} {g : GG} {a : Nat → Nat} {i : Nat} {xs : SX9} {pa : Int32} {o : (Int64 × SX9)} (h : fX9_far xs pa = some o) : mC l g yX9_far cX9_far 2 (some .long) (rM 1 21) [.ref (a i), .int pa] (wX9 g a i xs) (wX9 g a i o.2) (some (.long o.1)) := by
  refine mC.ofW (by decide) (fun p e s m below meth c X hH ls _ hl => ?_) (Nat.le_of_ble_eq_true rfl)
  have hx := X.1
  have hb := X.2.1
  have hl : lv_has ls 2 [(0, .ref (a i)), (1, .int pa)] := hl
  unfold fX9_far at h
  suffices HH : ∀ (H : Heap) (locs : List Loc), mH g s (wX9 g a i xs) (wX9 g a i xs) H locs → W p l e (rM 1 21) s m _ below meth c H locs 0 0 (mZ g below _ s (wX9 g a i xs) (wX9 g a i o.2) (some (.long o.1))) (F0 m 0 ls []) from HH _ _ hH
  clear hH
  intro H locs hH
  refine lv_ldc2 hx hb X.2.2.2.2.1 (X.2.2.2.2.2.1 _ nX9_123) dX9_far_0 ?_
  refine lv_aload_n hx hb dX9_far_3 rfl (lv_at hl 0 rfl) ?_
  refine lv_iload_n hx hb dX9_far_4 rfl (lv_at hl 1 rfl) ?_
  obtain ⟨o1, ho1, h⟩ := bd_x h
  refine r_V X hH (ws1 := (wX9 g a i o1.2)) (As := [.int pa]) (rest := [.long (4000000000000000000 : Int64)]) (st1 := [.int o1.1, .long (4000000000000000000 : Int64)]) (uX9_no (a := a) (i := i) ho1) kX9_no mX9_125 iX9_no vX9_no zX9 okX9_no ⟨Nat.le_of_ble_eq_true rfl, Nat.le_of_ble_eq_true rfl⟩ rfl rfl (q0 := 0) rfl rfl (pm_all _) (pm_all _) rfl hl.1 rfl (Nat.le_of_ble_eq_true rfl) ⟨Nat.le_refl 0, Nat.le_refl 0⟩ rfl dX9_far_5 (fun H locs hH => ?_)
  refine lv_i2l hx hb dX9_far_8 rfl ?_
  refine lv_lsub hx hb dX9_far_9 ?_
  have h := Option.some.inj h
  subst h
  exact e_l X hH dX9_far_10

def fX9_weightBy (pa : Int32) (pb : Int32) (pc_ : Int32) : Option Int32 :=
  (if pa = (1 : Int32) then
  some ((pc_ + (1 : Int32)) / (2 : Int32))
  else
  (if pa = (2 : Int32) then
  some ((2 : Int32) * pc_)
  else
  (if pa = (3 : Int32) then
  (if (1 : Int32) ≤ (((2 : Int32) * pc_) - pb) then
  some (((2 : Int32) * pc_) - pb)
  else
  some (1 : Int32))
  else
  (if pa = (4 : Int32) then
  some (((pc_ + (1 : Int32)) / (2 : Int32)) + (1 : Int32))
  else
  some pc_))))
set_option maxHeartbeats 4000000 in
set_option maxRecDepth 100000 in
theorem uX9_weightBy {l : Launch} {g : GG}  {pa : Int32} {pb : Int32} {pc_ : Int32} {o : Int32} (h : fX9_weightBy pa pb pc_ = some o) : mC l g yX9_weightBy cX9_weightBy 3 (some .int) (rM 0 0) [.int pa, .int pb, .int pc_] [] [] (some (.int o)) := by
  refine mC.ofW (by decide) (fun p e s m below meth c X hH ls _ hl => ?_) (Nat.le_of_ble_eq_true rfl)
  have hx := X.1
  have hb := X.2.1
  have hl : lv_has ls 3 [(0, .int pa), (1, .int pb), (2, .int pc_)] := hl
  unfold fX9_weightBy at h
  suffices HH : ∀ (H : Heap) (locs : List Loc), mH g s [] [] H locs → W p l e (rM 0 0) s m _ below meth c H locs 0 0 (mZ g below _ s [] [] (some (.int o))) (F0 m 0 ls []) from HH _ _ hH
  clear hH
  intro H locs hH
  refine lv_iload_n hx hb dX9_weightBy_0 rfl (lv_at hl 0 rfl) ?_
  rcases Classical.em (pa = (1 : Int32)) with c1 | c1
  · have h := it_x h c1
    refine lv_tableIn (tgt := 32) hx hb dX9_weightBy_1 (by rw [c1]; decide) (by rw [c1]; decide) (off := 31) (by rw [c1]; decide) (by decide) ?_
    refine lv_iload_n hx hb dX9_weightBy_32 rfl (lv_at hl 2 rfl) ?_
    refine lv_iconst (v := (1 : Int32)) hx hb dX9_weightBy_33 (by decide) ?_
    refine lv_iadd hx hb dX9_weightBy_34 ?_
    refine lv_iconst (v := (2 : Int32)) hx hb dX9_weightBy_35 (by decide) ?_
    refine lv_idiv hx hb dX9_weightBy_36 (by decide) ?_
    have h := Option.some.inj h
    subst h
    exact e_i X hH dX9_weightBy_37
  · have h := ie_x h c1
    rcases Classical.em (pa = (2 : Int32)) with c2 | c2
    · have h := it_x h c2
      refine lv_tableIn (tgt := 38) hx hb dX9_weightBy_1 (by rw [c2]; decide) (by rw [c2]; decide) (off := 37) (by rw [c2]; decide) (by decide) ?_
      refine lv_iconst (v := (2 : Int32)) hx hb dX9_weightBy_38 (by decide) ?_
      refine lv_iload_n hx hb dX9_weightBy_39 rfl (lv_at hl 2 rfl) ?_
      refine lv_imul hx hb dX9_weightBy_40 ?_
      have h := Option.some.inj h
      subst h
      exact e_i X hH dX9_weightBy_41
    · have h := ie_x h c2
      rcases Classical.em (pa = (3 : Int32)) with c3 | c3
      · have h := it_x h c3
        refine lv_tableIn (tgt := 42) hx hb dX9_weightBy_1 (by rw [c3]; decide) (by rw [c3]; decide) (off := 41) (by rw [c3]; decide) (by decide) ?_
        refine lv_iconst (v := (2 : Int32)) hx hb dX9_weightBy_42 (by decide) ?_
        refine lv_iload_n hx hb dX9_weightBy_43 rfl (lv_at hl 2 rfl) ?_
        refine lv_imul hx hb dX9_weightBy_44 ?_
        refine lv_iload_n hx hb dX9_weightBy_45 rfl (lv_at hl 1 rfl) ?_
        refine lv_isub hx hb dX9_weightBy_46 ?_
        refine lv_iconst (v := (1 : Int32)) hx hb dX9_weightBy_47 (by decide) ?_
        refine lv_icmp_ge (tgt := 55) hx hb dX9_weightBy_48 (by decide) (fun c5 => ?_) (fun c5 => ?_)
        · have h := it_x h c5
          refine lv_iconst (v := (2 : Int32)) hx hb dX9_weightBy_55 (by decide) ?_
          refine lv_iload_n hx hb dX9_weightBy_56 rfl (lv_at hl 2 rfl) ?_
          refine lv_imul hx hb dX9_weightBy_57 ?_
          refine lv_iload_n hx hb dX9_weightBy_58 rfl (lv_at hl 1 rfl) ?_
          refine lv_isub hx hb dX9_weightBy_59 ?_
          have h := Option.some.inj h
          subst h
          exact e_i X hH dX9_weightBy_60
        · have h := ie_x h c5
          refine lv_iconst (v := (1 : Int32)) hx hb dX9_weightBy_51 (by decide) ?_
          refine lv_goto (tgt := 60) hx hb dX9_weightBy_52 (by decide) ?_
          have h := Option.some.inj h
          subst h
          exact e_i X hH dX9_weightBy_60
      · have h := ie_x h c3
        rcases Classical.em (pa = (4 : Int32)) with c4 | c4
        · have h := it_x h c4
          refine lv_tableIn (tgt := 61) hx hb dX9_weightBy_1 (by rw [c4]; decide) (by rw [c4]; decide) (off := 60) (by rw [c4]; decide) (by decide) ?_
          refine lv_iload_n hx hb dX9_weightBy_61 rfl (lv_at hl 2 rfl) ?_
          refine lv_iconst (v := (1 : Int32)) hx hb dX9_weightBy_62 (by decide) ?_
          refine lv_iadd hx hb dX9_weightBy_63 ?_
          refine lv_iconst (v := (2 : Int32)) hx hb dX9_weightBy_64 (by decide) ?_
          refine lv_idiv hx hb dX9_weightBy_65 (by decide) ?_
          refine lv_iconst (v := (1 : Int32)) hx hb dX9_weightBy_66 (by decide) ?_
          refine lv_iadd hx hb dX9_weightBy_67 ?_
          have h := Option.some.inj h
          subst h
          exact e_i X hH dX9_weightBy_68
        · have h := ie_x h c4
          refine lv_tableOut (tgt := 69) hx hb dX9_weightBy_1 (tsw_1_4 (c1) (c2) (c3) (c4)) (by decide) ?_
          refine lv_iload_n hx hb dX9_weightBy_69 rfl (lv_at hl 2 rfl) ?_
          have h := Option.some.inj h
          subst h
          exact e_i X hH dX9_weightBy_70

def fX9_weight (xs : SX9) (pa : Int32) : Option Int32 :=
  ga 11 pa fun j1 =>
  ga 11 pa fun j2 =>
  ga 11 pa fun j3 =>
  (fX9_weightBy ((m_kind xs) j1) ((m_figure xs) j2) ((m_load xs) j3)).bind fun o1 =>
  some o1
set_option maxHeartbeats 4000000 in
set_option maxRecDepth 100000 in
theorem uX9_weight {l : Launch} {g : GG} {a : Nat → Nat} {i : Nat} {xs : SX9} {pa : Int32} {o : Int32} (h : fX9_weight xs pa = some o) : mC l g yX9_weight cX9_weight 2 (some .int) (rM 1 22) [.ref (a i), .int pa] (wX9 g a i xs) (wX9 g a i xs) (some (.int o)) := by
  refine mC.ofW (by decide) (fun p e s m below meth c X hH ls _ hl => ?_) (Nat.le_of_ble_eq_true rfl)
  have hx := X.1
  have hb := X.2.1
  have hl : lv_has ls 2 [(0, .ref (a i)), (1, .int pa)] := hl
  unfold fX9_weight at h
  suffices HH : ∀ (H : Heap) (locs : List Loc), mH g s (wX9 g a i xs) (wX9 g a i xs) H locs → W p l e (rM 1 22) s m _ below meth c H locs 0 0 (mZ g below _ s (wX9 g a i xs) (wX9 g a i xs) (some (.int o))) (F0 m 0 ls []) from HH _ _ hH
  clear hH
  intro H locs hH
  refine lv_aload_n hx hb dX9_weight_0 rfl (lv_at hl 0 rfl) ?_
  refine f_get X hH 0 rfl rfl 4 (by decide) inX9 fX9_20 rfl dX9_weight_1 ?_
  refine lv_iload_n hx hb dX9_weight_4 rfl (lv_at hl 1 rfl) ?_
  obtain ⟨j1, ej1, hinj1, h⟩ := ga_x h
  refine a_il X hH 3 rfl hinj1 ej1 dX9_weight_5 ?_
  refine lv_aload_n hx hb dX9_weight_6 rfl (lv_at hl 0 rfl) ?_
  refine f_get X hH 0 rfl rfl 5 (by decide) inX9 fX9_23 rfl dX9_weight_7 ?_
  refine lv_iload_n hx hb dX9_weight_10 rfl (lv_at hl 1 rfl) ?_
  obtain ⟨j2, ej2, hinj2, h⟩ := ga_x h
  refine a_il X hH 4 rfl hinj2 ej2 dX9_weight_11 ?_
  refine lv_aload_n hx hb dX9_weight_12 rfl (lv_at hl 0 rfl) ?_
  refine f_get X hH 0 rfl rfl 6 (by decide) inX9 fX9_26 rfl dX9_weight_13 ?_
  refine lv_iload_n hx hb dX9_weight_16 rfl (lv_at hl 1 rfl) ?_
  obtain ⟨j3, ej3, hinj3, h⟩ := ga_x h
  refine a_il X hH 5 rfl hinj3 ej3 dX9_weight_17 ?_
  obtain ⟨o1, ho1, h⟩ := bd_x h
  refine r_S X hH (ws1 := (wX9 g a i xs)) (As := [.int ((m_kind xs) j1), .int ((m_figure xs) j2), .int ((m_load xs) j3)]) (rest := []) (st1 := [.int o1]) (uX9_weightBy  ho1) kX9_weightBy mX9_129 sX9_weightBy zX9 okX9_weightBy ⟨Nat.le_of_ble_eq_true rfl, Nat.le_of_ble_eq_true rfl⟩ rfl rfl (pm_none _) (pm_none _) rfl hl.1 rfl (Nat.le_of_ble_eq_true rfl) ⟨Nat.le_refl 0, Nat.le_refl 0⟩ rfl dX9_weight_18 (fun H locs hH => ?_)
  have h := Option.some.inj h
  subst h
  exact e_i X hH dX9_weight_21

def qX9_minutes_47 (xs : SX9) (pa : Int32)   : Option Int32 :=
  ga 11 pa fun j3 =>
  ga 11 pa fun j4 =>
  some (((m_length xs) j3) + ((m_figure xs) j4))
def qX9_minutes_36 (xs : SX9) (pa : Int32)   : Option Int32 :=
  ga 11 pa fun j5 =>
  some ((((m_length xs) j5) + (1 : Int32)) / (2 : Int32))
def fX9_minutes (xs : SX9) (pa : Int32) : Option Int32 :=
  ga 11 pa fun j1 =>
  (if ((m_kind xs) j1) = (2 : Int32) then
  qX9_minutes_36 xs pa 
  else
  (if ((m_kind xs) j1) = (3 : Int32) then
  qX9_minutes_36 xs pa 
  else
  (if ((m_kind xs) j1) = (4 : Int32) then
  qX9_minutes_47 xs pa 
  else
  (if ((m_kind xs) j1) = (5 : Int32) then
  qX9_minutes_47 xs pa 
  else
  ga 11 pa fun j2 =>
  some ((m_length xs) j2)))))
set_option maxHeartbeats 4000000 in
set_option maxRecDepth 100000 in
theorem pX9_minutes_47 {p : Program} {l : Launch} {e : Env} {s : State} {m : MethodId} {args : Array Value} {below : List Frame} {meth : Method} {c : Code} {g : GG} {w0 : va_W} {a : Nat → Nat} {i : Nat} {xs : SX9} {pa : Int32} {o : Int32} (X : mX g yX9_minutes cX9_minutes 2 (some .int) p s m args meth c w0) :
  ∀  (H : Heap) (locs : List Loc) (ls : Array Slot), qX9_minutes_47 xs pa = some o → mH g s w0 (wX9 g a i xs) H locs → lv_has ls 2 [(0, .ref (a i)), (1, .int pa)] → W p l e (rM 0 0) s m args below meth c H locs 0 0 (mZ g below args s w0 (wX9 g a i xs) (some (.int o))) (F0 m 47 ls []) := by
  have hx := X.1
  have hb := X.2.1
  intro  H locs ls h hH hl
  unfold qX9_minutes_47 at h
  refine lv_aload_n hx hb dX9_minutes_47 rfl (lv_at hl 0 rfl) ?_
  refine f_get X hH 0 rfl rfl 7 (by decide) inX9 fX9_29 rfl dX9_minutes_48 ?_
  refine lv_iload_n hx hb dX9_minutes_51 rfl (lv_at hl 1 rfl) ?_
  obtain ⟨j3, ej3, hinj3, h⟩ := ga_x h
  refine a_il X hH 6 rfl hinj3 ej3 dX9_minutes_52 ?_
  refine lv_aload_n hx hb dX9_minutes_53 rfl (lv_at hl 0 rfl) ?_
  refine f_get X hH 0 rfl rfl 5 (by decide) inX9 fX9_23 rfl dX9_minutes_54 ?_
  refine lv_iload_n hx hb dX9_minutes_57 rfl (lv_at hl 1 rfl) ?_
  obtain ⟨j4, ej4, hinj4, h⟩ := ga_x h
  refine a_il X hH 4 rfl hinj4 ej4 dX9_minutes_58 ?_
  refine lv_iadd hx hb dX9_minutes_59 ?_
  have h := Option.some.inj h
  subst h
  exact e_i X hH dX9_minutes_60
set_option maxHeartbeats 4000000 in
set_option maxRecDepth 100000 in
theorem pX9_minutes_36 {p : Program} {l : Launch} {e : Env} {s : State} {m : MethodId} {args : Array Value} {below : List Frame} {meth : Method} {c : Code} {g : GG} {w0 : va_W} {a : Nat → Nat} {i : Nat} {xs : SX9} {pa : Int32} {o : Int32} (X : mX g yX9_minutes cX9_minutes 2 (some .int) p s m args meth c w0) :
  ∀  (H : Heap) (locs : List Loc) (ls : Array Slot), qX9_minutes_36 xs pa = some o → mH g s w0 (wX9 g a i xs) H locs → lv_has ls 2 [(0, .ref (a i)), (1, .int pa)] → W p l e (rM 0 0) s m args below meth c H locs 0 0 (mZ g below args s w0 (wX9 g a i xs) (some (.int o))) (F0 m 36 ls []) := by
  have hx := X.1
  have hb := X.2.1
  intro  H locs ls h hH hl
  unfold qX9_minutes_36 at h
  refine lv_aload_n hx hb dX9_minutes_36 rfl (lv_at hl 0 rfl) ?_
  refine f_get X hH 0 rfl rfl 7 (by decide) inX9 fX9_29 rfl dX9_minutes_37 ?_
  refine lv_iload_n hx hb dX9_minutes_40 rfl (lv_at hl 1 rfl) ?_
  obtain ⟨j5, ej5, hinj5, h⟩ := ga_x h
  refine a_il X hH 6 rfl hinj5 ej5 dX9_minutes_41 ?_
  refine lv_iconst (v := (1 : Int32)) hx hb dX9_minutes_42 (by decide) ?_
  refine lv_iadd hx hb dX9_minutes_43 ?_
  refine lv_iconst (v := (2 : Int32)) hx hb dX9_minutes_44 (by decide) ?_
  refine lv_idiv hx hb dX9_minutes_45 (by decide) ?_
  have h := Option.some.inj h
  subst h
  exact e_i X hH dX9_minutes_46
set_option maxHeartbeats 4000000 in
set_option maxRecDepth 100000 in
theorem uX9_minutes {l : Launch} {g : GG} {a : Nat → Nat} {i : Nat} {xs : SX9} {pa : Int32} {o : Int32} (h : fX9_minutes xs pa = some o) : mC l g yX9_minutes cX9_minutes 2 (some .int) (rM 0 0) [.ref (a i), .int pa] (wX9 g a i xs) (wX9 g a i xs) (some (.int o)) := by
  refine mC.ofW (by decide) (fun p e s m below meth c X hH ls _ hl => ?_) (Nat.le_of_ble_eq_true rfl)
  have hx := X.1
  have hb := X.2.1
  have hl : lv_has ls 2 [(0, .ref (a i)), (1, .int pa)] := hl
  unfold fX9_minutes at h
  suffices HH : ∀ (H : Heap) (locs : List Loc), mH g s (wX9 g a i xs) (wX9 g a i xs) H locs → W p l e (rM 0 0) s m _ below meth c H locs 0 0 (mZ g below _ s (wX9 g a i xs) (wX9 g a i xs) (some (.int o))) (F0 m 0 ls []) from HH _ _ hH
  clear hH
  intro H locs hH
  refine lv_aload_n hx hb dX9_minutes_0 rfl (lv_at hl 0 rfl) ?_
  refine f_get X hH 0 rfl rfl 4 (by decide) inX9 fX9_20 rfl dX9_minutes_1 ?_
  refine lv_iload_n hx hb dX9_minutes_4 rfl (lv_at hl 1 rfl) ?_
  obtain ⟨j1, ej1, hinj1, h⟩ := ga_x h
  refine a_il X hH 3 rfl hinj1 ej1 dX9_minutes_5 ?_
  rcases Classical.em (((m_kind xs) j1) = (2 : Int32)) with c1 | c1
  · have h := it_x h c1
    refine lv_tableIn (tgt := 36) hx hb dX9_minutes_6 (by rw [c1]; decide) (by rw [c1]; decide) (off := 30) (by rw [c1]; decide) (by decide) ?_
    exact pX9_minutes_36 X   H locs ls h hH (lv_sub hl [0, 1] rfl)
  · have h := ie_x h c1
    rcases Classical.em (((m_kind xs) j1) = (3 : Int32)) with c2 | c2
    · have h := it_x h c2
      refine lv_tableIn (tgt := 36) hx hb dX9_minutes_6 (by rw [c2]; decide) (by rw [c2]; decide) (off := 30) (by rw [c2]; decide) (by decide) ?_
      exact pX9_minutes_36 X   H locs ls h hH (lv_sub hl [0, 1] rfl)
    · have h := ie_x h c2
      rcases Classical.em (((m_kind xs) j1) = (4 : Int32)) with c3 | c3
      · have h := it_x h c3
        refine lv_tableIn (tgt := 47) hx hb dX9_minutes_6 (by rw [c3]; decide) (by rw [c3]; decide) (off := 41) (by rw [c3]; decide) (by decide) ?_
        exact pX9_minutes_47 X   H locs ls h hH (lv_sub hl [0, 1] rfl)
      · have h := ie_x h c3
        rcases Classical.em (((m_kind xs) j1) = (5 : Int32)) with c4 | c4
        · have h := it_x h c4
          refine lv_tableIn (tgt := 47) hx hb dX9_minutes_6 (by rw [c4]; decide) (by rw [c4]; decide) (off := 41) (by rw [c4]; decide) (by decide) ?_
          exact pX9_minutes_47 X   H locs ls h hH (lv_sub hl [0, 1] rfl)
        · have h := ie_x h c4
          refine lv_tableOut (tgt := 61) hx hb dX9_minutes_6 (tsw_2_5 (c1) (c2) (c3) (c4)) (by decide) ?_
          refine lv_aload_n hx hb dX9_minutes_61 rfl (lv_at hl 0 rfl) ?_
          refine f_get X hH 0 rfl rfl 7 (by decide) inX9 fX9_29 rfl dX9_minutes_62 ?_
          refine lv_iload_n hx hb dX9_minutes_65 rfl (lv_at hl 1 rfl) ?_
          obtain ⟨j2, ej2, hinj2, h⟩ := ga_x h
          refine a_il X hH 6 rfl hinj2 ej2 dX9_minutes_66 ?_
          have h := Option.some.inj h
          subst h
          exact e_i X hH dX9_minutes_67

def fX9_shifts (xs : SX9) (pa : Int32) (pb : Int32) : Option SX9 :=
  ga 11 pb fun j1 =>
  ltt (((m_first xs) j1)) fun v1 =>
  ga 11 pa fun j2 =>
  ltt ((m_first_s xs (upd (m_first xs) j2 v1))) fun xs1 =>
  ga 11 pb fun j3 =>
  ltt (((m_second xs1) j3)) fun v2 =>
  ga 11 pa fun j4 =>
  ltt ((m_second_s xs1 (upd (m_second xs1) j4 v2))) fun xs2 =>
  ga 11 pb fun j5 =>
  ltt (((m_kind xs2) j5)) fun v3 =>
  ga 11 pa fun j6 =>
  ltt ((m_kind_s xs2 (upd (m_kind xs2) j6 v3))) fun xs3 =>
  ga 11 pb fun j7 =>
  ltt (((m_figure xs3) j7)) fun v4 =>
  ga 11 pa fun j8 =>
  ltt ((m_figure_s xs3 (upd (m_figure xs3) j8 v4))) fun xs4 =>
  ga 11 pb fun j9 =>
  ltt (((m_load xs4) j9)) fun v5 =>
  ga 11 pa fun j10 =>
  ltt ((m_load_s xs4 (upd (m_load xs4) j10 v5))) fun xs5 =>
  ga 11 pb fun j11 =>
  ltt (((m_length xs5) j11)) fun v6 =>
  ga 11 pa fun j12 =>
  ltt ((m_length_s xs5 (upd (m_length xs5) j12 v6))) fun xs6 =>
  some xs6
set_option maxHeartbeats 4000000 in
set_option maxRecDepth 100000 in
theorem uX9_shifts {l : Launch} {g : GG} {a : Nat → Nat} {i : Nat} {xs : SX9} {pa : Int32} {pb : Int32} {o : SX9} (h : fX9_shifts xs pa pb = some o) : mC l g yX9_shifts cX9_shifts 3 none (rM 0 0) [.ref (a i), .int pa, .int pb] (wX9 g a i xs) (wX9 g a i o) none := by
  refine mC.ofW (by decide) (fun p e s m below meth c X hH ls _ hl => ?_) (Nat.le_of_ble_eq_true rfl)
  have hx := X.1
  have hb := X.2.1
  have hl : lv_has ls 3 [(0, .ref (a i)), (1, .int pa), (2, .int pb)] := hl
  unfold fX9_shifts at h
  suffices HH : ∀ (H : Heap) (locs : List Loc), mH g s (wX9 g a i xs) (wX9 g a i xs) H locs → W p l e (rM 0 0) s m _ below meth c H locs 0 0 (mZ g below _ s (wX9 g a i xs) (wX9 g a i o) none) (F0 m 0 ls []) from HH _ _ hH
  clear hH
  intro H locs hH
  refine lv_aload_n hx hb dX9_shifts_0 rfl (lv_at hl 0 rfl) ?_
  refine f_get X hH 0 rfl rfl 2 (by decide) inX9 fX9_13 rfl dX9_shifts_1 ?_
  refine lv_iload_n hx hb dX9_shifts_4 rfl (lv_at hl 1 rfl) ?_
  refine lv_aload_n hx hb dX9_shifts_5 rfl (lv_at hl 0 rfl) ?_
  refine f_get X hH 0 rfl rfl 2 (by decide) inX9 fX9_13 rfl dX9_shifts_6 ?_
  refine lv_iload_n hx hb dX9_shifts_9 rfl (lv_at hl 2 rfl) ?_
  obtain ⟨j1, ej1, hinj1, h⟩ := ga_x h
  refine a_il X hH 1 rfl hinj1 ej1 dX9_shifts_10 ?_
  obtain ⟨v1, ev1, h⟩ := ltt_x h
  refine lv_topi (fun y0 e0 => ?_)
  rw [← ev1] at e0
  subst y0
  obtain ⟨j2, ej2, hinj2, h⟩ := ga_x h
  obtain ⟨xs1, exs1, h⟩ := ltt_x h
  refine a_is X hH (ws1 := (wX9 g a i xs1)) 1 rfl hinj2 ej2 (by rw [exs1]; rfl) dX9_shifts_11 (fun H locs hH => ?_)
  refine lv_aload_n hx hb dX9_shifts_12 rfl (lv_at hl 0 rfl) ?_
  refine f_get X hH 0 rfl rfl 3 (by decide) inX9 fX9_17 rfl dX9_shifts_13 ?_
  refine lv_iload_n hx hb dX9_shifts_16 rfl (lv_at hl 1 rfl) ?_
  refine lv_aload_n hx hb dX9_shifts_17 rfl (lv_at hl 0 rfl) ?_
  refine f_get X hH 0 rfl rfl 3 (by decide) inX9 fX9_17 rfl dX9_shifts_18 ?_
  refine lv_iload_n hx hb dX9_shifts_21 rfl (lv_at hl 2 rfl) ?_
  obtain ⟨j3, ej3, hinj3, h⟩ := ga_x h
  refine a_il X hH 2 rfl hinj3 ej3 dX9_shifts_22 ?_
  obtain ⟨v2, ev2, h⟩ := ltt_x h
  refine lv_topi (fun y0 e0 => ?_)
  rw [← ev2] at e0
  subst y0
  obtain ⟨j4, ej4, hinj4, h⟩ := ga_x h
  obtain ⟨xs2, exs2, h⟩ := ltt_x h
  refine a_is X hH (ws1 := (wX9 g a i xs2)) 2 rfl hinj4 ej4 (by rw [exs2]; rfl) dX9_shifts_23 (fun H locs hH => ?_)
  refine lv_aload_n hx hb dX9_shifts_24 rfl (lv_at hl 0 rfl) ?_
  refine f_get X hH 0 rfl rfl 4 (by decide) inX9 fX9_20 rfl dX9_shifts_25 ?_
  refine lv_iload_n hx hb dX9_shifts_28 rfl (lv_at hl 1 rfl) ?_
  refine lv_aload_n hx hb dX9_shifts_29 rfl (lv_at hl 0 rfl) ?_
  refine f_get X hH 0 rfl rfl 4 (by decide) inX9 fX9_20 rfl dX9_shifts_30 ?_
  refine lv_iload_n hx hb dX9_shifts_33 rfl (lv_at hl 2 rfl) ?_
  obtain ⟨j5, ej5, hinj5, h⟩ := ga_x h
  refine a_il X hH 3 rfl hinj5 ej5 dX9_shifts_34 ?_
  obtain ⟨v3, ev3, h⟩ := ltt_x h
  refine lv_topi (fun y0 e0 => ?_)
  rw [← ev3] at e0
  subst y0
  obtain ⟨j6, ej6, hinj6, h⟩ := ga_x h
  obtain ⟨xs3, exs3, h⟩ := ltt_x h
  refine a_is X hH (ws1 := (wX9 g a i xs3)) 3 rfl hinj6 ej6 (by rw [exs3]; rfl) dX9_shifts_35 (fun H locs hH => ?_)
  refine lv_aload_n hx hb dX9_shifts_36 rfl (lv_at hl 0 rfl) ?_
  refine f_get X hH 0 rfl rfl 5 (by decide) inX9 fX9_23 rfl dX9_shifts_37 ?_
  refine lv_iload_n hx hb dX9_shifts_40 rfl (lv_at hl 1 rfl) ?_
  refine lv_aload_n hx hb dX9_shifts_41 rfl (lv_at hl 0 rfl) ?_
  refine f_get X hH 0 rfl rfl 5 (by decide) inX9 fX9_23 rfl dX9_shifts_42 ?_
  refine lv_iload_n hx hb dX9_shifts_45 rfl (lv_at hl 2 rfl) ?_
  obtain ⟨j7, ej7, hinj7, h⟩ := ga_x h
  refine a_il X hH 4 rfl hinj7 ej7 dX9_shifts_46 ?_
  obtain ⟨v4, ev4, h⟩ := ltt_x h
  refine lv_topi (fun y0 e0 => ?_)
  rw [← ev4] at e0
  subst y0
  obtain ⟨j8, ej8, hinj8, h⟩ := ga_x h
  obtain ⟨xs4, exs4, h⟩ := ltt_x h
  refine a_is X hH (ws1 := (wX9 g a i xs4)) 4 rfl hinj8 ej8 (by rw [exs4]; rfl) dX9_shifts_47 (fun H locs hH => ?_)
  refine lv_aload_n hx hb dX9_shifts_48 rfl (lv_at hl 0 rfl) ?_
  refine f_get X hH 0 rfl rfl 6 (by decide) inX9 fX9_26 rfl dX9_shifts_49 ?_
  refine lv_iload_n hx hb dX9_shifts_52 rfl (lv_at hl 1 rfl) ?_
  refine lv_aload_n hx hb dX9_shifts_53 rfl (lv_at hl 0 rfl) ?_
  refine f_get X hH 0 rfl rfl 6 (by decide) inX9 fX9_26 rfl dX9_shifts_54 ?_
  refine lv_iload_n hx hb dX9_shifts_57 rfl (lv_at hl 2 rfl) ?_
  obtain ⟨j9, ej9, hinj9, h⟩ := ga_x h
  refine a_il X hH 5 rfl hinj9 ej9 dX9_shifts_58 ?_
  obtain ⟨v5, ev5, h⟩ := ltt_x h
  refine lv_topi (fun y0 e0 => ?_)
  rw [← ev5] at e0
  subst y0
  obtain ⟨j10, ej10, hinj10, h⟩ := ga_x h
  obtain ⟨xs5, exs5, h⟩ := ltt_x h
  refine a_is X hH (ws1 := (wX9 g a i xs5)) 5 rfl hinj10 ej10 (by rw [exs5]; rfl) dX9_shifts_59 (fun H locs hH => ?_)
  refine lv_aload_n hx hb dX9_shifts_60 rfl (lv_at hl 0 rfl) ?_
  refine f_get X hH 0 rfl rfl 7 (by decide) inX9 fX9_29 rfl dX9_shifts_61 ?_
  refine lv_iload_n hx hb dX9_shifts_64 rfl (lv_at hl 1 rfl) ?_
  refine lv_aload_n hx hb dX9_shifts_65 rfl (lv_at hl 0 rfl) ?_
  refine f_get X hH 0 rfl rfl 7 (by decide) inX9 fX9_29 rfl dX9_shifts_66 ?_
  refine lv_iload_n hx hb dX9_shifts_69 rfl (lv_at hl 2 rfl) ?_
  obtain ⟨j11, ej11, hinj11, h⟩ := ga_x h
  refine a_il X hH 6 rfl hinj11 ej11 dX9_shifts_70 ?_
  obtain ⟨v6, ev6, h⟩ := ltt_x h
  refine lv_topi (fun y0 e0 => ?_)
  rw [← ev6] at e0
  subst y0
  obtain ⟨j12, ej12, hinj12, h⟩ := ga_x h
  obtain ⟨xs6, exs6, h⟩ := ltt_x h
  refine a_is X hH (ws1 := (wX9 g a i xs6)) 6 rfl hinj12 ej12 (by rw [exs6]; rfl) dX9_shifts_71 (fun H locs hH => ?_)
  have h := Option.some.inj h
  subst h
  exact e_v X hH dX9_shifts_72

def qX9_loses_12 (pa : Int32)  : Nat → SX9 → Int32 → Option SX9
  | 0, _, _ => none
  | fu + 1, xs, l2 =>
  (if (m_many xs) ≤ l2 then
  some xs
  else
  (fX9_shifts xs l2 (l2 + (1 : Int32))).bind fun o1 =>
  ltt (l2 + (1 : Int32)) fun v2 =>
  qX9_loses_12 pa  fu o1 v2)
def fX9_loses (xs : SX9) (pa : Int32) : Option SX9 :=
  ltt (((m_many xs) - (1 : Int32))) fun v1 =>
  ltt ((m_many_s xs v1)) fun xs1 =>
  qX9_loses_12 pa FU xs1 pa
set_option maxHeartbeats 4000000 in
set_option maxRecDepth 100000 in
theorem pX9_loses_12 {p : Program} {l : Launch} {e : Env} {s : State} {m : MethodId} {args : Array Value} {below : List Frame} {meth : Method} {c : Code} {g : GG} {w0 : va_W} {a : Nat → Nat} {i : Nat} {pa : Int32} {o : SX9} (X : mX g yX9_loses cX9_loses 3 none p s m args meth c w0) :
  ∀ (fu : Nat) (xs : SX9) (l2 : Int32) (H : Heap) (locs : List Loc) (ls : Array Slot), qX9_loses_12 pa fu xs l2 = some o → mH g s w0 (wX9 g a i xs) H locs → lv_has ls 3 [(0, .ref (a i)), (1, .int pa), (2, .int l2)] → W p l e (rM 1 22) s m args below meth c H locs 0 0 (mZ g below args s w0 (wX9 g a i o) none) (F0 m 12 ls []) := by
  have hx := X.1
  have hb := X.2.1
  intro fu
  induction fu with
  | zero =>
    intro xs l2 H locs ls h
    unfold qX9_loses_12 at h
    cases h
  | succ fu ih =>
    intro xs l2 H locs ls h hH hl
    unfold qX9_loses_12 at h
    refine lv_iload_n hx hb dX9_loses_12 rfl (lv_at hl 2 rfl) ?_
    refine lv_aload_n hx hb dX9_loses_13 rfl (lv_at hl 0 rfl) ?_
    refine f_get X hH 0 rfl rfl 1 (by decide) inX9 fX9_120 rfl dX9_loses_14 ?_
    refine lv_icmp_ge (tgt := 34) hx hb dX9_loses_17 (by decide) (fun c1 => ?_) (fun c1 => ?_)
    · have h := it_x h c1
      have h := Option.some.inj h
      subst h
      exact e_v X hH dX9_loses_34
    · have h := ie_x h c1
      refine lv_aload_n hx hb dX9_loses_20 rfl (lv_at hl 0 rfl) ?_
      refine lv_iload_n hx hb dX9_loses_21 rfl (lv_at hl 2 rfl) ?_
      refine lv_iload_n hx hb dX9_loses_22 rfl (lv_at hl 2 rfl) ?_
      refine lv_iconst (v := (1 : Int32)) hx hb dX9_loses_23 (by decide) ?_
      refine lv_iadd hx hb dX9_loses_24 ?_
      obtain ⟨o1, ho1, h⟩ := bd_x h
      refine r_V X hH (ws1 := (wX9 g a i o1)) (As := [.int l2, .int (l2 + (1 : Int32))]) (rest := []) (st1 := []) (uX9_shifts (a := a) (i := i) ho1) kX9_shifts mX9_133 iX9_shifts vX9_shifts zX9 okX9_shifts ⟨Nat.le_of_ble_eq_true rfl, Nat.le_of_ble_eq_true rfl⟩ rfl rfl (q0 := 0) rfl rfl (pm_all _) (pm_all _) rfl hl.1 rfl (Nat.le_of_ble_eq_true rfl) ⟨Nat.le_refl 0, Nat.le_refl 0⟩ rfl dX9_loses_25 (fun H locs hH => ?_)
      obtain ⟨v2, ev2, h⟩ := ltt_x h
      refine s_inc X (k := 2) (lv' := [(2, .int v2), (0, .ref (a i)), (1, .int pa)]) hl rfl (by rw [ev2]; rfl) dX9_loses_28 (by decide) rfl (fun ls hl => ?_)
      refine lv_goto (tgt := 12) hx hb dX9_loses_31 (by decide) ?_
      exact ih o1 v2 H locs ls h hH (lv_sub hl [1, 2, 0] rfl)
set_option maxHeartbeats 4000000 in
set_option maxRecDepth 100000 in
theorem uX9_loses {l : Launch} {g : GG} {a : Nat → Nat} {i : Nat} {xs : SX9} {pa : Int32} {o : SX9} (h : fX9_loses xs pa = some o) : mC l g yX9_loses cX9_loses 3 none (rM 1 22) [.ref (a i), .int pa] (wX9 g a i xs) (wX9 g a i o) none := by
  refine mC.ofW (by decide) (fun p e s m below meth c X hH ls _ hl => ?_) (Nat.le_of_ble_eq_true rfl)
  have hx := X.1
  have hb := X.2.1
  have hl : lv_has ls 3 [(0, .ref (a i)), (1, .int pa)] := hl
  unfold fX9_loses at h
  suffices HH : ∀ (H : Heap) (locs : List Loc), mH g s (wX9 g a i xs) (wX9 g a i xs) H locs → W p l e (rM 1 22) s m _ below meth c H locs 0 0 (mZ g below _ s (wX9 g a i xs) (wX9 g a i o) none) (F0 m 0 ls []) from HH _ _ hH
  clear hH
  intro H locs hH
  refine lv_aload_n hx hb dX9_loses_0 rfl (lv_at hl 0 rfl) ?_
  refine lv_dup hx hb dX9_loses_1 rfl ?_
  refine f_get X hH 0 rfl rfl 1 (by decide) inX9 fX9_120 rfl dX9_loses_2 ?_
  refine lv_iconst (v := (1 : Int32)) hx hb dX9_loses_5 (by decide) ?_
  refine lv_isub hx hb dX9_loses_6 ?_
  obtain ⟨v1, ev1, h⟩ := ltt_x h
  refine lv_topi (fun y0 e0 => ?_)
  rw [← ev1] at e0
  subst y0
  obtain ⟨xs1, exs1, h⟩ := ltt_x h
  refine f_put X hH (ws1 := (wX9 g a i xs1)) 0 rfl rfl 1 (by decide) inX9 tyX9 tyX9_ok nmX9 fX9_120 rfl rfl rfl (Nat.le_of_ble_eq_true rfl) (by rw [exs1]; rfl) dX9_loses_7 (fun H locs hH => ?_)
  refine lv_iload_n hx hb dX9_loses_10 rfl (lv_at hl 1 rfl) ?_
  refine s_in X (lv' := [(2, .int pa), (0, .ref (a i)), (1, .int pa)]) hl rfl dX9_loses_11 rfl (by decide) rfl (fun ls hl => ?_)
  exact pX9_loses_12 X FU xs1 pa H locs ls h hH (lv_sub hl [1, 2, 0] rfl)

def qX9_becomes_36 (pa : Int32) (k41 : SX9 → Int32 → Option SX9) (xs : SX9) (l2 : Int32) : Option SX9 :=
  (fX9_loses xs l2).bind fun o1 =>
  k41 o1 l2
def qX9_becomes_41 (pa : Int32) (k12 : SX9 → Int32 → Option SX9) (xs : SX9) (l2 : Int32) : Option SX9 :=
  ltt (l2 + (-1 : Int32)) fun v2 =>
  k12 xs v2
def qX9_becomes_12 (pa : Int32)  : Nat → SX9 → Int32 → Option SX9
  | 0, _, _ => none
  | fu + 1, xs, l2 =>
  (if l2 < (0 : Int32) then
  some xs
  else
  ga 11 l2 fun j1 =>
  (if pa ≤ ((m_first xs) j1) then
  qX9_becomes_36 pa (qX9_becomes_41 pa (qX9_becomes_12 pa  fu)) xs l2
  else
  ga 11 l2 fun j2 =>
  (if ((m_second xs) j2) < pa then
  qX9_becomes_41 pa (qX9_becomes_12 pa  fu) xs l2
  else
  qX9_becomes_36 pa (qX9_becomes_41 pa (qX9_becomes_12 pa  fu)) xs l2)))
def fX9_becomes (xs : SX9) (pa : Int32) : Option SX9 :=
  ltt ((m_points_s xs pa)) fun xs1 =>
  ltt (((m_many xs1) - (1 : Int32))) fun v1 =>
  qX9_becomes_12 pa FU xs1 v1
set_option maxHeartbeats 4000000 in
set_option maxRecDepth 100000 in
theorem pX9_becomes_36 {p : Program} {l : Launch} {e : Env} {s : State} {m : MethodId} {args : Array Value} {below : List Frame} {meth : Method} {c : Code} {g : GG} {w0 : va_W} {a : Nat → Nat} {i : Nat} {pa : Int32} {o : SX9} (X : mX g yX9_becomes cX9_becomes 3 none p s m args meth c w0)
  {k41 : SX9 → Int32 → Option SX9} (K41 : ∀ (xs : SX9) (l2 : Int32) (H : Heap) (locs : List Loc) (ls : Array Slot), k41 xs l2 = some o → mH g s w0 (wX9 g a i xs) H locs → lv_has ls 3 [(0, .ref (a i)), (1, .int pa), (2, .int l2)] → W p l e (rM 2 44) s m args below meth c H locs 0 0 (mZ g below args s w0 (wX9 g a i o) none) (F0 m 41 ls [])) :
  ∀ (xs : SX9) (l2 : Int32) (H : Heap) (locs : List Loc) (ls : Array Slot), qX9_becomes_36 pa k41 xs l2 = some o → mH g s w0 (wX9 g a i xs) H locs → lv_has ls 3 [(0, .ref (a i)), (1, .int pa), (2, .int l2)] → W p l e (rM 2 44) s m args below meth c H locs 0 0 (mZ g below args s w0 (wX9 g a i o) none) (F0 m 36 ls []) := by
  have hx := X.1
  have hb := X.2.1
  intro xs l2 H locs ls h hH hl
  unfold qX9_becomes_36 at h
  refine lv_aload_n hx hb dX9_becomes_36 rfl (lv_at hl 0 rfl) ?_
  refine lv_iload_n hx hb dX9_becomes_37 rfl (lv_at hl 2 rfl) ?_
  obtain ⟨o1, ho1, h⟩ := bd_x h
  refine r_V X hH (ws1 := (wX9 g a i o1)) (As := [.int l2]) (rest := []) (st1 := []) (uX9_loses (a := a) (i := i) ho1) kX9_loses mX9_137 iX9_loses vX9_loses zX9 okX9_loses ⟨Nat.le_of_ble_eq_true rfl, Nat.le_of_ble_eq_true rfl⟩ rfl rfl (q0 := 0) rfl rfl (pm_all _) (pm_all _) rfl hl.1 rfl (Nat.le_of_ble_eq_true rfl) ⟨Nat.le_refl 0, Nat.le_refl 0⟩ rfl dX9_becomes_38 (fun H locs hH => ?_)
  exact K41 o1 l2 H locs ls h hH (lv_sub hl [0, 1, 2] rfl)
set_option maxHeartbeats 4000000 in
set_option maxRecDepth 100000 in
theorem pX9_becomes_41 {p : Program} {l : Launch} {e : Env} {s : State} {m : MethodId} {args : Array Value} {below : List Frame} {meth : Method} {c : Code} {g : GG} {w0 : va_W} {a : Nat → Nat} {i : Nat} {pa : Int32} {o : SX9} (X : mX g yX9_becomes cX9_becomes 3 none p s m args meth c w0)
  {k12 : SX9 → Int32 → Option SX9} (K12 : ∀ (xs : SX9) (l2 : Int32) (H : Heap) (locs : List Loc) (ls : Array Slot), k12 xs l2 = some o → mH g s w0 (wX9 g a i xs) H locs → lv_has ls 3 [(0, .ref (a i)), (1, .int pa), (2, .int l2)] → W p l e (rM 2 44) s m args below meth c H locs 0 0 (mZ g below args s w0 (wX9 g a i o) none) (F0 m 12 ls [])) :
  ∀ (xs : SX9) (l2 : Int32) (H : Heap) (locs : List Loc) (ls : Array Slot), qX9_becomes_41 pa k12 xs l2 = some o → mH g s w0 (wX9 g a i xs) H locs → lv_has ls 3 [(0, .ref (a i)), (1, .int pa), (2, .int l2)] → W p l e (rM 2 44) s m args below meth c H locs 0 0 (mZ g below args s w0 (wX9 g a i o) none) (F0 m 41 ls []) := by
  have hx := X.1
  have hb := X.2.1
  intro xs l2 H locs ls h hH hl
  unfold qX9_becomes_41 at h
  obtain ⟨v2, ev2, h⟩ := ltt_x h
  refine s_inc X (k := 2) (lv' := [(2, .int v2), (0, .ref (a i)), (1, .int pa)]) hl rfl (by rw [ev2]; rfl) dX9_becomes_41 (by decide) rfl (fun ls hl => ?_)
  refine lv_goto (tgt := 12) hx hb dX9_becomes_44 (by decide) ?_
  exact K12 xs v2 H locs ls h hH (lv_sub hl [1, 2, 0] rfl)
set_option maxHeartbeats 4000000 in
set_option maxRecDepth 100000 in
theorem pX9_becomes_12 {p : Program} {l : Launch} {e : Env} {s : State} {m : MethodId} {args : Array Value} {below : List Frame} {meth : Method} {c : Code} {g : GG} {w0 : va_W} {a : Nat → Nat} {i : Nat} {pa : Int32} {o : SX9} (X : mX g yX9_becomes cX9_becomes 3 none p s m args meth c w0) :
  ∀ (fu : Nat) (xs : SX9) (l2 : Int32) (H : Heap) (locs : List Loc) (ls : Array Slot), qX9_becomes_12 pa fu xs l2 = some o → mH g s w0 (wX9 g a i xs) H locs → lv_has ls 3 [(0, .ref (a i)), (1, .int pa), (2, .int l2)] → W p l e (rM 2 44) s m args below meth c H locs 0 0 (mZ g below args s w0 (wX9 g a i o) none) (F0 m 12 ls []) := by
  have hx := X.1
  have hb := X.2.1
  intro fu
  induction fu with
  | zero =>
    intro xs l2 H locs ls h
    unfold qX9_becomes_12 at h
    cases h
  | succ fu ih =>
    intro xs l2 H locs ls h hH hl
    unfold qX9_becomes_12 at h
    refine lv_iload_n hx hb dX9_becomes_12 rfl (lv_at hl 2 rfl) ?_
    refine lv_if_lt (tgt := 47) hx hb dX9_becomes_13 (by decide) (fun c1 => ?_) (fun c1 => ?_)
    · have h := it_x h c1
      have h := Option.some.inj h
      subst h
      exact e_v X hH dX9_becomes_47
    · have h := ie_x h c1
      refine lv_aload_n hx hb dX9_becomes_16 rfl (lv_at hl 0 rfl) ?_
      refine f_get X hH 0 rfl rfl 2 (by decide) inX9 fX9_13 rfl dX9_becomes_17 ?_
      refine lv_iload_n hx hb dX9_becomes_20 rfl (lv_at hl 2 rfl) ?_
      obtain ⟨j1, ej1, hinj1, h⟩ := ga_x h
      refine a_il X hH 1 rfl hinj1 ej1 dX9_becomes_21 ?_
      refine lv_iload_n hx hb dX9_becomes_22 rfl (lv_at hl 1 rfl) ?_
      refine lv_icmp_ge (tgt := 36) hx hb dX9_becomes_23 (by decide) (fun c2 => ?_) (fun c2 => ?_)
      · have h := it_x h c2
        exact pX9_becomes_36 X (pX9_becomes_41 X ih) xs l2 H locs ls h hH (lv_sub hl [0, 1, 2] rfl)
      · have h := ie_x h c2
        refine lv_aload_n hx hb dX9_becomes_26 rfl (lv_at hl 0 rfl) ?_
        refine f_get X hH 0 rfl rfl 3 (by decide) inX9 fX9_17 rfl dX9_becomes_27 ?_
        refine lv_iload_n hx hb dX9_becomes_30 rfl (lv_at hl 2 rfl) ?_
        obtain ⟨j2, ej2, hinj2, h⟩ := ga_x h
        refine a_il X hH 2 rfl hinj2 ej2 dX9_becomes_31 ?_
        refine lv_iload_n hx hb dX9_becomes_32 rfl (lv_at hl 1 rfl) ?_
        refine lv_icmp_lt (tgt := 41) hx hb dX9_becomes_33 (by decide) (fun c3 => ?_) (fun c3 => ?_)
        · have h := it_x h c3
          exact pX9_becomes_41 X ih xs l2 H locs ls h hH (lv_sub hl [0, 1, 2] rfl)
        · have h := ie_x h c3
          exact pX9_becomes_36 X (pX9_becomes_41 X ih) xs l2 H locs ls h hH (lv_sub hl [0, 1, 2] rfl)
set_option maxHeartbeats 4000000 in
set_option maxRecDepth 100000 in
theorem uX9_becomes {l : Launch} {g : GG} {a : Nat → Nat} {i : Nat} {xs : SX9} {pa : Int32} {o : SX9} (h : fX9_becomes xs pa = some o) : mC l g yX9_becomes cX9_becomes 3 none (rM 2 44) [.ref (a i), .int pa] (wX9 g a i xs) (wX9 g a i o) none := by
  refine mC.ofW (by decide) (fun p e s m below meth c X hH ls _ hl => ?_) (Nat.le_of_ble_eq_true rfl)
  have hx := X.1
  have hb := X.2.1
  have hl : lv_has ls 3 [(0, .ref (a i)), (1, .int pa)] := hl
  unfold fX9_becomes at h
  suffices HH : ∀ (H : Heap) (locs : List Loc), mH g s (wX9 g a i xs) (wX9 g a i xs) H locs → W p l e (rM 2 44) s m _ below meth c H locs 0 0 (mZ g below _ s (wX9 g a i xs) (wX9 g a i o) none) (F0 m 0 ls []) from HH _ _ hH
  clear hH
  intro H locs hH
  refine lv_aload_n hx hb dX9_becomes_0 rfl (lv_at hl 0 rfl) ?_
  refine lv_iload_n hx hb dX9_becomes_1 rfl (lv_at hl 1 rfl) ?_
  obtain ⟨xs1, exs1, h⟩ := ltt_x h
  refine f_put X hH (ws1 := (wX9 g a i xs1)) 0 rfl rfl 0 (by decide) inX9 tyX9 tyX9_ok nmX9 fX9_7 rfl rfl rfl (Nat.le_of_ble_eq_true rfl) (by rw [exs1]; rfl) dX9_becomes_2 (fun H locs hH => ?_)
  refine lv_aload_n hx hb dX9_becomes_5 rfl (lv_at hl 0 rfl) ?_
  refine f_get X hH 0 rfl rfl 1 (by decide) inX9 fX9_120 rfl dX9_becomes_6 ?_
  refine lv_iconst (v := (1 : Int32)) hx hb dX9_becomes_9 (by decide) ?_
  refine lv_isub hx hb dX9_becomes_10 ?_
  obtain ⟨v1, ev1, h⟩ := ltt_x h
  refine s_in X (lv' := [(2, .int v1), (0, .ref (a i)), (1, .int pa)]) hl ev1 dX9_becomes_11 rfl (by decide) rfl (fun ls hl => ?_)
  exact pX9_becomes_12 X FU xs1 v1 H locs ls h hH (lv_sub hl [1, 2, 0] rfl)

def fX9_comes (xs : SX9) (pa : Int32) (pb : Int32) (pc_ : Int32) (pd : Int32) : Option SX9 :=
  ga 11 (m_many xs) fun j1 =>
  ltt ((m_first_s xs (upd (m_first xs) j1 pa))) fun xs1 =>
  ga 11 (m_many xs1) fun j2 =>
  ltt ((m_second_s xs1 (upd (m_second xs1) j2 pb))) fun xs2 =>
  ga 11 (m_many xs2) fun j3 =>
  ltt ((m_kind_s xs2 (upd (m_kind xs2) j3 (0 : Int32)))) fun xs3 =>
  ga 11 (m_many xs3) fun j4 =>
  ltt ((m_figure_s xs3 (upd (m_figure xs3) j4 (0 : Int32)))) fun xs4 =>
  ga 11 (m_many xs4) fun j5 =>
  ltt ((m_load_s xs4 (upd (m_load xs4) j5 pc_))) fun xs5 =>
  ga 11 (m_many xs5) fun j6 =>
  ltt ((m_length_s xs5 (upd (m_length xs5) j6 pd))) fun xs6 =>
  ltt (((m_many xs6) + (1 : Int32))) fun v1 =>
  ltt ((m_many_s xs6 v1)) fun xs7 =>
  some xs7
set_option maxHeartbeats 4000000 in
set_option maxRecDepth 100000 in
theorem uX9_comes {l : Launch} {g : GG} {a : Nat → Nat} {i : Nat} {xs : SX9} {pa : Int32} {pb : Int32} {pc_ : Int32} {pd : Int32} {o : SX9} (h : fX9_comes xs pa pb pc_ pd = some o) : mC l g yX9_comes cX9_comes 5 none (rM 0 0) [.ref (a i), .int pa, .int pb, .int pc_, .int pd] (wX9 g a i xs) (wX9 g a i o) none := by
  refine mC.ofW (by decide) (fun p e s m below meth c X hH ls _ hl => ?_) (Nat.le_of_ble_eq_true rfl)
  have hx := X.1
  have hb := X.2.1
  have hl : lv_has ls 5 [(0, .ref (a i)), (1, .int pa), (2, .int pb), (3, .int pc_), (4, .int pd)] := hl
  unfold fX9_comes at h
  suffices HH : ∀ (H : Heap) (locs : List Loc), mH g s (wX9 g a i xs) (wX9 g a i xs) H locs → W p l e (rM 0 0) s m _ below meth c H locs 0 0 (mZ g below _ s (wX9 g a i xs) (wX9 g a i o) none) (F0 m 0 ls []) from HH _ _ hH
  clear hH
  intro H locs hH
  refine lv_aload_n hx hb dX9_comes_0 rfl (lv_at hl 0 rfl) ?_
  refine f_get X hH 0 rfl rfl 2 (by decide) inX9 fX9_13 rfl dX9_comes_1 ?_
  refine lv_aload_n hx hb dX9_comes_4 rfl (lv_at hl 0 rfl) ?_
  refine f_get X hH 0 rfl rfl 1 (by decide) inX9 fX9_120 rfl dX9_comes_5 ?_
  refine lv_iload_n hx hb dX9_comes_8 rfl (lv_at hl 1 rfl) ?_
  obtain ⟨j1, ej1, hinj1, h⟩ := ga_x h
  obtain ⟨xs1, exs1, h⟩ := ltt_x h
  refine a_is X hH (ws1 := (wX9 g a i xs1)) 1 rfl hinj1 ej1 (by rw [exs1]; rfl) dX9_comes_9 (fun H locs hH => ?_)
  refine lv_aload_n hx hb dX9_comes_10 rfl (lv_at hl 0 rfl) ?_
  refine f_get X hH 0 rfl rfl 3 (by decide) inX9 fX9_17 rfl dX9_comes_11 ?_
  refine lv_aload_n hx hb dX9_comes_14 rfl (lv_at hl 0 rfl) ?_
  refine f_get X hH 0 rfl rfl 1 (by decide) inX9 fX9_120 rfl dX9_comes_15 ?_
  refine lv_iload_n hx hb dX9_comes_18 rfl (lv_at hl 2 rfl) ?_
  obtain ⟨j2, ej2, hinj2, h⟩ := ga_x h
  obtain ⟨xs2, exs2, h⟩ := ltt_x h
  refine a_is X hH (ws1 := (wX9 g a i xs2)) 2 rfl hinj2 ej2 (by rw [exs2]; rfl) dX9_comes_19 (fun H locs hH => ?_)
  refine lv_aload_n hx hb dX9_comes_20 rfl (lv_at hl 0 rfl) ?_
  refine f_get X hH 0 rfl rfl 4 (by decide) inX9 fX9_20 rfl dX9_comes_21 ?_
  refine lv_aload_n hx hb dX9_comes_24 rfl (lv_at hl 0 rfl) ?_
  refine f_get X hH 0 rfl rfl 1 (by decide) inX9 fX9_120 rfl dX9_comes_25 ?_
  refine lv_iconst (v := (0 : Int32)) hx hb dX9_comes_28 (by decide) ?_
  obtain ⟨j3, ej3, hinj3, h⟩ := ga_x h
  obtain ⟨xs3, exs3, h⟩ := ltt_x h
  refine a_is X hH (ws1 := (wX9 g a i xs3)) 3 rfl hinj3 ej3 (by rw [exs3]; rfl) dX9_comes_29 (fun H locs hH => ?_)
  refine lv_aload_n hx hb dX9_comes_30 rfl (lv_at hl 0 rfl) ?_
  refine f_get X hH 0 rfl rfl 5 (by decide) inX9 fX9_23 rfl dX9_comes_31 ?_
  refine lv_aload_n hx hb dX9_comes_34 rfl (lv_at hl 0 rfl) ?_
  refine f_get X hH 0 rfl rfl 1 (by decide) inX9 fX9_120 rfl dX9_comes_35 ?_
  refine lv_iconst (v := (0 : Int32)) hx hb dX9_comes_38 (by decide) ?_
  obtain ⟨j4, ej4, hinj4, h⟩ := ga_x h
  obtain ⟨xs4, exs4, h⟩ := ltt_x h
  refine a_is X hH (ws1 := (wX9 g a i xs4)) 4 rfl hinj4 ej4 (by rw [exs4]; rfl) dX9_comes_39 (fun H locs hH => ?_)
  refine lv_aload_n hx hb dX9_comes_40 rfl (lv_at hl 0 rfl) ?_
  refine f_get X hH 0 rfl rfl 6 (by decide) inX9 fX9_26 rfl dX9_comes_41 ?_
  refine lv_aload_n hx hb dX9_comes_44 rfl (lv_at hl 0 rfl) ?_
  refine f_get X hH 0 rfl rfl 1 (by decide) inX9 fX9_120 rfl dX9_comes_45 ?_
  refine lv_iload_n hx hb dX9_comes_48 rfl (lv_at hl 3 rfl) ?_
  obtain ⟨j5, ej5, hinj5, h⟩ := ga_x h
  obtain ⟨xs5, exs5, h⟩ := ltt_x h
  refine a_is X hH (ws1 := (wX9 g a i xs5)) 5 rfl hinj5 ej5 (by rw [exs5]; rfl) dX9_comes_49 (fun H locs hH => ?_)
  refine lv_aload_n hx hb dX9_comes_50 rfl (lv_at hl 0 rfl) ?_
  refine f_get X hH 0 rfl rfl 7 (by decide) inX9 fX9_29 rfl dX9_comes_51 ?_
  refine lv_aload_n hx hb dX9_comes_54 rfl (lv_at hl 0 rfl) ?_
  refine f_get X hH 0 rfl rfl 1 (by decide) inX9 fX9_120 rfl dX9_comes_55 ?_
  refine lv_iload hx hb dX9_comes_58 (lv_at hl 4 rfl) ?_
  obtain ⟨j6, ej6, hinj6, h⟩ := ga_x h
  obtain ⟨xs6, exs6, h⟩ := ltt_x h
  refine a_is X hH (ws1 := (wX9 g a i xs6)) 6 rfl hinj6 ej6 (by rw [exs6]; rfl) dX9_comes_60 (fun H locs hH => ?_)
  refine lv_aload_n hx hb dX9_comes_61 rfl (lv_at hl 0 rfl) ?_
  refine lv_dup hx hb dX9_comes_62 rfl ?_
  refine f_get X hH 0 rfl rfl 1 (by decide) inX9 fX9_120 rfl dX9_comes_63 ?_
  refine lv_iconst (v := (1 : Int32)) hx hb dX9_comes_66 (by decide) ?_
  refine lv_iadd hx hb dX9_comes_67 ?_
  obtain ⟨v1, ev1, h⟩ := ltt_x h
  refine lv_topi (fun y0 e0 => ?_)
  rw [← ev1] at e0
  subst y0
  obtain ⟨xs7, exs7, h⟩ := ltt_x h
  refine f_put X hH (ws1 := (wX9 g a i xs7)) 0 rfl rfl 1 (by decide) inX9 tyX9 tyX9_ok nmX9 fX9_120 rfl rfl rfl (Nat.le_of_ble_eq_true rfl) (by rw [exs7]; rfl) dX9_comes_68 (fun H locs hH => ?_)
  have h := Option.some.inj h
  subst h
  exact e_v X hH dX9_comes_71

def fX9_notPoints (xs : SX9) (pa : Int32) : Option Int32 :=
  (if (2 : Int32) ≤ pa then
  (if pa ≤ (6 : Int32) then
  some (0 : Int32)
  else
  some (-6 : Int32))
  else
  some (-4 : Int32))
set_option maxHeartbeats 4000000 in
set_option maxRecDepth 100000 in
theorem uX9_notPoints {l : Launch} {g : GG} {a : Nat → Nat} {i : Nat} {xs : SX9} {pa : Int32} {o : Int32} (h : fX9_notPoints xs pa = some o) : mC l g yX9_notPoints cX9_notPoints 2 (some .int) (rM 0 0) [.ref (a i), .int pa] (wX9 g a i xs) (wX9 g a i xs) (some (.int o)) := by
  refine mC.ofW (by decide) (fun p e s m below meth c X hH ls _ hl => ?_) (Nat.le_of_ble_eq_true rfl)
  have hx := X.1
  have hb := X.2.1
  have hl : lv_has ls 2 [(0, .ref (a i)), (1, .int pa)] := hl
  unfold fX9_notPoints at h
  suffices HH : ∀ (H : Heap) (locs : List Loc), mH g s (wX9 g a i xs) (wX9 g a i xs) H locs → W p l e (rM 0 0) s m _ below meth c H locs 0 0 (mZ g below _ s (wX9 g a i xs) (wX9 g a i xs) (some (.int o))) (F0 m 0 ls []) from HH _ _ hH
  clear hH
  intro H locs hH
  refine lv_iload_n hx hb dX9_notPoints_0 rfl (lv_at hl 1 rfl) ?_
  refine lv_iconst (v := (2 : Int32)) hx hb dX9_notPoints_1 (by decide) ?_
  refine lv_icmp_ge (tgt := 10) hx hb dX9_notPoints_2 (by decide) (fun c1 => ?_) (fun c1 => ?_)
  · have h := it_x h c1
    refine lv_iload_n hx hb dX9_notPoints_10 rfl (lv_at hl 1 rfl) ?_
    refine lv_bipush (v := (6 : Int32)) hx hb dX9_notPoints_11 (by decide) ?_
    refine lv_icmp_le (tgt := 21) hx hb dX9_notPoints_13 (by decide) (fun c2 => ?_) (fun c2 => ?_)
    · have h := it_x h c2
      refine lv_iconst (v := (0 : Int32)) hx hb dX9_notPoints_21 (by decide) ?_
      have h := Option.some.inj h
      subst h
      exact e_i X hH dX9_notPoints_22
    · have h := ie_x h c2
      refine lv_bipush (v := (-6 : Int32)) hx hb dX9_notPoints_16 (by decide) ?_
      refine lv_goto (tgt := 22) hx hb dX9_notPoints_18 (by decide) ?_
      have h := Option.some.inj h
      subst h
      exact e_i X hH dX9_notPoints_22
  · have h := ie_x h c1
    refine lv_bipush (v := (-4 : Int32)) hx hb dX9_notPoints_5 (by decide) ?_
    refine lv_goto (tgt := 22) hx hb dX9_notPoints_7 (by decide) ?_
    have h := Option.some.inj h
    subst h
    exact e_i X hH dX9_notPoints_22

def qX9_notWay_59 (xs : SX9) (pa : Int32) (pb : Int32) (pc_ : Int32) (pd : Int32)   : Option Int32 :=
  some (-6 : Int32)
def fX9_notWay (xs : SX9) (pa : Int32) (pb : Int32) (pc_ : Int32) (pd : Int32) : Option Int32 :=
  (fX9_isPoint xs pa).bind fun o1 =>
  (if o1 = (0 : Int32) then
  some (-1 : Int32)
  else
  (fX9_isPoint xs pb).bind fun o2 =>
  (if o2 = (0 : Int32) then
  some (-1 : Int32)
  else
  (if pa = pb then
  some (-1 : Int32)
  else
  (if pc_ < (1 : Int32) then
  some (-4 : Int32)
  else
  (if (1 : Int32) ≤ pd then
  (if (9 : Int32) < pc_ then
  qX9_notWay_59 xs pa pb pc_ pd 
  else
  (if (9 : Int32) < pd then
  qX9_notWay_59 xs pa pb pc_ pd 
  else
  (if (m_many xs) = (10 : Int32) then
  qX9_notWay_59 xs pa pb pc_ pd 
  else
  some (0 : Int32))))
  else
  some (-4 : Int32))))))
set_option maxHeartbeats 4000000 in
set_option maxRecDepth 100000 in
theorem pX9_notWay_59 {p : Program} {l : Launch} {e : Env} {s : State} {m : MethodId} {args : Array Value} {below : List Frame} {meth : Method} {c : Code} {g : GG} {w0 : va_W} {a : Nat → Nat} {i : Nat} {xs : SX9} {pa : Int32} {pb : Int32} {pc_ : Int32} {pd : Int32} {o : Int32} (X : mX g yX9_notWay cX9_notWay 5 (some .int) p s m args meth c w0) :
  ∀  (H : Heap) (locs : List Loc) (ls : Array Slot), qX9_notWay_59 xs pa pb pc_ pd = some o → mH g s w0 (wX9 g a i xs) H locs → lv_has ls 5 [(0, .ref (a i)), (1, .int pa), (2, .int pb), (3, .int pc_), (4, .int pd)] → W p l e (rM 2 46) s m args below meth c H locs 0 0 (mZ g below args s w0 (wX9 g a i xs) (some (.int o))) (F0 m 59 ls []) := by
  have hx := X.1
  have hb := X.2.1
  intro  H locs ls h hH hl
  unfold qX9_notWay_59 at h
  refine lv_bipush (v := (-6 : Int32)) hx hb dX9_notWay_59 (by decide) ?_
  refine lv_goto (tgt := 65) hx hb dX9_notWay_61 (by decide) ?_
  have h := Option.some.inj h
  subst h
  exact e_i X hH dX9_notWay_65
set_option maxHeartbeats 4000000 in
set_option maxRecDepth 100000 in
theorem uX9_notWay {l : Launch} {g : GG} {a : Nat → Nat} {i : Nat} {xs : SX9} {pa : Int32} {pb : Int32} {pc_ : Int32} {pd : Int32} {o : Int32} (h : fX9_notWay xs pa pb pc_ pd = some o) : mC l g yX9_notWay cX9_notWay 5 (some .int) (rM 2 46) [.ref (a i), .int pa, .int pb, .int pc_, .int pd] (wX9 g a i xs) (wX9 g a i xs) (some (.int o)) := by
  refine mC.ofW (by decide) (fun p e s m below meth c X hH ls _ hl => ?_) (Nat.le_of_ble_eq_true rfl)
  have hx := X.1
  have hb := X.2.1
  have hl : lv_has ls 5 [(0, .ref (a i)), (1, .int pa), (2, .int pb), (3, .int pc_), (4, .int pd)] := hl
  unfold fX9_notWay at h
  suffices HH : ∀ (H : Heap) (locs : List Loc), mH g s (wX9 g a i xs) (wX9 g a i xs) H locs → W p l e (rM 2 46) s m _ below meth c H locs 0 0 (mZ g below _ s (wX9 g a i xs) (wX9 g a i xs) (some (.int o))) (F0 m 0 ls []) from HH _ _ hH
  clear hH
  intro H locs hH
  refine lv_aload_n hx hb dX9_notWay_0 rfl (lv_at hl 0 rfl) ?_
  refine lv_iload_n hx hb dX9_notWay_1 rfl (lv_at hl 1 rfl) ?_
  obtain ⟨o1, ho1, h⟩ := bd_x h
  refine r_V X hH (ws1 := (wX9 g a i xs)) (As := [.int pa]) (rest := []) (st1 := [.int o1]) (uX9_isPoint (a := a) (i := i) ho1) kX9_isPoint mX9_141 iX9_isPoint vX9_isPoint zX9 okX9_isPoint ⟨Nat.le_of_ble_eq_true rfl, Nat.le_of_ble_eq_true rfl⟩ rfl rfl (q0 := 0) rfl rfl (pm_all _) (pm_all _) rfl hl.1 rfl (Nat.le_of_ble_eq_true rfl) ⟨Nat.le_refl 0, Nat.le_refl 0⟩ rfl dX9_notWay_2 (fun H locs hH => ?_)
  refine lv_if_eq (tgt := 21) hx hb dX9_notWay_5 (by decide) (fun c1 => ?_) (fun c1 => ?_)
  · have h := it_x h c1
    refine lv_iconst (v := (-1 : Int32)) hx hb dX9_notWay_21 (by decide) ?_
    have h := Option.some.inj h
    subst h
    exact e_i X hH dX9_notWay_22
  · have h := ie_x h c1
    refine lv_aload_n hx hb dX9_notWay_8 rfl (lv_at hl 0 rfl) ?_
    refine lv_iload_n hx hb dX9_notWay_9 rfl (lv_at hl 2 rfl) ?_
    obtain ⟨o2, ho2, h⟩ := bd_x h
    refine r_V X hH (ws1 := (wX9 g a i xs)) (As := [.int pb]) (rest := []) (st1 := [.int o2]) (uX9_isPoint (a := a) (i := i) ho2) kX9_isPoint mX9_141 iX9_isPoint vX9_isPoint zX9 okX9_isPoint ⟨Nat.le_of_ble_eq_true rfl, Nat.le_of_ble_eq_true rfl⟩ rfl rfl (q0 := 0) rfl rfl (pm_all _) (pm_all _) rfl hl.1 rfl (Nat.le_of_ble_eq_true rfl) ⟨Nat.le_refl 0, Nat.le_refl 0⟩ rfl dX9_notWay_10 (fun H locs hH => ?_)
    refine lv_if_eq (tgt := 21) hx hb dX9_notWay_13 (by decide) (fun c2 => ?_) (fun c2 => ?_)
    · have h := it_x h c2
      refine lv_iconst (v := (-1 : Int32)) hx hb dX9_notWay_21 (by decide) ?_
      have h := Option.some.inj h
      subst h
      exact e_i X hH dX9_notWay_22
    · have h := ie_x h c2
      refine lv_iload_n hx hb dX9_notWay_16 rfl (lv_at hl 1 rfl) ?_
      refine lv_iload_n hx hb dX9_notWay_17 rfl (lv_at hl 2 rfl) ?_
      refine lv_icmp_ne (tgt := 23) hx hb dX9_notWay_18 (by decide) (fun c3 => ?_) (fun c3 => ?_)
      · have h := ie_x h c3
        refine lv_iload_n hx hb dX9_notWay_23 rfl (lv_at hl 3 rfl) ?_
        refine lv_iconst (v := (1 : Int32)) hx hb dX9_notWay_24 (by decide) ?_
        refine lv_icmp_lt (tgt := 34) hx hb dX9_notWay_25 (by decide) (fun c4 => ?_) (fun c4 => ?_)
        · have h := it_x h c4
          refine lv_bipush (v := (-4 : Int32)) hx hb dX9_notWay_34 (by decide) ?_
          have h := Option.some.inj h
          subst h
          exact e_i X hH dX9_notWay_36
        · have h := ie_x h c4
          refine lv_iload hx hb dX9_notWay_28 (lv_at hl 4 rfl) ?_
          refine lv_iconst (v := (1 : Int32)) hx hb dX9_notWay_30 (by decide) ?_
          refine lv_icmp_ge (tgt := 37) hx hb dX9_notWay_31 (by decide) (fun c5 => ?_) (fun c5 => ?_)
          · have h := it_x h c5
            refine lv_iload_n hx hb dX9_notWay_37 rfl (lv_at hl 3 rfl) ?_
            refine lv_bipush (v := (9 : Int32)) hx hb dX9_notWay_38 (by decide) ?_
            refine lv_icmp_gt (tgt := 59) hx hb dX9_notWay_40 (by decide) (fun c6 => ?_) (fun c6 => ?_)
            · have h := it_x h c6
              exact pX9_notWay_59 X   H locs ls h hH (lv_sub hl [0, 1, 2, 3, 4] rfl)
            · have h := ie_x h c6
              refine lv_iload hx hb dX9_notWay_43 (lv_at hl 4 rfl) ?_
              refine lv_bipush (v := (9 : Int32)) hx hb dX9_notWay_45 (by decide) ?_
              refine lv_icmp_gt (tgt := 59) hx hb dX9_notWay_47 (by decide) (fun c7 => ?_) (fun c7 => ?_)
              · have h := it_x h c7
                exact pX9_notWay_59 X   H locs ls h hH (lv_sub hl [0, 1, 2, 3, 4] rfl)
              · have h := ie_x h c7
                refine lv_aload_n hx hb dX9_notWay_50 rfl (lv_at hl 0 rfl) ?_
                refine f_get X hH 0 rfl rfl 1 (by decide) inX9 fX9_120 rfl dX9_notWay_51 ?_
                refine lv_bipush (v := (10 : Int32)) hx hb dX9_notWay_54 (by decide) ?_
                refine lv_icmp_ne (tgt := 64) hx hb dX9_notWay_56 (by decide) (fun c8 => ?_) (fun c8 => ?_)
                · have h := ie_x h c8
                  refine lv_iconst (v := (0 : Int32)) hx hb dX9_notWay_64 (by decide) ?_
                  have h := Option.some.inj h
                  subst h
                  exact e_i X hH dX9_notWay_65
                · have h := it_x h c8
                  exact pX9_notWay_59 X   H locs ls h hH (lv_sub hl [0, 1, 2, 3, 4] rfl)
          · have h := ie_x h c5
            refine lv_bipush (v := (-4 : Int32)) hx hb dX9_notWay_34 (by decide) ?_
            have h := Option.some.inj h
            subst h
            exact e_i X hH dX9_notWay_36
      · have h := it_x h c3
        refine lv_iconst (v := (-1 : Int32)) hx hb dX9_notWay_21 (by decide) ?_
        have h := Option.some.inj h
        subst h
        exact e_i X hH dX9_notWay_22

def fX9_notKind (xs : SX9) (pa : Int32) (pb : Int32) (pc_ : Int32) : Option Int32 :=
  (fX9_isWay xs pa).bind fun o1 =>
  (if o1 = (0 : Int32) then
  some (-1 : Int32)
  else
  (fX9_isIn (pb.toInt64) (0 : Int64) (5 : Int64)).bind fun o2 =>
  (if o2 = (0 : Int32) then
  some (-2 : Int32)
  else
  (if (0 : Int32) ≤ pc_ then
  (if pc_ ≤ (9 : Int32) then
  some (0 : Int32)
  else
  some (-6 : Int32))
  else
  some (-4 : Int32))))
set_option maxHeartbeats 4000000 in
set_option maxRecDepth 100000 in
theorem uX9_notKind {l : Launch} {g : GG} {a : Nat → Nat} {i : Nat} {xs : SX9} {pa : Int32} {pb : Int32} {pc_ : Int32} {o : Int32} (h : fX9_notKind xs pa pb pc_ = some o) : mC l g yX9_notKind cX9_notKind 4 (some .int) (rM 2 46) [.ref (a i), .int pa, .int pb, .int pc_] (wX9 g a i xs) (wX9 g a i xs) (some (.int o)) := by
  refine mC.ofW (by decide) (fun p e s m below meth c X hH ls _ hl => ?_) (Nat.le_of_ble_eq_true rfl)
  have hx := X.1
  have hb := X.2.1
  have hl : lv_has ls 4 [(0, .ref (a i)), (1, .int pa), (2, .int pb), (3, .int pc_)] := hl
  unfold fX9_notKind at h
  suffices HH : ∀ (H : Heap) (locs : List Loc), mH g s (wX9 g a i xs) (wX9 g a i xs) H locs → W p l e (rM 2 46) s m _ below meth c H locs 0 0 (mZ g below _ s (wX9 g a i xs) (wX9 g a i xs) (some (.int o))) (F0 m 0 ls []) from HH _ _ hH
  clear hH
  intro H locs hH
  refine lv_aload_n hx hb dX9_notKind_0 rfl (lv_at hl 0 rfl) ?_
  refine lv_iload_n hx hb dX9_notKind_1 rfl (lv_at hl 1 rfl) ?_
  obtain ⟨o1, ho1, h⟩ := bd_x h
  refine r_V X hH (ws1 := (wX9 g a i xs)) (As := [.int pa]) (rest := []) (st1 := [.int o1]) (uX9_isWay (a := a) (i := i) ho1) kX9_isWay mX9_145 iX9_isWay vX9_isWay zX9 okX9_isWay ⟨Nat.le_of_ble_eq_true rfl, Nat.le_of_ble_eq_true rfl⟩ rfl rfl (q0 := 0) rfl rfl (pm_all _) (pm_all _) rfl hl.1 rfl (Nat.le_of_ble_eq_true rfl) ⟨Nat.le_refl 0, Nat.le_refl 0⟩ rfl dX9_notKind_2 (fun H locs hH => ?_)
  refine lv_if_ne (tgt := 10) hx hb dX9_notKind_5 (by decide) (fun c1 => ?_) (fun c1 => ?_)
  · have h := ie_x h c1
    refine lv_iload_n hx hb dX9_notKind_10 rfl (lv_at hl 2 rfl) ?_
    refine lv_i2l hx hb dX9_notKind_11 rfl ?_
    refine lv_lconst (v := (0 : Int64)) hx hb dX9_notKind_12 (by decide) ?_
    refine lv_ldc2 hx hb X.2.2.2.2.1 (X.2.2.2.2.2.1 _ nX9_148) dX9_notKind_13 ?_
    obtain ⟨o2, ho2, h⟩ := bd_x h
    refine r_S X hH (ws1 := (wX9 g a i xs)) (As := [.long (pb.toInt64), .long (0 : Int64), .long (5 : Int64)]) (rest := []) (st1 := [.int o2]) (uX9_isIn  ho2) kX9_isIn mX9_116 sX9_isIn zX9 okX9_isIn ⟨Nat.le_of_ble_eq_true rfl, Nat.le_of_ble_eq_true rfl⟩ rfl rfl (pm_none _) (pm_none _) rfl hl.1 rfl (Nat.le_of_ble_eq_true rfl) ⟨Nat.le_refl 0, Nat.le_refl 0⟩ rfl dX9_notKind_16 (fun H locs hH => ?_)
    refine lv_if_ne (tgt := 25) hx hb dX9_notKind_19 (by decide) (fun c2 => ?_) (fun c2 => ?_)
    · have h := ie_x h c2
      refine lv_iload_n hx hb dX9_notKind_25 rfl (lv_at hl 3 rfl) ?_
      refine lv_if_ge (tgt := 34) hx hb dX9_notKind_26 (by decide) (fun c3 => ?_) (fun c3 => ?_)
      · have h := it_x h c3
        refine lv_iload_n hx hb dX9_notKind_34 rfl (lv_at hl 3 rfl) ?_
        refine lv_bipush (v := (9 : Int32)) hx hb dX9_notKind_35 (by decide) ?_
        refine lv_icmp_le (tgt := 45) hx hb dX9_notKind_37 (by decide) (fun c4 => ?_) (fun c4 => ?_)
        · have h := it_x h c4
          refine lv_iconst (v := (0 : Int32)) hx hb dX9_notKind_45 (by decide) ?_
          have h := Option.some.inj h
          subst h
          exact e_i X hH dX9_notKind_46
        · have h := ie_x h c4
          refine lv_bipush (v := (-6 : Int32)) hx hb dX9_notKind_40 (by decide) ?_
          refine lv_goto (tgt := 46) hx hb dX9_notKind_42 (by decide) ?_
          have h := Option.some.inj h
          subst h
          exact e_i X hH dX9_notKind_46
      · have h := ie_x h c3
        refine lv_bipush (v := (-4 : Int32)) hx hb dX9_notKind_29 (by decide) ?_
        refine lv_goto (tgt := 46) hx hb dX9_notKind_31 (by decide) ?_
        have h := Option.some.inj h
        subst h
        exact e_i X hH dX9_notKind_46
    · have h := it_x h c2
      refine lv_bipush (v := (-2 : Int32)) hx hb dX9_notKind_22 (by decide) ?_
      have h := Option.some.inj h
      subst h
      exact e_i X hH dX9_notKind_24
  · have h := it_x h c1
    refine lv_iconst (v := (-1 : Int32)) hx hb dX9_notKind_8 (by decide) ?_
    have h := Option.some.inj h
    subst h
    exact e_i X hH dX9_notKind_9

def fX9_notNumber (xs : SX9) (pa : Int32) (pb : Int32) : Option Int32 :=
  (fX9_isWay xs pa).bind fun o1 =>
  (if o1 = (0 : Int32) then
  some (-1 : Int32)
  else
  (if (1 : Int32) ≤ pb then
  (if pb ≤ (9 : Int32) then
  some (0 : Int32)
  else
  some (-6 : Int32))
  else
  some (-4 : Int32)))
set_option maxHeartbeats 4000000 in
set_option maxRecDepth 100000 in
theorem uX9_notNumber {l : Launch} {g : GG} {a : Nat → Nat} {i : Nat} {xs : SX9} {pa : Int32} {pb : Int32} {o : Int32} (h : fX9_notNumber xs pa pb = some o) : mC l g yX9_notNumber cX9_notNumber 3 (some .int) (rM 2 46) [.ref (a i), .int pa, .int pb] (wX9 g a i xs) (wX9 g a i xs) (some (.int o)) := by
  refine mC.ofW (by decide) (fun p e s m below meth c X hH ls _ hl => ?_) (Nat.le_of_ble_eq_true rfl)
  have hx := X.1
  have hb := X.2.1
  have hl : lv_has ls 3 [(0, .ref (a i)), (1, .int pa), (2, .int pb)] := hl
  unfold fX9_notNumber at h
  suffices HH : ∀ (H : Heap) (locs : List Loc), mH g s (wX9 g a i xs) (wX9 g a i xs) H locs → W p l e (rM 2 46) s m _ below meth c H locs 0 0 (mZ g below _ s (wX9 g a i xs) (wX9 g a i xs) (some (.int o))) (F0 m 0 ls []) from HH _ _ hH
  clear hH
  intro H locs hH
  refine lv_aload_n hx hb dX9_notNumber_0 rfl (lv_at hl 0 rfl) ?_
  refine lv_iload_n hx hb dX9_notNumber_1 rfl (lv_at hl 1 rfl) ?_
  obtain ⟨o1, ho1, h⟩ := bd_x h
  refine r_V X hH (ws1 := (wX9 g a i xs)) (As := [.int pa]) (rest := []) (st1 := [.int o1]) (uX9_isWay (a := a) (i := i) ho1) kX9_isWay mX9_145 iX9_isWay vX9_isWay zX9 okX9_isWay ⟨Nat.le_of_ble_eq_true rfl, Nat.le_of_ble_eq_true rfl⟩ rfl rfl (q0 := 0) rfl rfl (pm_all _) (pm_all _) rfl hl.1 rfl (Nat.le_of_ble_eq_true rfl) ⟨Nat.le_refl 0, Nat.le_refl 0⟩ rfl dX9_notNumber_2 (fun H locs hH => ?_)
  refine lv_if_ne (tgt := 12) hx hb dX9_notNumber_5 (by decide) (fun c1 => ?_) (fun c1 => ?_)
  · have h := ie_x h c1
    refine lv_iload_n hx hb dX9_notNumber_12 rfl (lv_at hl 2 rfl) ?_
    refine lv_iconst (v := (1 : Int32)) hx hb dX9_notNumber_13 (by decide) ?_
    refine lv_icmp_ge (tgt := 22) hx hb dX9_notNumber_14 (by decide) (fun c2 => ?_) (fun c2 => ?_)
    · have h := it_x h c2
      refine lv_iload_n hx hb dX9_notNumber_22 rfl (lv_at hl 2 rfl) ?_
      refine lv_bipush (v := (9 : Int32)) hx hb dX9_notNumber_23 (by decide) ?_
      refine lv_icmp_le (tgt := 33) hx hb dX9_notNumber_25 (by decide) (fun c3 => ?_) (fun c3 => ?_)
      · have h := it_x h c3
        refine lv_iconst (v := (0 : Int32)) hx hb dX9_notNumber_33 (by decide) ?_
        have h := Option.some.inj h
        subst h
        exact e_i X hH dX9_notNumber_34
      · have h := ie_x h c3
        refine lv_bipush (v := (-6 : Int32)) hx hb dX9_notNumber_28 (by decide) ?_
        refine lv_goto (tgt := 34) hx hb dX9_notNumber_30 (by decide) ?_
        have h := Option.some.inj h
        subst h
        exact e_i X hH dX9_notNumber_34
    · have h := ie_x h c2
      refine lv_bipush (v := (-4 : Int32)) hx hb dX9_notNumber_17 (by decide) ?_
      refine lv_goto (tgt := 34) hx hb dX9_notNumber_19 (by decide) ?_
      have h := Option.some.inj h
      subst h
      exact e_i X hH dX9_notNumber_34
  · have h := it_x h c1
    refine lv_iconst (v := (-1 : Int32)) hx hb dX9_notNumber_8 (by decide) ?_
    refine lv_goto (tgt := 34) hx hb dX9_notNumber_9 (by decide) ?_
    have h := Option.some.inj h
    subst h
    exact e_i X hH dX9_notNumber_34

def fX9_points (xs : SX9) (pa : Int32) : Option (Int32 × SX9) :=
  (fX9_notPoints xs pa).bind fun o1 =>
  (if o1 = (0 : Int32) then
  ltt ((m_points xs)) fun v1 =>
  (fX9_becomes xs pa).bind fun o2 =>
  some (v1, o2)
  else
  (fX9_no xs o1).bind fun o3 =>
  some (o3.1, o3.2))
set_option maxHeartbeats 4000000 in
set_option maxRecDepth 100000 in
theorem uX9_points {l : Launch} {g : GG} {a : Nat → Nat} {i : Nat} {xs : SX9} {pa : Int32} {o : (Int32 × SX9)} (h : fX9_points xs pa = some o) : mC l g yX9_points cX9_points 4 (some .int) (rM 3 66) [.ref (a i), .int pa] (wX9 g a i xs) (wX9 g a i o.2) (some (.int o.1)) := by
  refine mC.ofW (by decide) (fun p e s m below meth c X hH ls _ hl => ?_) (Nat.le_of_ble_eq_true rfl)
  have hx := X.1
  have hb := X.2.1
  have hl : lv_has ls 4 [(0, .ref (a i)), (1, .int pa)] := hl
  unfold fX9_points at h
  suffices HH : ∀ (H : Heap) (locs : List Loc), mH g s (wX9 g a i xs) (wX9 g a i xs) H locs → W p l e (rM 3 66) s m _ below meth c H locs 0 0 (mZ g below _ s (wX9 g a i xs) (wX9 g a i o.2) (some (.int o.1))) (F0 m 0 ls []) from HH _ _ hH
  clear hH
  intro H locs hH
  refine lv_aload_n hx hb dX9_points_0 rfl (lv_at hl 0 rfl) ?_
  refine lv_iload_n hx hb dX9_points_1 rfl (lv_at hl 1 rfl) ?_
  obtain ⟨o1, ho1, h⟩ := bd_x h
  refine r_V X hH (ws1 := (wX9 g a i xs)) (As := [.int pa]) (rest := []) (st1 := [.int o1]) (uX9_notPoints (a := a) (i := i) ho1) kX9_notPoints mX9_150 iX9_notPoints vX9_notPoints zX9 okX9_notPoints ⟨Nat.le_of_ble_eq_true rfl, Nat.le_of_ble_eq_true rfl⟩ rfl rfl (q0 := 0) rfl rfl (pm_all _) (pm_all _) rfl hl.1 rfl (Nat.le_of_ble_eq_true rfl) ⟨Nat.le_refl 0, Nat.le_refl 0⟩ rfl dX9_points_2 (fun H locs hH => ?_)
  refine s_in X (lv' := [(2, .int o1), (0, .ref (a i)), (1, .int pa)]) hl rfl dX9_points_5 rfl (by decide) rfl (fun ls hl => ?_)
  refine lv_iload_n hx hb dX9_points_6 rfl (lv_at hl 0 rfl) ?_
  refine lv_if_eq (tgt := 16) hx hb dX9_points_7 (by decide) (fun c1 => ?_) (fun c1 => ?_)
  · have h := it_x h c1
    refine lv_aload_n hx hb dX9_points_16 rfl (lv_at hl 1 rfl) ?_
    refine f_get X hH 0 rfl rfl 0 (by decide) inX9 fX9_7 rfl dX9_points_17 ?_
    obtain ⟨v1, ev1, h⟩ := ltt_x h
    refine s_in X (lv' := [(3, .int v1), (2, .int o1), (0, .ref (a i)), (1, .int pa)]) hl ev1 dX9_points_20 rfl (by decide) rfl (fun ls hl => ?_)
    refine lv_aload_n hx hb dX9_points_21 rfl (lv_at hl 2 rfl) ?_
    refine lv_iload_n hx hb dX9_points_22 rfl (lv_at hl 3 rfl) ?_
    obtain ⟨o2, ho2, h⟩ := bd_x h
    refine r_V X hH (ws1 := (wX9 g a i o2)) (As := [.int pa]) (rest := []) (st1 := []) (uX9_becomes (a := a) (i := i) ho2) kX9_becomes mX9_153 iX9_becomes vX9_becomes zX9 okX9_becomes ⟨Nat.le_of_ble_eq_true rfl, Nat.le_of_ble_eq_true rfl⟩ rfl rfl (q0 := 0) rfl rfl (pm_all _) (pm_all _) rfl hl.1 rfl (Nat.le_of_ble_eq_true rfl) ⟨Nat.le_refl 0, Nat.le_refl 0⟩ rfl dX9_points_23 (fun H locs hH => ?_)
    refine lv_iload_n hx hb dX9_points_26 rfl (lv_at hl 0 rfl) ?_
    have h := Option.some.inj h
    subst h
    exact e_i X hH dX9_points_27
  · have h := ie_x h c1
    refine lv_aload_n hx hb dX9_points_10 rfl (lv_at hl 1 rfl) ?_
    refine lv_iload_n hx hb dX9_points_11 rfl (lv_at hl 0 rfl) ?_
    obtain ⟨o3, ho3, h⟩ := bd_x h
    refine r_V X hH (ws1 := (wX9 g a i o3.2)) (As := [.int o1]) (rest := []) (st1 := [.int o3.1]) (uX9_no (a := a) (i := i) ho3) kX9_no mX9_125 iX9_no vX9_no zX9 okX9_no ⟨Nat.le_of_ble_eq_true rfl, Nat.le_of_ble_eq_true rfl⟩ rfl rfl (q0 := 0) rfl rfl (pm_all _) (pm_all _) rfl hl.1 rfl (Nat.le_of_ble_eq_true rfl) ⟨Nat.le_refl 0, Nat.le_refl 0⟩ rfl dX9_points_12 (fun H locs hH => ?_)
    have h := Option.some.inj h
    subst h
    exact e_i X hH dX9_points_15

def fX9_way (xs : SX9) (pa : Int32) (pb : Int32) (pc_ : Int32) (pd : Int32) : Option (Int32 × SX9) :=
  (fX9_notWay xs pa pb pc_ pd).bind fun o1 =>
  (if o1 = (0 : Int32) then
  (fX9_comes xs pa pb pc_ pd).bind fun o2 =>
  some (((m_many o2) - (1 : Int32)), o2)
  else
  (fX9_no xs o1).bind fun o3 =>
  some (o3.1, o3.2))
set_option maxHeartbeats 4000000 in
set_option maxRecDepth 100000 in
theorem uX9_way {l : Launch} {g : GG} {a : Nat → Nat} {i : Nat} {xs : SX9} {pa : Int32} {pb : Int32} {pc_ : Int32} {pd : Int32} {o : (Int32 × SX9)} (h : fX9_way xs pa pb pc_ pd = some o) : mC l g yX9_way cX9_way 6 (some .int) (rM 3 70) [.ref (a i), .int pa, .int pb, .int pc_, .int pd] (wX9 g a i xs) (wX9 g a i o.2) (some (.int o.1)) := by
  refine mC.ofW (by decide) (fun p e s m below meth c X hH ls _ hl => ?_) (Nat.le_of_ble_eq_true rfl)
  have hx := X.1
  have hb := X.2.1
  have hl : lv_has ls 6 [(0, .ref (a i)), (1, .int pa), (2, .int pb), (3, .int pc_), (4, .int pd)] := hl
  unfold fX9_way at h
  suffices HH : ∀ (H : Heap) (locs : List Loc), mH g s (wX9 g a i xs) (wX9 g a i xs) H locs → W p l e (rM 3 70) s m _ below meth c H locs 0 0 (mZ g below _ s (wX9 g a i xs) (wX9 g a i o.2) (some (.int o.1))) (F0 m 0 ls []) from HH _ _ hH
  clear hH
  intro H locs hH
  refine lv_aload_n hx hb dX9_way_0 rfl (lv_at hl 0 rfl) ?_
  refine lv_iload_n hx hb dX9_way_1 rfl (lv_at hl 1 rfl) ?_
  refine lv_iload_n hx hb dX9_way_2 rfl (lv_at hl 2 rfl) ?_
  refine lv_iload_n hx hb dX9_way_3 rfl (lv_at hl 3 rfl) ?_
  refine lv_iload hx hb dX9_way_4 (lv_at hl 4 rfl) ?_
  obtain ⟨o1, ho1, h⟩ := bd_x h
  refine r_V X hH (ws1 := (wX9 g a i xs)) (As := [.int pa, .int pb, .int pc_, .int pd]) (rest := []) (st1 := [.int o1]) (uX9_notWay (a := a) (i := i) ho1) kX9_notWay mX9_156 iX9_notWay vX9_notWay zX9 okX9_notWay ⟨Nat.le_of_ble_eq_true rfl, Nat.le_of_ble_eq_true rfl⟩ rfl rfl (q0 := 0) rfl rfl (pm_all _) (pm_all _) rfl hl.1 rfl (Nat.le_of_ble_eq_true rfl) ⟨Nat.le_refl 0, Nat.le_refl 0⟩ rfl dX9_way_6 (fun H locs hH => ?_)
  refine s_i X (lv' := [(5, .int o1), (0, .ref (a i)), (1, .int pa), (2, .int pb), (3, .int pc_), (4, .int pd)]) hl rfl dX9_way_9 (by decide) rfl (fun ls hl => ?_)
  refine lv_iload hx hb dX9_way_11 (lv_at hl 0 rfl) ?_
  refine lv_if_eq (tgt := 23) hx hb dX9_way_13 (by decide) (fun c1 => ?_) (fun c1 => ?_)
  · have h := it_x h c1
    refine lv_aload_n hx hb dX9_way_23 rfl (lv_at hl 1 rfl) ?_
    refine lv_iload_n hx hb dX9_way_24 rfl (lv_at hl 2 rfl) ?_
    refine lv_iload_n hx hb dX9_way_25 rfl (lv_at hl 3 rfl) ?_
    refine lv_iload_n hx hb dX9_way_26 rfl (lv_at hl 4 rfl) ?_
    refine lv_iload hx hb dX9_way_27 (lv_at hl 5 rfl) ?_
    obtain ⟨o2, ho2, h⟩ := bd_x h
    refine r_V X hH (ws1 := (wX9 g a i o2)) (As := [.int pa, .int pb, .int pc_, .int pd]) (rest := []) (st1 := []) (uX9_comes (a := a) (i := i) ho2) kX9_comes mX9_160 iX9_comes vX9_comes zX9 okX9_comes ⟨Nat.le_of_ble_eq_true rfl, Nat.le_of_ble_eq_true rfl⟩ rfl rfl (q0 := 0) rfl rfl (pm_all _) (pm_all _) rfl hl.1 rfl (Nat.le_of_ble_eq_true rfl) ⟨Nat.le_refl 0, Nat.le_refl 0⟩ rfl dX9_way_29 (fun H locs hH => ?_)
    refine lv_aload_n hx hb dX9_way_32 rfl (lv_at hl 1 rfl) ?_
    refine f_get X hH 0 rfl rfl 1 (by decide) inX9 fX9_120 rfl dX9_way_33 ?_
    refine lv_iconst (v := (1 : Int32)) hx hb dX9_way_36 (by decide) ?_
    refine lv_isub hx hb dX9_way_37 ?_
    have h := Option.some.inj h
    subst h
    exact e_i X hH dX9_way_38
  · have h := ie_x h c1
    refine lv_aload_n hx hb dX9_way_16 rfl (lv_at hl 1 rfl) ?_
    refine lv_iload hx hb dX9_way_17 (lv_at hl 0 rfl) ?_
    obtain ⟨o3, ho3, h⟩ := bd_x h
    refine r_V X hH (ws1 := (wX9 g a i o3.2)) (As := [.int o1]) (rest := []) (st1 := [.int o3.1]) (uX9_no (a := a) (i := i) ho3) kX9_no mX9_125 iX9_no vX9_no zX9 okX9_no ⟨Nat.le_of_ble_eq_true rfl, Nat.le_of_ble_eq_true rfl⟩ rfl rfl (q0 := 0) rfl rfl (pm_all _) (pm_all _) rfl hl.1 rfl (Nat.le_of_ble_eq_true rfl) ⟨Nat.le_refl 0, Nat.le_refl 0⟩ rfl dX9_way_19 (fun H locs hH => ?_)
    have h := Option.some.inj h
    subst h
    exact e_i X hH dX9_way_22

def fX9_kind (xs : SX9) (pa : Int32) (pb : Int32) (pc_ : Int32) : Option (Int32 × SX9) :=
  (fX9_notKind xs pa pb pc_).bind fun o1 =>
  (if o1 = (0 : Int32) then
  ga 11 pa fun j1 =>
  ga 11 pa fun j2 =>
  ltt ((((10 : Int32) * ((m_kind xs) j1)) + ((m_figure xs) j2))) fun v1 =>
  ga 11 pa fun j3 =>
  ltt ((m_kind_s xs (upd (m_kind xs) j3 pb))) fun xs1 =>
  ga 11 pa fun j4 =>
  ltt ((m_figure_s xs1 (upd (m_figure xs1) j4 pc_))) fun xs2 =>
  some (v1, xs2)
  else
  (fX9_no xs o1).bind fun o2 =>
  some (o2.1, o2.2))
set_option maxHeartbeats 4000000 in
set_option maxRecDepth 100000 in
theorem uX9_kind {l : Launch} {g : GG} {a : Nat → Nat} {i : Nat} {xs : SX9} {pa : Int32} {pb : Int32} {pc_ : Int32} {o : (Int32 × SX9)} (h : fX9_kind xs pa pb pc_ = some o) : mC l g yX9_kind cX9_kind 6 (some .int) (rM 3 69) [.ref (a i), .int pa, .int pb, .int pc_] (wX9 g a i xs) (wX9 g a i o.2) (some (.int o.1)) := by
  refine mC.ofW (by decide) (fun p e s m below meth c X hH ls _ hl => ?_) (Nat.le_of_ble_eq_true rfl)
  have hx := X.1
  have hb := X.2.1
  have hl : lv_has ls 6 [(0, .ref (a i)), (1, .int pa), (2, .int pb), (3, .int pc_)] := hl
  unfold fX9_kind at h
  suffices HH : ∀ (H : Heap) (locs : List Loc), mH g s (wX9 g a i xs) (wX9 g a i xs) H locs → W p l e (rM 3 69) s m _ below meth c H locs 0 0 (mZ g below _ s (wX9 g a i xs) (wX9 g a i o.2) (some (.int o.1))) (F0 m 0 ls []) from HH _ _ hH
  clear hH
  intro H locs hH
  refine lv_aload_n hx hb dX9_kind_0 rfl (lv_at hl 0 rfl) ?_
  refine lv_iload_n hx hb dX9_kind_1 rfl (lv_at hl 1 rfl) ?_
  refine lv_iload_n hx hb dX9_kind_2 rfl (lv_at hl 2 rfl) ?_
  refine lv_iload_n hx hb dX9_kind_3 rfl (lv_at hl 3 rfl) ?_
  obtain ⟨o1, ho1, h⟩ := bd_x h
  refine r_V X hH (ws1 := (wX9 g a i xs)) (As := [.int pa, .int pb, .int pc_]) (rest := []) (st1 := [.int o1]) (uX9_notKind (a := a) (i := i) ho1) kX9_notKind mX9_164 iX9_notKind vX9_notKind zX9 okX9_notKind ⟨Nat.le_of_ble_eq_true rfl, Nat.le_of_ble_eq_true rfl⟩ rfl rfl (q0 := 0) rfl rfl (pm_all _) (pm_all _) rfl hl.1 rfl (Nat.le_of_ble_eq_true rfl) ⟨Nat.le_refl 0, Nat.le_refl 0⟩ rfl dX9_kind_4 (fun H locs hH => ?_)
  refine s_i X (lv' := [(4, .int o1), (0, .ref (a i)), (1, .int pa), (2, .int pb), (3, .int pc_)]) hl rfl dX9_kind_7 (by decide) rfl (fun ls hl => ?_)
  refine lv_iload hx hb dX9_kind_9 (lv_at hl 0 rfl) ?_
  refine lv_if_eq (tgt := 21) hx hb dX9_kind_11 (by decide) (fun c1 => ?_) (fun c1 => ?_)
  · have h := it_x h c1
    refine lv_bipush (v := (10 : Int32)) hx hb dX9_kind_21 (by decide) ?_
    refine lv_aload_n hx hb dX9_kind_23 rfl (lv_at hl 1 rfl) ?_
    refine f_get X hH 0 rfl rfl 4 (by decide) inX9 fX9_20 rfl dX9_kind_24 ?_
    refine lv_iload_n hx hb dX9_kind_27 rfl (lv_at hl 2 rfl) ?_
    obtain ⟨j1, ej1, hinj1, h⟩ := ga_x h
    refine a_il X hH 3 rfl hinj1 ej1 dX9_kind_28 ?_
    refine lv_imul hx hb dX9_kind_29 ?_
    refine lv_aload_n hx hb dX9_kind_30 rfl (lv_at hl 1 rfl) ?_
    refine f_get X hH 0 rfl rfl 5 (by decide) inX9 fX9_23 rfl dX9_kind_31 ?_
    refine lv_iload_n hx hb dX9_kind_34 rfl (lv_at hl 2 rfl) ?_
    obtain ⟨j2, ej2, hinj2, h⟩ := ga_x h
    refine a_il X hH 4 rfl hinj2 ej2 dX9_kind_35 ?_
    refine lv_iadd hx hb dX9_kind_36 ?_
    obtain ⟨v1, ev1, h⟩ := ltt_x h
    refine s_i X (lv' := [(5, .int v1), (4, .int o1), (0, .ref (a i)), (1, .int pa), (2, .int pb), (3, .int pc_)]) hl ev1 dX9_kind_37 (by decide) rfl (fun ls hl => ?_)
    refine lv_aload_n hx hb dX9_kind_39 rfl (lv_at hl 2 rfl) ?_
    refine f_get X hH 0 rfl rfl 4 (by decide) inX9 fX9_20 rfl dX9_kind_40 ?_
    refine lv_iload_n hx hb dX9_kind_43 rfl (lv_at hl 3 rfl) ?_
    refine lv_iload_n hx hb dX9_kind_44 rfl (lv_at hl 4 rfl) ?_
    obtain ⟨j3, ej3, hinj3, h⟩ := ga_x h
    obtain ⟨xs1, exs1, h⟩ := ltt_x h
    refine a_is X hH (ws1 := (wX9 g a i xs1)) 3 rfl hinj3 ej3 (by rw [exs1]; rfl) dX9_kind_45 (fun H locs hH => ?_)
    refine lv_aload_n hx hb dX9_kind_46 rfl (lv_at hl 2 rfl) ?_
    refine f_get X hH 0 rfl rfl 5 (by decide) inX9 fX9_23 rfl dX9_kind_47 ?_
    refine lv_iload_n hx hb dX9_kind_50 rfl (lv_at hl 3 rfl) ?_
    refine lv_iload_n hx hb dX9_kind_51 rfl (lv_at hl 5 rfl) ?_
    obtain ⟨j4, ej4, hinj4, h⟩ := ga_x h
    obtain ⟨xs2, exs2, h⟩ := ltt_x h
    refine a_is X hH (ws1 := (wX9 g a i xs2)) 4 rfl hinj4 ej4 (by rw [exs2]; rfl) dX9_kind_52 (fun H locs hH => ?_)
    refine lv_iload hx hb dX9_kind_53 (lv_at hl 0 rfl) ?_
    have h := Option.some.inj h
    subst h
    exact e_i X hH dX9_kind_55
  · have h := ie_x h c1
    refine lv_aload_n hx hb dX9_kind_14 rfl (lv_at hl 1 rfl) ?_
    refine lv_iload hx hb dX9_kind_15 (lv_at hl 0 rfl) ?_
    obtain ⟨o2, ho2, h⟩ := bd_x h
    refine r_V X hH (ws1 := (wX9 g a i o2.2)) (As := [.int o1]) (rest := []) (st1 := [.int o2.1]) (uX9_no (a := a) (i := i) ho2) kX9_no mX9_125 iX9_no vX9_no zX9 okX9_no ⟨Nat.le_of_ble_eq_true rfl, Nat.le_of_ble_eq_true rfl⟩ rfl rfl (q0 := 0) rfl rfl (pm_all _) (pm_all _) rfl hl.1 rfl (Nat.le_of_ble_eq_true rfl) ⟨Nat.le_refl 0, Nat.le_refl 0⟩ rfl dX9_kind_17 (fun H locs hH => ?_)
    have h := Option.some.inj h
    subst h
    exact e_i X hH dX9_kind_20

def fX9_load (xs : SX9) (pa : Int32) (pb : Int32) : Option (Int32 × SX9) :=
  (fX9_notNumber xs pa pb).bind fun o1 =>
  (if o1 = (0 : Int32) then
  ga 11 pa fun j1 =>
  ltt (((m_load xs) j1)) fun v1 =>
  ga 11 pa fun j2 =>
  ltt ((m_load_s xs (upd (m_load xs) j2 pb))) fun xs1 =>
  some (v1, xs1)
  else
  (fX9_no xs o1).bind fun o2 =>
  some (o2.1, o2.2))
set_option maxHeartbeats 4000000 in
set_option maxRecDepth 100000 in
theorem uX9_load {l : Launch} {g : GG} {a : Nat → Nat} {i : Nat} {xs : SX9} {pa : Int32} {pb : Int32} {o : (Int32 × SX9)} (h : fX9_load xs pa pb = some o) : mC l g yX9_load cX9_load 5 (some .int) (rM 3 68) [.ref (a i), .int pa, .int pb] (wX9 g a i xs) (wX9 g a i o.2) (some (.int o.1)) := by
  refine mC.ofW (by decide) (fun p e s m below meth c X hH ls _ hl => ?_) (Nat.le_of_ble_eq_true rfl)
  have hx := X.1
  have hb := X.2.1
  have hl : lv_has ls 5 [(0, .ref (a i)), (1, .int pa), (2, .int pb)] := hl
  unfold fX9_load at h
  suffices HH : ∀ (H : Heap) (locs : List Loc), mH g s (wX9 g a i xs) (wX9 g a i xs) H locs → W p l e (rM 3 68) s m _ below meth c H locs 0 0 (mZ g below _ s (wX9 g a i xs) (wX9 g a i o.2) (some (.int o.1))) (F0 m 0 ls []) from HH _ _ hH
  clear hH
  intro H locs hH
  refine lv_aload_n hx hb dX9_load_0 rfl (lv_at hl 0 rfl) ?_
  refine lv_iload_n hx hb dX9_load_1 rfl (lv_at hl 1 rfl) ?_
  refine lv_iload_n hx hb dX9_load_2 rfl (lv_at hl 2 rfl) ?_
  obtain ⟨o1, ho1, h⟩ := bd_x h
  refine r_V X hH (ws1 := (wX9 g a i xs)) (As := [.int pa, .int pb]) (rest := []) (st1 := [.int o1]) (uX9_notNumber (a := a) (i := i) ho1) kX9_notNumber mX9_167 iX9_notNumber vX9_notNumber zX9 okX9_notNumber ⟨Nat.le_of_ble_eq_true rfl, Nat.le_of_ble_eq_true rfl⟩ rfl rfl (q0 := 0) rfl rfl (pm_all _) (pm_all _) rfl hl.1 rfl (Nat.le_of_ble_eq_true rfl) ⟨Nat.le_refl 0, Nat.le_refl 0⟩ rfl dX9_load_3 (fun H locs hH => ?_)
  refine s_in X (lv' := [(3, .int o1), (0, .ref (a i)), (1, .int pa), (2, .int pb)]) hl rfl dX9_load_6 rfl (by decide) rfl (fun ls hl => ?_)
  refine lv_iload_n hx hb dX9_load_7 rfl (lv_at hl 0 rfl) ?_
  refine lv_if_eq (tgt := 17) hx hb dX9_load_8 (by decide) (fun c1 => ?_) (fun c1 => ?_)
  · have h := it_x h c1
    refine lv_aload_n hx hb dX9_load_17 rfl (lv_at hl 1 rfl) ?_
    refine f_get X hH 0 rfl rfl 6 (by decide) inX9 fX9_26 rfl dX9_load_18 ?_
    refine lv_iload_n hx hb dX9_load_21 rfl (lv_at hl 2 rfl) ?_
    obtain ⟨j1, ej1, hinj1, h⟩ := ga_x h
    refine a_il X hH 5 rfl hinj1 ej1 dX9_load_22 ?_
    obtain ⟨v1, ev1, h⟩ := ltt_x h
    refine s_i X (lv' := [(4, .int v1), (3, .int o1), (0, .ref (a i)), (1, .int pa), (2, .int pb)]) hl ev1 dX9_load_23 (by decide) rfl (fun ls hl => ?_)
    refine lv_aload_n hx hb dX9_load_25 rfl (lv_at hl 2 rfl) ?_
    refine f_get X hH 0 rfl rfl 6 (by decide) inX9 fX9_26 rfl dX9_load_26 ?_
    refine lv_iload_n hx hb dX9_load_29 rfl (lv_at hl 3 rfl) ?_
    refine lv_iload_n hx hb dX9_load_30 rfl (lv_at hl 4 rfl) ?_
    obtain ⟨j2, ej2, hinj2, h⟩ := ga_x h
    obtain ⟨xs1, exs1, h⟩ := ltt_x h
    refine a_is X hH (ws1 := (wX9 g a i xs1)) 5 rfl hinj2 ej2 (by rw [exs1]; rfl) dX9_load_31 (fun H locs hH => ?_)
    refine lv_iload hx hb dX9_load_32 (lv_at hl 0 rfl) ?_
    have h := Option.some.inj h
    subst h
    exact e_i X hH dX9_load_34
  · have h := ie_x h c1
    refine lv_aload_n hx hb dX9_load_11 rfl (lv_at hl 1 rfl) ?_
    refine lv_iload_n hx hb dX9_load_12 rfl (lv_at hl 0 rfl) ?_
    obtain ⟨o2, ho2, h⟩ := bd_x h
    refine r_V X hH (ws1 := (wX9 g a i o2.2)) (As := [.int o1]) (rest := []) (st1 := [.int o2.1]) (uX9_no (a := a) (i := i) ho2) kX9_no mX9_125 iX9_no vX9_no zX9 okX9_no ⟨Nat.le_of_ble_eq_true rfl, Nat.le_of_ble_eq_true rfl⟩ rfl rfl (q0 := 0) rfl rfl (pm_all _) (pm_all _) rfl hl.1 rfl (Nat.le_of_ble_eq_true rfl) ⟨Nat.le_refl 0, Nat.le_refl 0⟩ rfl dX9_load_13 (fun H locs hH => ?_)
    have h := Option.some.inj h
    subst h
    exact e_i X hH dX9_load_16

def fX9_length (xs : SX9) (pa : Int32) (pb : Int32) : Option (Int32 × SX9) :=
  (fX9_notNumber xs pa pb).bind fun o1 =>
  (if o1 = (0 : Int32) then
  ga 11 pa fun j1 =>
  ltt (((m_length xs) j1)) fun v1 =>
  ga 11 pa fun j2 =>
  ltt ((m_length_s xs (upd (m_length xs) j2 pb))) fun xs1 =>
  some (v1, xs1)
  else
  (fX9_no xs o1).bind fun o2 =>
  some (o2.1, o2.2))
set_option maxHeartbeats 4000000 in
set_option maxRecDepth 100000 in
theorem uX9_length {l : Launch} {g : GG} {a : Nat → Nat} {i : Nat} {xs : SX9} {pa : Int32} {pb : Int32} {o : (Int32 × SX9)} (h : fX9_length xs pa pb = some o) : mC l g yX9_length cX9_length 5 (some .int) (rM 3 68) [.ref (a i), .int pa, .int pb] (wX9 g a i xs) (wX9 g a i o.2) (some (.int o.1)) := by
  refine mC.ofW (by decide) (fun p e s m below meth c X hH ls _ hl => ?_) (Nat.le_of_ble_eq_true rfl)
  have hx := X.1
  have hb := X.2.1
  have hl : lv_has ls 5 [(0, .ref (a i)), (1, .int pa), (2, .int pb)] := hl
  unfold fX9_length at h
  suffices HH : ∀ (H : Heap) (locs : List Loc), mH g s (wX9 g a i xs) (wX9 g a i xs) H locs → W p l e (rM 3 68) s m _ below meth c H locs 0 0 (mZ g below _ s (wX9 g a i xs) (wX9 g a i o.2) (some (.int o.1))) (F0 m 0 ls []) from HH _ _ hH
  clear hH
  intro H locs hH
  refine lv_aload_n hx hb dX9_length_0 rfl (lv_at hl 0 rfl) ?_
  refine lv_iload_n hx hb dX9_length_1 rfl (lv_at hl 1 rfl) ?_
  refine lv_iload_n hx hb dX9_length_2 rfl (lv_at hl 2 rfl) ?_
  obtain ⟨o1, ho1, h⟩ := bd_x h
  refine r_V X hH (ws1 := (wX9 g a i xs)) (As := [.int pa, .int pb]) (rest := []) (st1 := [.int o1]) (uX9_notNumber (a := a) (i := i) ho1) kX9_notNumber mX9_167 iX9_notNumber vX9_notNumber zX9 okX9_notNumber ⟨Nat.le_of_ble_eq_true rfl, Nat.le_of_ble_eq_true rfl⟩ rfl rfl (q0 := 0) rfl rfl (pm_all _) (pm_all _) rfl hl.1 rfl (Nat.le_of_ble_eq_true rfl) ⟨Nat.le_refl 0, Nat.le_refl 0⟩ rfl dX9_length_3 (fun H locs hH => ?_)
  refine s_in X (lv' := [(3, .int o1), (0, .ref (a i)), (1, .int pa), (2, .int pb)]) hl rfl dX9_length_6 rfl (by decide) rfl (fun ls hl => ?_)
  refine lv_iload_n hx hb dX9_length_7 rfl (lv_at hl 0 rfl) ?_
  refine lv_if_eq (tgt := 17) hx hb dX9_length_8 (by decide) (fun c1 => ?_) (fun c1 => ?_)
  · have h := it_x h c1
    refine lv_aload_n hx hb dX9_length_17 rfl (lv_at hl 1 rfl) ?_
    refine f_get X hH 0 rfl rfl 7 (by decide) inX9 fX9_29 rfl dX9_length_18 ?_
    refine lv_iload_n hx hb dX9_length_21 rfl (lv_at hl 2 rfl) ?_
    obtain ⟨j1, ej1, hinj1, h⟩ := ga_x h
    refine a_il X hH 6 rfl hinj1 ej1 dX9_length_22 ?_
    obtain ⟨v1, ev1, h⟩ := ltt_x h
    refine s_i X (lv' := [(4, .int v1), (3, .int o1), (0, .ref (a i)), (1, .int pa), (2, .int pb)]) hl ev1 dX9_length_23 (by decide) rfl (fun ls hl => ?_)
    refine lv_aload_n hx hb dX9_length_25 rfl (lv_at hl 2 rfl) ?_
    refine f_get X hH 0 rfl rfl 7 (by decide) inX9 fX9_29 rfl dX9_length_26 ?_
    refine lv_iload_n hx hb dX9_length_29 rfl (lv_at hl 3 rfl) ?_
    refine lv_iload_n hx hb dX9_length_30 rfl (lv_at hl 4 rfl) ?_
    obtain ⟨j2, ej2, hinj2, h⟩ := ga_x h
    obtain ⟨xs1, exs1, h⟩ := ltt_x h
    refine a_is X hH (ws1 := (wX9 g a i xs1)) 6 rfl hinj2 ej2 (by rw [exs1]; rfl) dX9_length_31 (fun H locs hH => ?_)
    refine lv_iload hx hb dX9_length_32 (lv_at hl 0 rfl) ?_
    have h := Option.some.inj h
    subst h
    exact e_i X hH dX9_length_34
  · have h := ie_x h c1
    refine lv_aload_n hx hb dX9_length_11 rfl (lv_at hl 1 rfl) ?_
    refine lv_iload_n hx hb dX9_length_12 rfl (lv_at hl 0 rfl) ?_
    obtain ⟨o2, ho2, h⟩ := bd_x h
    refine r_V X hH (ws1 := (wX9 g a i o2.2)) (As := [.int o1]) (rest := []) (st1 := [.int o2.1]) (uX9_no (a := a) (i := i) ho2) kX9_no mX9_125 iX9_no vX9_no zX9 okX9_no ⟨Nat.le_of_ble_eq_true rfl, Nat.le_of_ble_eq_true rfl⟩ rfl rfl (q0 := 0) rfl rfl (pm_all _) (pm_all _) rfl hl.1 rfl (Nat.le_of_ble_eq_true rfl) ⟨Nat.le_refl 0, Nat.le_refl 0⟩ rfl dX9_length_13 (fun H locs hH => ?_)
    have h := Option.some.inj h
    subst h
    exact e_i X hH dX9_length_16

def fX9_lose (xs : SX9) (pa : Int32) : Option (Int32 × SX9) :=
  (fX9_isWay xs pa).bind fun o1 =>
  (if o1 = (0 : Int32) then
  (fX9_no xs (-1 : Int32)).bind fun o3 =>
  some (o3.1, o3.2)
  else
  (fX9_loses xs pa).bind fun o2 =>
  some ((m_many o2), o2))
set_option maxHeartbeats 4000000 in
set_option maxRecDepth 100000 in
theorem uX9_lose {l : Launch} {g : GG} {a : Nat → Nat} {i : Nat} {xs : SX9} {pa : Int32} {o : (Int32 × SX9)} (h : fX9_lose xs pa = some o) : mC l g yX9_lose cX9_lose 2 (some .int) (rM 2 46) [.ref (a i), .int pa] (wX9 g a i xs) (wX9 g a i o.2) (some (.int o.1)) := by
  refine mC.ofW (by decide) (fun p e s m below meth c X hH ls _ hl => ?_) (Nat.le_of_ble_eq_true rfl)
  have hx := X.1
  have hb := X.2.1
  have hl : lv_has ls 2 [(0, .ref (a i)), (1, .int pa)] := hl
  unfold fX9_lose at h
  suffices HH : ∀ (H : Heap) (locs : List Loc), mH g s (wX9 g a i xs) (wX9 g a i xs) H locs → W p l e (rM 2 46) s m _ below meth c H locs 0 0 (mZ g below _ s (wX9 g a i xs) (wX9 g a i o.2) (some (.int o.1))) (F0 m 0 ls []) from HH _ _ hH
  clear hH
  intro H locs hH
  refine lv_aload_n hx hb dX9_lose_0 rfl (lv_at hl 0 rfl) ?_
  refine lv_iload_n hx hb dX9_lose_1 rfl (lv_at hl 1 rfl) ?_
  obtain ⟨o1, ho1, h⟩ := bd_x h
  refine r_V X hH (ws1 := (wX9 g a i xs)) (As := [.int pa]) (rest := []) (st1 := [.int o1]) (uX9_isWay (a := a) (i := i) ho1) kX9_isWay mX9_145 iX9_isWay vX9_isWay zX9 okX9_isWay ⟨Nat.le_of_ble_eq_true rfl, Nat.le_of_ble_eq_true rfl⟩ rfl rfl (q0 := 0) rfl rfl (pm_all _) (pm_all _) rfl hl.1 rfl (Nat.le_of_ble_eq_true rfl) ⟨Nat.le_refl 0, Nat.le_refl 0⟩ rfl dX9_lose_2 (fun H locs hH => ?_)
  refine lv_if_ne (tgt := 14) hx hb dX9_lose_5 (by decide) (fun c1 => ?_) (fun c1 => ?_)
  · have h := ie_x h c1
    refine lv_aload_n hx hb dX9_lose_14 rfl (lv_at hl 0 rfl) ?_
    refine lv_iload_n hx hb dX9_lose_15 rfl (lv_at hl 1 rfl) ?_
    obtain ⟨o2, ho2, h⟩ := bd_x h
    refine r_V X hH (ws1 := (wX9 g a i o2)) (As := [.int pa]) (rest := []) (st1 := []) (uX9_loses (a := a) (i := i) ho2) kX9_loses mX9_137 iX9_loses vX9_loses zX9 okX9_loses ⟨Nat.le_of_ble_eq_true rfl, Nat.le_of_ble_eq_true rfl⟩ rfl rfl (q0 := 0) rfl rfl (pm_all _) (pm_all _) rfl hl.1 rfl (Nat.le_of_ble_eq_true rfl) ⟨Nat.le_refl 0, Nat.le_refl 0⟩ rfl dX9_lose_16 (fun H locs hH => ?_)
    refine lv_aload_n hx hb dX9_lose_19 rfl (lv_at hl 0 rfl) ?_
    refine f_get X hH 0 rfl rfl 1 (by decide) inX9 fX9_120 rfl dX9_lose_20 ?_
    have h := Option.some.inj h
    subst h
    exact e_i X hH dX9_lose_23
  · have h := it_x h c1
    refine lv_aload_n hx hb dX9_lose_8 rfl (lv_at hl 0 rfl) ?_
    refine lv_iconst (v := (-1 : Int32)) hx hb dX9_lose_9 (by decide) ?_
    obtain ⟨o3, ho3, h⟩ := bd_x h
    refine r_V X hH (ws1 := (wX9 g a i o3.2)) (As := [.int (-1 : Int32)]) (rest := []) (st1 := [.int o3.1]) (uX9_no (a := a) (i := i) ho3) kX9_no mX9_125 iX9_no vX9_no zX9 okX9_no ⟨Nat.le_of_ble_eq_true rfl, Nat.le_of_ble_eq_true rfl⟩ rfl rfl (q0 := 0) rfl rfl (pm_all _) (pm_all _) rfl hl.1 rfl (Nat.le_of_ble_eq_true rfl) ⟨Nat.le_refl 0, Nat.le_refl 0⟩ rfl dX9_lose_10 (fun H locs hH => ?_)
    have h := Option.some.inj h
    subst h
    exact e_i X hH dX9_lose_13
