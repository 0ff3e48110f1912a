def fX7_digitAt (xs : SX7) (pa : Int32) : Option Int32 :=
  (fX7_letterAt xs pa).bind fun o1 =>
  some (o1 - (48 : Int32))
set_option maxHeartbeats 4000000 in
set_option maxRecDepth 100000 in
theorem uX7_digitAt {l : Launch} {g : GG} {a : Nat → Nat} {i : Nat} {xs : SX7} {pa : Int32} {o : Int32} (h : fX7_digitAt xs pa = some o) : mC l g yX7_digitAt cX7_digitAt 2 (some .int) (rM 1 21) [.ref (a i), .int pa] (wX7 g a i xs) (wX7 g a i xs) (some (.int o)) := by
  refine mC.ofW (by decide) (fun p e s m below meth c X hH ls _ hl => ?_) (Nat.le_of_ble_eq_true rfl)
  have hx := X.1
  have hb := X.2.1
  have hl : lv_has ls 2 [(0, .ref (a i)), (1, .int pa)] := hl
  unfold fX7_digitAt at h
  suffices HH : ∀ (H : Heap) (locs : List Loc), mH g s (wX7 g a i xs) (wX7 g a i xs) H locs → W p l e (rM 1 21) s m _ below meth c H locs 0 0 (mZ g below _ s (wX7 g a i xs) (wX7 g a i xs) (some (.int o))) (F0 m 0 ls []) from HH _ _ hH
  clear hH
  intro H locs hH
  refine lv_aload_n hx hb dX7_digitAt_0 rfl (lv_at hl 0 rfl) ?_
  refine lv_iload_n hx hb dX7_digitAt_1 rfl (lv_at hl 1 rfl) ?_
  obtain ⟨o1, ho1, h⟩ := bd_x h
  refine r_V X hH (ws1 := (wX7 g a i xs)) (As := [.int pa]) (rest := []) (st1 := [.int o1]) (uX7_letterAt (a := a) (i := i) ho1) kX7_letterAt mX7_57 iX7_letterAt vX7_letterAt zX7 okX7_letterAt ⟨Nat.le_of_ble_eq_true rfl, Nat.le_of_ble_eq_true rfl⟩ rfl rfl (q0 := 0) rfl rfl (pm_all _) (pm_all _) rfl hl.1 rfl (Nat.le_of_ble_eq_true rfl) ⟨Nat.le_refl 0, Nat.le_refl 0⟩ rfl dX7_digitAt_2 (fun H locs hH => ?_)
  refine lv_bipush (v := (48 : Int32)) hx hb dX7_digitAt_5 (by decide) ?_
  refine lv_isub hx hb dX7_digitAt_7 ?_
  have h := Option.some.inj h
  subst h
  exact e_i X hH dX7_digitAt_8

def fX7_change (xs : SX7) (xt : SX3) (pa : Int32) (pb : Int32) : Option (Int32 × SX3) :=
  (fX7_digitAt xs (pb + (1 : Int32))).bind fun o1 =>
  (fX7_digitAt xs (pb + (3 : Int32))).bind fun o2 =>
  (fX7_digitAt xs (pb + (5 : Int32))).bind fun o3 =>
  (fX7_digitAt xs (pb + (7 : Int32))).bind fun o4 =>
  (if pa = (0 : Int32) then
  (fX3_join xt o1 o2 o3 o4).bind fun o10 =>
  some (o10.1, o10.2)
  else
  (if pa = (1 : Int32) then
  (fX3_changeKind xt o1 o2 o3).bind fun o9 =>
  some (o9.1, o9.2)
  else
  (if pa = (2 : Int32) then
  (fX3_changeLoad xt o1 o2).bind fun o8 =>
  some (o8.1, o8.2)
  else
  (if pa = (3 : Int32) then
  (fX3_changeLength xt o1 o2).bind fun o7 =>
  some (o7.1, o7.2)
  else
  (if pa = (4 : Int32) then
  (fX3_drop xt o1).bind fun o6 =>
  some (o6.1, o6.2)
  else
  (fX3_changePoints xt o1).bind fun o5 =>
  some (o5.1, o5.2))))))
set_option maxHeartbeats 4000000 in
set_option maxRecDepth 100000 in
theorem uX7_change {l : Launch} {g : GG} {a : Nat → Nat} {i : Nat} {b : Nat → Nat} {j : Nat} {xs : SX7} {xt : SX3} {pa : Int32} {pb : Int32} {o : (Int32 × SX3)} (h : fX7_change xs xt pa pb = some o) : mC l g yX7_change cX7_change 8 (some .int) (rM 2 50) [.ref (a i), .ref (b j), .int pa, .int pb] ((wX7 g a i xs) ++ (wX3 g b j xt)) ((wX7 g a i xs) ++ (wX3 g b j o.2)) (some (.int o.1)) := by
  refine mC.ofW (by decide) (fun p e s m below meth c X hH ls _ hl => ?_) (Nat.le_of_ble_eq_true rfl)
  have hx := X.1
  have hb := X.2.1
  have hl : lv_has ls 8 [(0, .ref (a i)), (1, .ref (b j)), (2, .int pa), (3, .int pb)] := hl
  unfold fX7_change at h
  suffices HH : ∀ (H : Heap) (locs : List Loc), mH g s ((wX7 g a i xs) ++ (wX3 g b j xt)) ((wX7 g a i xs) ++ (wX3 g b j xt)) H locs → W p l e (rM 2 50) s m _ below meth c H locs 0 0 (mZ g below _ s ((wX7 g a i xs) ++ (wX3 g b j xt)) ((wX7 g a i xs) ++ (wX3 g b j o.2)) (some (.int o.1))) (F0 m 0 ls []) from HH _ _ hH
  clear hH
  intro H locs hH
  refine lv_aload_n hx hb dX7_change_0 rfl (lv_at hl 0 rfl) ?_
  refine lv_iload_n hx hb dX7_change_1 rfl (lv_at hl 3 rfl) ?_
  refine lv_iconst (v := (1 : Int32)) hx hb dX7_change_2 (by decide) ?_
  refine lv_iadd hx hb dX7_change_3 ?_
  obtain ⟨o1, ho1, h⟩ := bd_x h
  refine r_V X hH (ws1 := ((wX7 g a i xs) ++ (wX3 g b j xt))) (As := [.int (pb + (1 : Int32))]) (rest := []) (st1 := [.int o1]) (uX7_digitAt (a := a) (i := i) ho1) kX7_digitAt mX7_64 iX7_digitAt vX7_digitAt zX7 okX7_digitAt ⟨Nat.le_of_ble_eq_true rfl, Nat.le_of_ble_eq_true rfl⟩ rfl rfl (q0 := 0) rfl rfl (pm_0 _ _) (pm_0 _ _) rfl hl.1 rfl (Nat.le_of_ble_eq_true rfl) ⟨Nat.le_refl 0, Nat.le_refl 0⟩ rfl dX7_change_4 (fun H locs hH => ?_)
  refine s_i X (lv' := [(4, .int o1), (0, .ref (a i)), (1, .ref (b j)), (2, .int pa), (3, .int pb)]) hl rfl dX7_change_7 (by decide) rfl (fun ls hl => ?_)
  refine lv_aload_n hx hb dX7_change_9 rfl (lv_at hl 1 rfl) ?_
  refine lv_iload_n hx hb dX7_change_10 rfl (lv_at hl 4 rfl) ?_
  refine lv_iconst (v := (3 : Int32)) hx hb dX7_change_11 (by decide) ?_
  refine lv_iadd hx hb dX7_change_12 ?_
  obtain ⟨o2, ho2, h⟩ := bd_x h
  refine r_V X hH (ws1 := ((wX7 g a i xs) ++ (wX3 g b j xt))) (As := [.int (pb + (3 : Int32))]) (rest := []) (st1 := [.int o2]) (uX7_digitAt (a := a) (i := i) ho2) kX7_digitAt mX7_64 iX7_digitAt vX7_digitAt zX7 okX7_digitAt ⟨Nat.le_of_ble_eq_true rfl, Nat.le_of_ble_eq_true rfl⟩ rfl rfl (q0 := 0) rfl rfl (pm_0 _ _) (pm_0 _ _) rfl hl.1 rfl (Nat.le_of_ble_eq_true rfl) ⟨Nat.le_refl 0, Nat.le_refl 0⟩ rfl dX7_change_13 (fun H locs hH => ?_)
  refine s_i X (lv' := [(5, .int o2), (4, .int o1), (0, .ref (a i)), (1, .ref (b j)), (2, .int pa), (3, .int pb)]) hl rfl dX7_change_16 (by decide) rfl (fun ls hl => ?_)
  refine lv_aload_n hx hb dX7_change_18 rfl (lv_at hl 2 rfl) ?_
  refine lv_iload_n hx hb dX7_change_19 rfl (lv_at hl 5 rfl) ?_
  refine lv_iconst (v := (5 : Int32)) hx hb dX7_change_20 (by decide) ?_
  refine lv_iadd hx hb dX7_change_21 ?_
  obtain ⟨o3, ho3, h⟩ := bd_x h
  refine r_V X hH (ws1 := ((wX7 g a i xs) ++ (wX3 g b j xt))) (As := [.int (pb + (5 : Int32))]) (rest := []) (st1 := [.int o3]) (uX7_digitAt (a := a) (i := i) ho3) kX7_digitAt mX7_64 iX7_digitAt vX7_digitAt zX7 okX7_digitAt ⟨Nat.le_of_ble_eq_true rfl, Nat.le_of_ble_eq_true rfl⟩ rfl rfl (q0 := 0) rfl rfl (pm_0 _ _) (pm_0 _ _) rfl hl.1 rfl (Nat.le_of_ble_eq_true rfl) ⟨Nat.le_refl 0, Nat.le_refl 0⟩ rfl dX7_change_22 (fun H locs hH => ?_)
  refine s_i X (lv' := [(6, .int o3), (5, .int o2), (4, .int o1), (0, .ref (a i)), (1, .ref (b j)), (2, .int pa), (3, .int pb)]) hl rfl dX7_change_25 (by decide) rfl (fun ls hl => ?_)
  refine lv_aload_n hx hb dX7_change_27 rfl (lv_at hl 3 rfl) ?_
  refine lv_iload_n hx hb dX7_change_28 rfl (lv_at hl 6 rfl) ?_
  refine lv_bipush (v := (7 : Int32)) hx hb dX7_change_29 (by decide) ?_
  refine lv_iadd hx hb dX7_change_31 ?_
  obtain ⟨o4, ho4, h⟩ := bd_x h
  refine r_V X hH (ws1 := ((wX7 g a i xs) ++ (wX3 g b j xt))) (As := [.int (pb + (7 : Int32))]) (rest := []) (st1 := [.int o4]) (uX7_digitAt (a := a) (i := i) ho4) kX7_digitAt mX7_64 iX7_digitAt vX7_digitAt zX7 okX7_digitAt ⟨Nat.le_of_ble_eq_true rfl, Nat.le_of_ble_eq_true rfl⟩ rfl rfl (q0 := 0) rfl rfl (pm_0 _ _) (pm_0 _ _) rfl hl.1 rfl (Nat.le_of_ble_eq_true rfl) ⟨Nat.le_refl 0, Nat.le_refl 0⟩ rfl dX7_change_32 (fun H locs hH => ?_)
  refine s_i X (lv' := [(7, .int o4), (6, .int o3), (5, .int o2), (4, .int o1), (0, .ref (a i)), (1, .ref (b j)), (2, .int pa), (3, .int pb)]) hl rfl dX7_change_35 (by decide) rfl (fun ls hl => ?_)
  refine lv_iload_n hx hb dX7_change_37 rfl (lv_at hl 6 rfl) ?_
  rcases Classical.em (pa = (0 : Int32)) with c1 | c1
  · have h := it_x h c1
    refine lv_tableIn (tgt := 72) hx hb dX7_change_38 (by rw [c1]; decide) (by rw [c1]; decide) (off := 34) (by rw [c1]; decide) (by decide) ?_
    refine lv_aload_n hx hb dX7_change_72 rfl (lv_at hl 5 rfl) ?_
    refine lv_iload hx hb dX7_change_73 (lv_at hl 3 rfl) ?_
    refine lv_iload hx hb dX7_change_75 (lv_at hl 2 rfl) ?_
    refine lv_iload hx hb dX7_change_77 (lv_at hl 1 rfl) ?_
    refine lv_iload hx hb dX7_change_79 (lv_at hl 0 rfl) ?_
    obtain ⟨o10, ho10, h⟩ := bd_x h
    refine r_V X hH (ws1 := ((wX7 g a i xs) ++ (wX3 g b j o10.2))) (As := [.int o1, .int o2, .int o3, .int o4]) (rest := []) (st1 := [.int o10.1]) (uX3_join (a := b) (i := j) ho10) kX3_join mX7_67 iX3_join vX3_join zX3 okX3_join ⟨Nat.le_of_ble_eq_true rfl, Nat.le_of_ble_eq_true rfl⟩ rfl rfl (q0 := 2) rfl rfl (pm_s (pm_all _)) (pm_s (pm_all _)) rfl hl.1 rfl (Nat.le_of_ble_eq_true rfl) ⟨Nat.le_refl 0, Nat.le_refl 0⟩ rfl dX7_change_81 (fun H locs hH => ?_)
    have h := Option.some.inj h
    subst h
    exact e_i X hH dX7_change_84
  · have h := ie_x h c1
    rcases Classical.em (pa = (1 : Int32)) with c2 | c2
    · have h := it_x h c2
      refine lv_tableIn (tgt := 85) hx hb dX7_change_38 (by rw [c2]; decide) (by rw [c2]; decide) (off := 47) (by rw [c2]; decide) (by decide) ?_
      refine lv_aload_n hx hb dX7_change_85 rfl (lv_at hl 5 rfl) ?_
      refine lv_iload hx hb dX7_change_86 (lv_at hl 3 rfl) ?_
      refine lv_iload hx hb dX7_change_88 (lv_at hl 2 rfl) ?_
      refine lv_iload hx hb dX7_change_90 (lv_at hl 1 rfl) ?_
      obtain ⟨o9, ho9, h⟩ := bd_x h
      refine r_V X hH (ws1 := ((wX7 g a i xs) ++ (wX3 g b j o9.2))) (As := [.int o1, .int o2, .int o3]) (rest := []) (st1 := [.int o9.1]) (uX3_changeKind (a := b) (i := j) ho9) kX3_changeKind mX7_73 iX3_changeKind vX3_changeKind zX3 okX3_changeKind ⟨Nat.le_of_ble_eq_true rfl, Nat.le_of_ble_eq_true rfl⟩ rfl rfl (q0 := 2) rfl rfl (pm_s (pm_all _)) (pm_s (pm_all _)) rfl hl.1 rfl (Nat.le_of_ble_eq_true rfl) ⟨Nat.le_refl 0, Nat.le_refl 0⟩ rfl dX7_change_92 (fun H locs hH => ?_)
      have h := Option.some.inj h
      subst h
      exact e_i X hH dX7_change_95
    · have h := ie_x h c2
      rcases Classical.em (pa = (2 : Int32)) with c3 | c3
      · have h := it_x h c3
        refine lv_tableIn (tgt := 96) hx hb dX7_change_38 (by rw [c3]; decide) (by rw [c3]; decide) (off := 58) (by rw [c3]; decide) (by decide) ?_
        refine lv_aload_n hx hb dX7_change_96 rfl (lv_at hl 5 rfl) ?_
        refine lv_iload hx hb dX7_change_97 (lv_at hl 3 rfl) ?_
        refine lv_iload hx hb dX7_change_99 (lv_at hl 2 rfl) ?_
        obtain ⟨o8, ho8, h⟩ := bd_x h
        refine r_V X hH (ws1 := ((wX7 g a i xs) ++ (wX3 g b j o8.2))) (As := [.int o1, .int o2]) (rest := []) (st1 := [.int o8.1]) (uX3_changeLoad (a := b) (i := j) ho8) kX3_changeLoad mX7_76 iX3_changeLoad vX3_changeLoad zX3 okX3_changeLoad ⟨Nat.le_of_ble_eq_true rfl, Nat.le_of_ble_eq_true rfl⟩ rfl rfl (q0 := 2) rfl rfl (pm_s (pm_all _)) (pm_s (pm_all _)) rfl hl.1 rfl (Nat.le_of_ble_eq_true rfl) ⟨Nat.le_refl 0, Nat.le_refl 0⟩ rfl dX7_change_101 (fun H locs hH => ?_)
        have h := Option.some.inj h
        subst h
        exact e_i X hH dX7_change_104
      · have h := ie_x h c3
        rcases Classical.em (pa = (3 : Int32)) with c4 | c4
        · have h := it_x h c4
          refine lv_tableIn (tgt := 105) hx hb dX7_change_38 (by rw [c4]; decide) (by rw [c4]; decide) (off := 67) (by rw [c4]; decide) (by decide) ?_
          refine lv_aload_n hx hb dX7_change_105 rfl (lv_at hl 5 rfl) ?_
          refine lv_iload hx hb dX7_change_106 (lv_at hl 3 rfl) ?_
          refine lv_iload hx hb dX7_change_108 (lv_at hl 2 rfl) ?_
          obtain ⟨o7, ho7, h⟩ := bd_x h
          refine r_V X hH (ws1 := ((wX7 g a i xs) ++ (wX3 g b j o7.2))) (As := [.int o1, .int o2]) (rest := []) (st1 := [.int o7.1]) (uX3_changeLength (a := b) (i := j) ho7) kX3_changeLength mX7_79 iX3_changeLength vX3_changeLength zX3 okX3_changeLength ⟨Nat.le_of_ble_eq_true rfl, Nat.le_of_ble_eq_true rfl⟩ rfl rfl (q0 := 2) rfl rfl (pm_s (pm_all _)) (pm_s (pm_all _)) rfl hl.1 rfl (Nat.le_of_ble_eq_true rfl) ⟨Nat.le_refl 0, Nat.le_refl 0⟩ rfl dX7_change_110 (fun H locs hH => ?_)
          have h := Option.some.inj h
          subst h
          exact e_i X hH dX7_change_113
        · have h := ie_x h c4
          rcases Classical.em (pa = (4 : Int32)) with c5 | c5
          · have h := it_x h c5
            refine lv_tableIn (tgt := 114) hx hb dX7_change_38 (by rw [c5]; decide) (by rw [c5]; decide) (off := 76) (by rw [c5]; decide) (by decide) ?_
            refine lv_aload_n hx hb dX7_change_114 rfl (lv_at hl 5 rfl) ?_
            refine lv_iload hx hb dX7_change_115 (lv_at hl 3 rfl) ?_
            obtain ⟨o6, ho6, h⟩ := bd_x h
            refine r_V X hH (ws1 := ((wX7 g a i xs) ++ (wX3 g b j o6.2))) (As := [.int o1]) (rest := []) (st1 := [.int o6.1]) (uX3_drop (a := b) (i := j) ho6) kX3_drop mX7_82 iX3_drop vX3_drop zX3 okX3_drop ⟨Nat.le_of_ble_eq_true rfl, Nat.le_of_ble_eq_true rfl⟩ rfl rfl (q0 := 2) rfl rfl (pm_s (pm_all _)) (pm_s (pm_all _)) rfl hl.1 rfl (Nat.le_of_ble_eq_true rfl) ⟨Nat.le_refl 0, Nat.le_refl 0⟩ rfl dX7_change_117 (fun H locs hH => ?_)
            have h := Option.some.inj h
            subst h
            exact e_i X hH dX7_change_120
          · have h := ie_x h c5
            refine lv_tableOut (tgt := 121) hx hb dX7_change_38 (tsw_0_4 (c1) (c2) (c3) (c4) (c5)) (by decide) ?_
            refine lv_aload_n hx hb dX7_change_121 rfl (lv_at hl 5 rfl) ?_
            refine lv_iload hx hb dX7_change_122 (lv_at hl 3 rfl) ?_
            obtain ⟨o5, ho5, h⟩ := bd_x h
            refine r_V X hH (ws1 := ((wX7 g a i xs) ++ (wX3 g b j o5.2))) (As := [.int o1]) (rest := []) (st1 := [.int o5.1]) (uX3_changePoints (a := b) (i := j) ho5) kX3_changePoints mX7_85 iX3_changePoints vX3_changePoints zX3 okX3_changePoints ⟨Nat.le_of_ble_eq_true rfl, Nat.le_of_ble_eq_true rfl⟩ rfl rfl (q0 := 2) rfl rfl (pm_s (pm_all _)) (pm_s (pm_all _)) rfl hl.1 rfl (Nat.le_of_ble_eq_true rfl) ⟨Nat.le_refl 0, Nat.le_refl 0⟩ rfl dX7_change_124 (fun H locs hH => ?_)
            have h := Option.some.inj h
            subst h
            exact e_i X hH dX7_change_127

def qX7_changeAll_4 (xs : SX7)  : Nat → SX3 → Int32 → Int32 → Option (Int32 × SX3)
  | 0, _, _, _ => none
  | fu + 1, xt, l2, l3 =>
  (if (te_size xs) ≤ l2 then
  some (l3, xt)
  else
  (if (120 : Int32) ≤ l3 then
  some (l3, xt)
  else
  (fX7_wordAt xs l2).bind fun o1 =>
  (fX7_textOf o1).bind fun o2 =>
  (fJ0_length_8abf5 o2).bind fun o3 =>
  gk o2 <|
  (fX7_change xs xt o1 (l2 + o3)).bind fun o4 =>
  (if (0 : Int32) ≤ o4.1 then
  (fX7_endOf xs l2 o1).bind fun o5 =>
  ltt (l3 + (1 : Int32)) fun v1 =>
  qX7_changeAll_4 xs  fu o4.2 o5 v1
  else
  some (((-2000 : Int32) - l2), o4.2))))
def fX7_changeAll (xs : SX7) (xt : SX3) : Option (Int32 × SX3) :=
  qX7_changeAll_4 xs FU xt (0 : Int32) (0 : Int32)
set_option maxHeartbeats 4000000 in
set_option maxRecDepth 100000 in
theorem pX7_changeAll_4 {p : Program} {l : Launch} {e : Env} {s : State} {m : MethodId} {args : Array Value} {below : List Frame} {meth : Method} {c : Code} {g : GG} {w0 : va_W} {a : Nat → Nat} {i : Nat} {b : Nat → Nat} {j : Nat} {xs : SX7} {o : (Int32 × SX3)} (X : mX g yX7_changeAll cX7_changeAll 5 (some .int) p s m args meth c w0) :
  ∀ (fu : Nat) (xt : SX3) (l2 : Int32) (l3 : Int32) (H : Heap) (locs : List Loc) (ls : Array Slot), qX7_changeAll_4 xs fu xt l2 l3 = some o → mH g s w0 ((wX7 g a i xs) ++ (wX3 g b j xt)) H locs → lv_has ls 5 [(0, .ref (a i)), (1, .ref (b j)), (2, .int l2), (3, .int l3)] → W p l e (rM 6 131) s m args below meth c H locs 0 0 (mZ g below args s w0 ((wX7 g a i xs) ++ (wX3 g b j o.2)) (some (.int o.1))) (F0 m 4 ls []) := by
  have hx := X.1
  have hb := X.2.1
  intro fu
  induction fu with
  | zero =>
    intro xt l2 l3 H locs ls h
    unfold qX7_changeAll_4 at h
    cases h
  | succ fu ih =>
    intro xt l2 l3 H locs ls h hH hl
    unfold qX7_changeAll_4 at h
    refine lv_iload_n hx hb dX7_changeAll_4 rfl (lv_at hl 2 rfl) ?_
    refine lv_aload_n hx hb dX7_changeAll_5 rfl (lv_at hl 0 rfl) ?_
    refine f_get X hH 0 rfl rfl 0 (by decide) inX7 fX7_9 rfl dX7_changeAll_6 ?_
    refine lv_icmp_ge (tgt := 65) hx hb dX7_changeAll_9 (by decide) (fun c1 => ?_) (fun c1 => ?_)
    · have h := it_x h c1
      refine lv_iload_n hx hb dX7_changeAll_65 rfl (lv_at hl 3 rfl) ?_
      have h := Option.some.inj h
      subst h
      exact e_i X hH dX7_changeAll_66
    · have h := ie_x h c1
      refine lv_iload_n hx hb dX7_changeAll_12 rfl (lv_at hl 3 rfl) ?_
      refine lv_bipush (v := (120 : Int32)) hx hb dX7_changeAll_13 (by decide) ?_
      refine lv_icmp_ge (tgt := 65) hx hb dX7_changeAll_15 (by decide) (fun c2 => ?_) (fun c2 => ?_)
      · have h := it_x h c2
        refine lv_iload_n hx hb dX7_changeAll_65 rfl (lv_at hl 3 rfl) ?_
        have h := Option.some.inj h
        subst h
        exact e_i X hH dX7_changeAll_66
      · have h := ie_x h c2
        refine lv_aload_n hx hb dX7_changeAll_18 rfl (lv_at hl 0 rfl) ?_
        refine lv_iload_n hx hb dX7_changeAll_19 rfl (lv_at hl 2 rfl) ?_
        obtain ⟨o1, ho1, h⟩ := bd_x h
        refine r_V X hH (ws1 := ((wX7 g a i xs) ++ (wX3 g b j xt))) (As := [.int l2]) (rest := []) (st1 := [.int o1]) (uX7_wordAt (a := a) (i := i) ho1) kX7_wordAt mX7_31 iX7_wordAt vX7_wordAt zX7 okX7_wordAt ⟨Nat.le_of_ble_eq_true rfl, Nat.le_of_ble_eq_true rfl⟩ rfl rfl (q0 := 0) rfl rfl (pm_0 _ _) (pm_0 _ _) rfl hl.1 rfl (Nat.le_of_ble_eq_true rfl) ⟨Nat.le_refl 0, Nat.le_refl 0⟩ rfl dX7_changeAll_20 (fun H locs hH => ?_)
        refine s_i X (lv' := [(4, .int o1), (0, .ref (a i)), (1, .ref (b j)), (2, .int l2), (3, .int l3)]) hl rfl dX7_changeAll_23 (by decide) rfl (fun ls hl => ?_)
        refine lv_aload_n hx hb dX7_changeAll_25 rfl (lv_at hl 1 rfl) ?_
        refine lv_aload_n hx hb dX7_changeAll_26 rfl (lv_at hl 2 rfl) ?_
        refine lv_iload hx hb dX7_changeAll_27 (lv_at hl 0 rfl) ?_
        refine lv_iload_n hx hb dX7_changeAll_29 rfl (lv_at hl 3 rfl) ?_
        refine lv_iload hx hb dX7_changeAll_30 (lv_at hl 0 rfl) ?_
        obtain ⟨o2, ho2, h⟩ := bd_x h
        refine r_S X hH (ws1 := ((wX7 g a i xs) ++ (wX3 g b j xt))) (As := [.int o1]) (rest := [.int l2, .int o1, .ref (b j), .ref (a i)]) (st1 := [.ref (g.2.2.1 (1 + o2)), .int l2, .int o1, .ref (b j), .ref (a i)]) (uX7_textOf  ho2) kX7_textOf mX7_38 sX7_textOf zX7 okX7_textOf ⟨Nat.le_of_ble_eq_true rfl, Nat.le_of_ble_eq_true rfl⟩ rfl rfl (pm_none _) (pm_none _) rfl hl.1 rfl (Nat.le_of_ble_eq_true rfl) ⟨Nat.le_refl 0, Nat.le_refl 0⟩ rfl dX7_changeAll_32 (fun H locs hH => ?_)
        obtain ⟨o3, ho3, h⟩ := bd_x h
        obtain ⟨hk1, h⟩ := gk_x h
        refine r_VS X hH (ws1 := ((wX7 g a i xs) ++ (wX3 g b j xt))) (As := []) (rest := [.int l2, .int o1, .ref (b j), .ref (a i)]) (st1 := [.int o3, .int l2, .int o1, .ref (b j), .ref (a i)]) hk1 (uJ0_length_8abf5  ho3) kJ0_length_8abf5 mX7_42 iJ0_length_8abf5 vJ0_length_8abf5 zJ0 okJ0_length_8abf5 ⟨Nat.le_of_ble_eq_true rfl, Nat.le_of_ble_eq_true rfl⟩ rfl rfl (pm_none _) (pm_none _) rfl hl.1 rfl (Nat.le_of_ble_eq_true rfl) ⟨Nat.le_refl 0, Nat.le_refl 0⟩ rfl dX7_changeAll_35 (fun H locs hH => ?_)
        refine lv_iadd hx hb dX7_changeAll_38 ?_
        obtain ⟨o4, ho4, h⟩ := bd_x h
        refine r_V X hH (ws1 := ((wX7 g a i xs) ++ (wX3 g b j o4.2))) (As := [.ref (b j), .int o1, .int (l2 + o3)]) (rest := []) (st1 := [.int o4.1]) (uX7_change (a := a) (i := i) (b := b) (j := j) ho4) kX7_change mX7_60 iX7_change vX7_change zX7 okX7_change ⟨Nat.le_of_ble_eq_true rfl, Nat.le_of_ble_eq_true rfl⟩ rfl rfl (q0 := 0) rfl rfl (pm_all _) (pm_all _) rfl hl.1 rfl (Nat.le_of_ble_eq_true rfl) ⟨Nat.le_refl 0, Nat.le_refl 0⟩ rfl dX7_changeAll_39 (fun H locs hH => ?_)
        refine lv_if_ge (tgt := 51) hx hb dX7_changeAll_42 (by decide) (fun c3 => ?_) (fun c3 => ?_)
        · have h := it_x h c3
          refine lv_aload_n hx hb dX7_changeAll_51 rfl (lv_at hl 1 rfl) ?_
          refine lv_iload_n hx hb dX7_changeAll_52 rfl (lv_at hl 3 rfl) ?_
          refine lv_iload hx hb dX7_changeAll_53 (lv_at hl 0 rfl) ?_
          obtain ⟨o5, ho5, h⟩ := bd_x h
          refine r_V X hH (ws1 := ((wX7 g a i xs) ++ (wX3 g b j o4.2))) (As := [.int l2, .int o1]) (rest := []) (st1 := [.int o5]) (uX7_endOf (a := a) (i := i) ho5) kX7_endOf mX7_54 iX7_endOf vX7_endOf zX7 okX7_endOf ⟨Nat.le_of_ble_eq_true rfl, Nat.le_of_ble_eq_true rfl⟩ rfl rfl (q0 := 0) rfl rfl (pm_0 _ _) (pm_0 _ _) rfl hl.1 rfl (Nat.le_of_ble_eq_true rfl) ⟨Nat.le_refl 0, Nat.le_refl 0⟩ rfl dX7_changeAll_55 (fun H locs hH => ?_)
          refine s_in X (lv' := [(2, .int o5), (4, .int o1), (0, .ref (a i)), (1, .ref (b j)), (3, .int l3)]) hl rfl dX7_changeAll_58 rfl (by decide) rfl (fun ls hl => ?_)
          obtain ⟨v1, ev1, h⟩ := ltt_x h
          refine s_inc X (k := 4) (lv' := [(3, .int v1), (2, .int o5), (4, .int o1), (0, .ref (a i)), (1, .ref (b j))]) hl rfl (by rw [ev1]; rfl) dX7_changeAll_59 (by decide) rfl (fun ls hl => ?_)
          refine lv_goto (tgt := 4) hx hb dX7_changeAll_62 (by decide) ?_
          exact ih o4.2 o5 v1 H locs ls h hH (lv_sub hl [3, 4, 1, 0] rfl)
        · have h := ie_x h c3
          refine lv_sipush (v := (-2000 : Int32)) hx hb dX7_changeAll_45 (by decide) ?_
          refine lv_iload_n hx hb dX7_changeAll_48 rfl (lv_at hl 3 rfl) ?_
          refine lv_isub hx hb dX7_changeAll_49 ?_
          have h := Option.some.inj h
          subst h
          exact e_i X hH dX7_changeAll_50
set_option maxHeartbeats 4000000 in
set_option maxRecDepth 100000 in
theorem uX7_changeAll {l : Launch} {g : GG} {a : Nat → Nat} {i : Nat} {b : Nat → Nat} {j : Nat} {xs : SX7} {xt : SX3} {o : (Int32 × SX3)} (h : fX7_changeAll xs xt = some o) : mC l g yX7_changeAll cX7_changeAll 5 (some .int) (rM 6 131) [.ref (a i), .ref (b j)] ((wX7 g a i xs) ++ (wX3 g b j xt)) ((wX7 g a i xs) ++ (wX3 g b j o.2)) (some (.int o.1)) := by
  refine mC.ofW (by decide) (fun p e s m below meth c X hH ls _ hl => ?_) (Nat.le_of_ble_eq_true rfl)
  have hx := X.1
  have hb := X.2.1
  have hl : lv_has ls 5 [(0, .ref (a i)), (1, .ref (b j))] := hl
  unfold fX7_changeAll at h
  suffices HH : ∀ (H : Heap) (locs : List Loc), mH g s ((wX7 g a i xs) ++ (wX3 g b j xt)) ((wX7 g a i xs) ++ (wX3 g b j xt)) H locs → W p l e (rM 6 131) s m _ below meth c H locs 0 0 (mZ g below _ s ((wX7 g a i xs) ++ (wX3 g b j xt)) ((wX7 g a i xs) ++ (wX3 g b j o.2)) (some (.int o.1))) (F0 m 0 ls []) from HH _ _ hH
  clear hH
  intro H locs hH
  refine lv_iconst (v := (0 : Int32)) hx hb dX7_changeAll_0 (by decide) ?_
  refine s_in X (lv' := [(2, .int (0 : Int32)), (0, .ref (a i)), (1, .ref (b j))]) hl rfl dX7_changeAll_1 rfl (by decide) rfl (fun ls hl => ?_)
  refine lv_iconst (v := (0 : Int32)) hx hb dX7_changeAll_2 (by decide) ?_
  refine s_in X (lv' := [(3, .int (0 : Int32)), (2, .int (0 : Int32)), (0, .ref (a i)), (1, .ref (b j))]) hl rfl dX7_changeAll_3 rfl (by decide) rfl (fun ls hl => ?_)
  exact pX7_changeAll_4 X FU xt (0 : Int32) (0 : Int32) H locs ls h hH (lv_sub hl [2, 3, 1, 0] rfl)

def qX7_tellOnto_22   (xs : SX7) (xt : SX3) (t0 : Int32) : Option (Int32 × SX7 × SX3) :=
  ltt ((te_size_s xs (0 : Int32))) fun xs1 =>
  some (t0, xs1, xt)
def fX7_tellOnto (xs : SX7) (xt : SX3) : Option (Int32 × SX7 × SX3) :=
  (fX7_faultOfForm xs).bind fun o1 =>
  (if o1 < (0 : Int32) then
  (fX7_changeAll xs xt).bind fun o2 =>
  qX7_tellOnto_22  xs o2.2 o2.1
  else
  qX7_tellOnto_22  xs xt ((-1000 : Int32) - o1))
set_option maxHeartbeats 4000000 in
set_option maxRecDepth 100000 in
theorem pX7_tellOnto_22 {p : Program} {l : Launch} {e : Env} {s : State} {m : MethodId} {args : Array Value} {below : List Frame} {meth : Method} {c : Code} {g : GG} {w0 : va_W} {a : Nat → Nat} {i : Nat} {b : Nat → Nat} {j : Nat}  {o : (Int32 × SX7 × SX3)} (X : mX g yX7_tellOnto cX7_tellOnto 4 (some .int) p s m args meth c w0) :
  ∀ (xs : SX7) (xt : SX3) (t0 : Int32) (H : Heap) (locs : List Loc) (ls : Array Slot), qX7_tellOnto_22 xs xt t0 = some o → mH g s w0 ((wX7 g a i xs) ++ (wX3 g b j xt)) H locs → lv_has ls 4 [(0, .ref (a i)), (1, .ref (b j))] → W p l e (rM 7 155) s m args below meth c H locs 0 0 (mZ g below args s w0 ((wX7 g a i o.2.1) ++ (wX3 g b j o.2.2)) (some (.int o.1))) (F0 m 22 ls [.int t0]) := by
  have hx := X.1
  have hb := X.2.1
  intro xs xt t0 H locs ls h hH hl
  unfold qX7_tellOnto_22 at h
  refine s_in X (lv' := [(3, .int t0), (0, .ref (a i)), (1, .ref (b j))]) hl rfl dX7_tellOnto_22 rfl (by decide) rfl (fun ls hl => ?_)
  refine lv_aload_n hx hb dX7_tellOnto_23 rfl (lv_at hl 1 rfl) ?_
  refine lv_iconst (v := (0 : Int32)) hx hb dX7_tellOnto_24 (by decide) ?_
  obtain ⟨xs1, exs1, h⟩ := ltt_x h
  refine f_put X hH (ws1 := ((wX7 g a i xs1) ++ (wX3 g b j xt))) 0 rfl rfl 0 (by decide) inX7 tyX7 tyX7_ok nmX7 fX7_9 rfl rfl rfl (Nat.le_of_ble_eq_true rfl) (by rw [exs1]; rfl) dX7_tellOnto_25 (fun H locs hH => ?_)
  refine lv_iload_n hx hb dX7_tellOnto_28 rfl (lv_at hl 0 rfl) ?_
  have h := Option.some.inj h
  subst h
  exact e_i X hH dX7_tellOnto_29
set_option maxHeartbeats 4000000 in
set_option maxRecDepth 100000 in
theorem uX7_tellOnto {l : Launch} {g : GG} {a : Nat → Nat} {i : Nat} {b : Nat → Nat} {j : Nat} {xs : SX7} {xt : SX3} {o : (Int32 × SX7 × SX3)} (h : fX7_tellOnto xs xt = some o) : mC l g yX7_tellOnto cX7_tellOnto 4 (some .int) (rM 7 155) [.ref (a i), .ref (b j)] ((wX7 g a i xs) ++ (wX3 g b j xt)) ((wX7 g a i o.2.1) ++ (wX3 g b j o.2.2)) (some (.int o.1)) := by
  refine mC.ofW (by decide) (fun p e s m below meth c X hH ls _ hl => ?_) (Nat.le_of_ble_eq_true rfl)
  have hx := X.1
  have hb := X.2.1
  have hl : lv_has ls 4 [(0, .ref (a i)), (1, .ref (b j))] := hl
  unfold fX7_tellOnto at h
  suffices HH : ∀ (H : Heap) (locs : List Loc), mH g s ((wX7 g a i xs) ++ (wX3 g b j xt)) ((wX7 g a i xs) ++ (wX3 g b j xt)) H locs → W p l e (rM 7 155) s m _ below meth c H locs 0 0 (mZ g below _ s ((wX7 g a i xs) ++ (wX3 g b j xt)) ((wX7 g a i o.2.1) ++ (wX3 g b j o.2.2)) (some (.int o.1))) (F0 m 0 ls []) from HH _ _ hH
  clear hH
  intro H locs hH
  refine lv_aload_n hx hb dX7_tellOnto_0 rfl (lv_at hl 0 rfl) ?_
  obtain ⟨o1, ho1, h⟩ := bd_x h
  refine r_V X hH (ws1 := ((wX7 g a i xs) ++ (wX3 g b j xt))) (As := []) (rest := []) (st1 := [.int o1]) (uX7_faultOfForm (a := a) (i := i) ho1) kX7_faultOfForm mX7_23 iX7_faultOfForm vX7_faultOfForm zX7 okX7_faultOfForm ⟨Nat.le_of_ble_eq_true rfl, Nat.le_of_ble_eq_true rfl⟩ rfl rfl (q0 := 0) rfl rfl (pm_0 _ _) (pm_0 _ _) rfl hl.1 rfl (Nat.le_of_ble_eq_true rfl) ⟨Nat.le_refl 0, Nat.le_refl 0⟩ rfl dX7_tellOnto_1 (fun H locs hH => ?_)
  refine s_in X (lv' := [(2, .int o1), (0, .ref (a i)), (1, .ref (b j))]) hl rfl dX7_tellOnto_4 rfl (by decide) rfl (fun ls hl => ?_)
  refine lv_iload_n hx hb dX7_tellOnto_5 rfl (lv_at hl 0 rfl) ?_
  refine lv_if_lt (tgt := 17) hx hb dX7_tellOnto_6 (by decide) (fun c1 => ?_) (fun c1 => ?_)
  · have h := it_x h c1
    refine lv_aload_n hx hb dX7_tellOnto_17 rfl (lv_at hl 1 rfl) ?_
    refine lv_aload_n hx hb dX7_tellOnto_18 rfl (lv_at hl 2 rfl) ?_
    obtain ⟨o2, ho2, h⟩ := bd_x h
    refine r_V X hH (ws1 := ((wX7 g a i xs) ++ (wX3 g b j o2.2))) (As := [.ref (b j)]) (rest := []) (st1 := [.int o2.1]) (uX7_changeAll (a := a) (i := i) (b := b) (j := j) ho2) kX7_changeAll mX7_27 iX7_changeAll vX7_changeAll zX7 okX7_changeAll ⟨Nat.le_of_ble_eq_true rfl, Nat.le_of_ble_eq_true rfl⟩ rfl rfl (q0 := 0) rfl rfl (pm_all _) (pm_all _) rfl hl.1 rfl (Nat.le_of_ble_eq_true rfl) ⟨Nat.le_refl 0, Nat.le_refl 0⟩ rfl dX7_tellOnto_19 (fun H locs hH => ?_)
    exact pX7_tellOnto_22 X  xs o2.2 o2.1 H locs ls h hH (lv_sub hl [1, 2] rfl)
  · have h := ie_x h c1
    refine lv_sipush (v := (-1000 : Int32)) hx hb dX7_tellOnto_9 (by decide) ?_
    refine lv_iload_n hx hb dX7_tellOnto_12 rfl (lv_at hl 0 rfl) ?_
    refine lv_isub hx hb dX7_tellOnto_13 ?_
    refine lv_goto (tgt := 22) hx hb dX7_tellOnto_14 (by decide) ?_
    exact pX7_tellOnto_22 X  xs xt ((-1000 : Int32) - o1) H locs ls h hH (lv_sub hl [1, 2] rfl)

def fX8_counted (xs : SX8) (pa : Int32) : Option (Int32 × SX8) :=
  (if (0 : Int32) ≤ pa then
  some (pa, xs)
  else
  (if pa < (-6 : Int32) then
  some (pa, xs)
  else
  ga 7 (-pa) fun j1 =>
  ltt ((((w_refusals xs) j1) + (1 : Int32))) fun v1 =>
  ga 7 (-pa) fun j2 =>
  ltt ((w_refusals_s xs (upd (w_refusals xs) j2 v1))) fun xs1 =>
  some (pa, xs1)))
set_option maxHeartbeats 4000000 in
set_option maxRecDepth 100000 in
theorem uX8_counted {l : Launch} {g : GG} {a : Nat → Nat} {i : Nat} {xs : SX8} {pa : Int32} {o : (Int32 × SX8)} (h : fX8_counted xs pa = some o) : mC l g yX8_counted cX8_counted 2 (some .int) (rM 0 0) [.ref (a i), .int pa] (wX8 g a i xs) (wX8 g a i o.2) (some (.int o.1)) := by
  refine mC.ofW (by decide) (fun p e s m below meth c X hH ls _ hl => ?_) (Nat.le_of_ble_eq_true rfl)
  have hx := X.1
  have hb := X.2.1
  have hl : lv_has ls 2 [(0, .ref (a i)), (1, .int pa)] := hl
  unfold fX8_counted at h
  suffices HH : ∀ (H : Heap) (locs : List Loc), mH g s (wX8 g a i xs) (wX8 g a i xs) H locs → W p l e (rM 0 0) s m _ below meth c H locs 0 0 (mZ g below _ s (wX8 g a i xs) (wX8 g a i o.2) (some (.int o.1))) (F0 m 0 ls []) from HH _ _ hH
  clear hH
  intro H locs hH
  refine lv_iload_n hx hb dX8_counted_0 rfl (lv_at hl 1 rfl) ?_
  refine lv_if_ge (tgt := 21) hx hb dX8_counted_1 (by decide) (fun c1 => ?_) (fun c1 => ?_)
  · have h := it_x h c1
    refine lv_iload_n hx hb dX8_counted_21 rfl (lv_at hl 1 rfl) ?_
    have h := Option.some.inj h
    subst h
    exact e_i X hH dX8_counted_22
  · have h := ie_x h c1
    refine lv_iload_n hx hb dX8_counted_4 rfl (lv_at hl 1 rfl) ?_
    refine lv_bipush (v := (-6 : Int32)) hx hb dX8_counted_5 (by decide) ?_
    refine lv_icmp_lt (tgt := 21) hx hb dX8_counted_7 (by decide) (fun c2 => ?_) (fun c2 => ?_)
    · have h := it_x h c2
      refine lv_iload_n hx hb dX8_counted_21 rfl (lv_at hl 1 rfl) ?_
      have h := Option.some.inj h
      subst h
      exact e_i X hH dX8_counted_22
    · have h := ie_x h c2
      refine lv_aload_n hx hb dX8_counted_10 rfl (lv_at hl 0 rfl) ?_
      refine f_get X hH 0 rfl rfl 14 (by decide) inX8 fX8_87 rfl dX8_counted_11 ?_
      refine lv_iload_n hx hb dX8_counted_14 rfl (lv_at hl 1 rfl) ?_
      refine lv_ineg hx hb dX8_counted_15 ?_
      refine lv_dup2_11 hx hb dX8_counted_16 rfl rfl ?_
      obtain ⟨j1, ej1, hinj1, h⟩ := ga_x h
      refine a_il X hH 62 rfl hinj1 ej1 dX8_counted_17 ?_
      refine lv_iconst (v := (1 : Int32)) hx hb dX8_counted_18 (by decide) ?_
      refine lv_iadd hx hb dX8_counted_19 ?_
      obtain ⟨v1, ev1, h⟩ := ltt_x h
      refine lv_topi (fun y0 e0 => ?_)
      rw [← ev1] at e0
      subst y0
      obtain ⟨j2, ej2, hinj2, h⟩ := ga_x h
      obtain ⟨xs1, exs1, h⟩ := ltt_x h
      refine a_is X hH (ws1 := (wX8 g a i xs1)) 62 rfl hinj2 ej2 (by rw [exs1]; rfl) dX8_counted_20 (fun H locs hH => ?_)
      refine lv_iload_n hx hb dX8_counted_21 rfl (lv_at hl 1 rfl) ?_
      have h := Option.some.inj h
      subst h
      exact e_i X hH dX8_counted_22

def fX8_letter (xs : SX8) (pa : Int32) : Option (Int32 × SX8) :=
  (fX7_take (w_telling xs) pa).bind fun o1 =>
  ltt ((w_telling_s xs o1.2)) fun xs1 =>
  (fX8_counted xs1 o1.1).bind fun o2 =>
  some (o2.1, o2.2)
set_option maxHeartbeats 4000000 in
set_option maxRecDepth 100000 in
theorem uX8_letter {l : Launch} {g : GG} {a : Nat → Nat} {i : Nat} {xs : SX8} {pa : Int32} {o : (Int32 × SX8)} (h : fX8_letter xs pa = some o) : mC l g yX8_letter cX8_letter 2 (some .int) (rM 2 44) [.ref (a i), .int pa] (wX8 g a i xs) (wX8 g a i o.2) (some (.int o.1)) := by
  refine mC.ofW (by decide) (fun p e s m below meth c X hH ls _ hl => ?_) (Nat.le_of_ble_eq_true rfl)
  have hx := X.1
  have hb := X.2.1
  have hl : lv_has ls 2 [(0, .ref (a i)), (1, .int pa)] := hl
  unfold fX8_letter at h
  suffices HH : ∀ (H : Heap) (locs : List Loc), mH g s (wX8 g a i xs) (wX8 g a i xs) H locs → W p l e (rM 2 44) s m _ below meth c H locs 0 0 (mZ g below _ s (wX8 g a i xs) (wX8 g a i o.2) (some (.int o.1))) (F0 m 0 ls []) from HH _ _ hH
  clear hH
  intro H locs hH
  refine lv_aload_n hx hb dX8_letter_0 rfl (lv_at hl 0 rfl) ?_
  refine lv_aload_n hx hb dX8_letter_1 rfl (lv_at hl 0 rfl) ?_
  refine f_get X hH 0 rfl rfl 6 (by decide) inX8 fX8_40 rfl dX8_letter_2 ?_
  refine lv_iload_n hx hb dX8_letter_5 rfl (lv_at hl 1 rfl) ?_
  obtain ⟨o1, ho1, h⟩ := bd_x h
  obtain ⟨xs1, exs1, h⟩ := ltt_x h
  refine r_V X hH (ws1 := (wX8 g a i xs1)) (As := [.int pa]) (rest := [.ref (a i)]) (st1 := [.int o1.1, .ref (a i)]) (uX7_take (a := a) (i := (i + 34)) ho1) kX7_take mX8_90 iX7_take vX7_take zX7 okX7_take ⟨Nat.le_of_ble_eq_true rfl, Nat.le_of_ble_eq_true rfl⟩ rfl rfl (q0 := 34) rfl rfl (bX8_6) (by rw [exs1]; exact (bX8_6)) rfl hl.1 rfl (Nat.le_of_ble_eq_true rfl) ⟨Nat.le_refl 0, Nat.le_refl 0⟩ rfl dX8_letter_6 (fun H locs hH => ?_)
  obtain ⟨o2, ho2, h⟩ := bd_x h
  refine r_V X hH (ws1 := (wX8 g a i o2.2)) (As := [.int o1.1]) (rest := []) (st1 := [.int o2.1]) (uX8_counted (a := a) (i := i) ho2) kX8_counted mX8_94 iX8_counted vX8_counted zX8 okX8_counted ⟨Nat.le_of_ble_eq_true rfl, Nat.le_of_ble_eq_true rfl⟩ rfl rfl (q0 := 0) rfl rfl (pm_all _) (pm_all _) rfl hl.1 rfl (Nat.le_of_ble_eq_true rfl) ⟨Nat.le_refl 0, Nat.le_refl 0⟩ rfl dX8_letter_9 (fun H locs hH => ?_)
  have h := Option.some.inj h
  subst h
  exact e_i X hH dX8_letter_12

def fX8_tells (xs : SX8) : Option (Int32 × SX8) :=
  (fX3_copy (w_trial xs) (w_net xs)).bind fun o1 =>
  ltt ((w_trial_s xs o1)) fun xs1 =>
  (fX7_tellOnto (w_telling xs1) (w_trial xs1)).bind fun o2 =>
  ltt ((w_trial_s (w_telling_s xs1 o2.2.1) o2.2.2)) fun xs2 =>
  (if o2.1 ≤ (0 : Int32) then
  some (o2.1, xs2)
  else
  (fX3_copy (w_net xs2) (w_trial xs2)).bind fun o3 =>
  ltt ((w_net_s xs2 o3)) fun xs3 =>
  some (o2.1, xs3))
set_option maxHeartbeats 4000000 in
set_option maxRecDepth 100000 in
theorem uX8_tells {l : Launch} {g : GG} {a : Nat → Nat} {i : Nat} {xs : SX8} {o : (Int32 × SX8)} (h : fX8_tells xs = some o) : mC l g yX8_tells cX8_tells 2 (some .int) (rM 8 178) [.ref (a i)] (wX8 g a i xs) (wX8 g a i o.2) (some (.int o.1)) := by
  refine mC.ofW (by decide) (fun p e s m below meth c X hH ls _ hl => ?_) (Nat.le_of_ble_eq_true rfl)
  have hx := X.1
  have hb := X.2.1
  have hl : lv_has ls 2 [(0, .ref (a i))] := hl
  unfold fX8_tells at h
  suffices HH : ∀ (H : Heap) (locs : List Loc), mH g s (wX8 g a i xs) (wX8 g a i xs) H locs → W p l e (rM 8 178) s m _ below meth c H locs 0 0 (mZ g below _ s (wX8 g a i xs) (wX8 g a i o.2) (some (.int o.1))) (F0 m 0 ls []) from HH _ _ hH
  clear hH
  intro H locs hH
  refine lv_aload_n hx hb dX8_tells_0 rfl (lv_at hl 0 rfl) ?_
  refine f_get X hH 0 rfl rfl 1 (by decide) inX8 fX8_16 rfl dX8_tells_1 ?_
  refine lv_aload_n hx hb dX8_tells_4 rfl (lv_at hl 0 rfl) ?_
  refine f_get X hH 0 rfl rfl 0 (by decide) inX8 fX8_10 rfl dX8_tells_5 ?_
  obtain ⟨o1, ho1, h⟩ := bd_x h
  obtain ⟨xs1, exs1, h⟩ := ltt_x h
  refine r_V X hH (ws1 := (wX8 g a i xs1)) (As := [.ref (a (i + 1))]) (rest := []) (st1 := []) (uX3_copy (a := a) (i := (i + 8)) (b := a) (j := (i + 1)) ho1) kX3_copy mX8_97 iX3_copy vX3_copy zX3 okX3_copy ⟨Nat.le_of_ble_eq_true rfl, Nat.le_of_ble_eq_true rfl⟩ rfl rfl (q0 := 8) rfl rfl (pm_2 (bX8_2) (bX8_2_1)) (by rw [exs1]; exact (pm_2 (bX8_2) (bX8_2_1))) rfl hl.1 rfl (Nat.le_of_ble_eq_true rfl) ⟨Nat.le_refl 0, Nat.le_refl 0⟩ rfl dX8_tells_8 (fun H locs hH => ?_)
  refine lv_aload_n hx hb dX8_tells_11 rfl (lv_at hl 0 rfl) ?_
  refine f_get X hH 0 rfl rfl 6 (by decide) inX8 fX8_40 rfl dX8_tells_12 ?_
  refine lv_aload_n hx hb dX8_tells_15 rfl (lv_at hl 0 rfl) ?_
  refine f_get X hH 0 rfl rfl 1 (by decide) inX8 fX8_16 rfl dX8_tells_16 ?_
  obtain ⟨o2, ho2, h⟩ := bd_x h
  obtain ⟨xs2, exs2, h⟩ := ltt_x h
  refine r_V X hH (ws1 := (wX8 g a i xs2)) (As := [.ref (a (i + 8))]) (rest := []) (st1 := [.int o2.1]) (uX7_tellOnto (a := a) (i := (i + 34)) (b := a) (j := (i + 8)) ho2) kX7_tellOnto mX8_101 iX7_tellOnto vX7_tellOnto zX7 okX7_tellOnto ⟨Nat.le_of_ble_eq_true rfl, Nat.le_of_ble_eq_true rfl⟩ rfl rfl (q0 := 34) rfl rfl (pm_2 (bX8_6) (bX8_6_2)) (by rw [exs2]; exact (pm_2 (bX8_6) (bX8_6_2))) rfl hl.1 rfl (Nat.le_of_ble_eq_true rfl) ⟨Nat.le_refl 0, Nat.le_refl 0⟩ rfl dX8_tells_19 (fun H locs hH => ?_)
  refine s_in X (lv' := [(1, .int o2.1), (0, .ref (a i))]) hl rfl dX8_tells_22 rfl (by decide) rfl (fun ls hl => ?_)
  refine lv_iload_n hx hb dX8_tells_23 rfl (lv_at hl 0 rfl) ?_
  refine lv_if_le (tgt := 38) hx hb dX8_tells_24 (by decide) (fun c1 => ?_) (fun c1 => ?_)
  · have h := it_x h c1
    refine lv_iload_n hx hb dX8_tells_38 rfl (lv_at hl 0 rfl) ?_
    have h := Option.some.inj h
    subst h
    exact e_i X hH dX8_tells_39
  · have h := ie_x h c1
    refine lv_aload_n hx hb dX8_tells_27 rfl (lv_at hl 1 rfl) ?_
    refine f_get X hH 0 rfl rfl 0 (by decide) inX8 fX8_10 rfl dX8_tells_28 ?_
    refine lv_aload_n hx hb dX8_tells_31 rfl (lv_at hl 1 rfl) ?_
    refine f_get X hH 0 rfl rfl 1 (by decide) inX8 fX8_16 rfl dX8_tells_32 ?_
    obtain ⟨o3, ho3, h⟩ := bd_x h
    obtain ⟨xs3, exs3, h⟩ := ltt_x h
    refine r_V X hH (ws1 := (wX8 g a i xs3)) (As := [.ref (a (i + 8))]) (rest := []) (st1 := []) (uX3_copy (a := a) (i := (i + 1)) (b := a) (j := (i + 8)) ho3) kX3_copy mX8_97 iX3_copy vX3_copy zX3 okX3_copy ⟨Nat.le_of_ble_eq_true rfl, Nat.le_of_ble_eq_true rfl⟩ rfl rfl (q0 := 1) rfl rfl (pm_2 (bX8_1) (bX8_1_2)) (by rw [exs3]; exact (pm_2 (bX8_1) (bX8_1_2))) rfl hl.1 rfl (Nat.le_of_ble_eq_true rfl) ⟨Nat.le_refl 0, Nat.le_refl 0⟩ rfl dX8_tells_35 (fun H locs hH => ?_)
    refine lv_iload_n hx hb dX8_tells_38 rfl (lv_at hl 0 rfl) ?_
    have h := Option.some.inj h
    subst h
    exact e_i X hH dX8_tells_39

def fX8_points (xs : SX8) (pa : Int32) : Option (Int32 × SX8) :=
  (fX3_changePoints (w_net xs) pa).bind fun o1 =>
  ltt ((w_net_s xs o1.2)) fun xs1 =>
  (fX8_counted xs1 o1.1).bind fun o2 =>
  some (o2.1, o2.2)
set_option maxHeartbeats 4000000 in
set_option maxRecDepth 100000 in
theorem uX8_points {l : Launch} {g : GG} {a : Nat → Nat} {i : Nat} {xs : SX8} {pa : Int32} {o : (Int32 × SX8)} (h : fX8_points xs pa = some o) : mC l g yX8_points cX8_points 2 (some .int) (rM 2 48) [.ref (a i), .int pa] (wX8 g a i xs) (wX8 g a i o.2) (some (.int o.1)) := by
  refine mC.ofW (by decide) (fun p e s m below meth c X hH ls _ hl => ?_) (Nat.le_of_ble_eq_true rfl)
  have hx := X.1
  have hb := X.2.1
  have hl : lv_has ls 2 [(0, .ref (a i)), (1, .int pa)] := hl
  unfold fX8_points at h
  suffices HH : ∀ (H : Heap) (locs : List Loc), mH g s (wX8 g a i xs) (wX8 g a i xs) H locs → W p l e (rM 2 48) s m _ below meth c H locs 0 0 (mZ g below _ s (wX8 g a i xs) (wX8 g a i o.2) (some (.int o.1))) (F0 m 0 ls []) from HH _ _ hH
  clear hH
  intro H locs hH
  refine lv_aload_n hx hb dX8_points_0 rfl (lv_at hl 0 rfl) ?_
  refine lv_aload_n hx hb dX8_points_1 rfl (lv_at hl 0 rfl) ?_
  refine f_get X hH 0 rfl rfl 0 (by decide) inX8 fX8_10 rfl dX8_points_2 ?_
  refine lv_iload_n hx hb dX8_points_5 rfl (lv_at hl 1 rfl) ?_
  obtain ⟨o1, ho1, h⟩ := bd_x h
  obtain ⟨xs1, exs1, h⟩ := ltt_x h
  refine r_V X hH (ws1 := (wX8 g a i xs1)) (As := [.int pa]) (rest := [.ref (a i)]) (st1 := [.int o1.1, .ref (a i)]) (uX3_changePoints (a := a) (i := (i + 1)) ho1) kX3_changePoints mX8_105 iX3_changePoints vX3_changePoints zX3 okX3_changePoints ⟨Nat.le_of_ble_eq_true rfl, Nat.le_of_ble_eq_true rfl⟩ rfl rfl (q0 := 1) rfl rfl (bX8_1) (by rw [exs1]; exact (bX8_1)) rfl hl.1 rfl (Nat.le_of_ble_eq_true rfl) ⟨Nat.le_refl 0, Nat.le_refl 0⟩ rfl dX8_points_6 (fun H locs hH => ?_)
  obtain ⟨o2, ho2, h⟩ := bd_x h
  refine r_V X hH (ws1 := (wX8 g a i o2.2)) (As := [.int o1.1]) (rest := []) (st1 := [.int o2.1]) (uX8_counted (a := a) (i := i) ho2) kX8_counted mX8_94 iX8_counted vX8_counted zX8 okX8_counted ⟨Nat.le_of_ble_eq_true rfl, Nat.le_of_ble_eq_true rfl⟩ rfl rfl (q0 := 0) rfl rfl (pm_all _) (pm_all _) rfl hl.1 rfl (Nat.le_of_ble_eq_true rfl) ⟨Nat.le_refl 0, Nat.le_refl 0⟩ rfl dX8_points_9 (fun H locs hH => ?_)
  have h := Option.some.inj h
  subst h
  exact e_i X hH dX8_points_12

def fX8_way (xs : SX8) (pa : Int32) (pb : Int32) (pc_ : Int32) (pd : Int32) : Option (Int32 × SX8) :=
  (fX3_join (w_net xs) pa pb pc_ pd).bind fun o1 =>
  ltt ((w_net_s xs o1.2)) fun xs1 =>
  (fX8_counted xs1 o1.1).bind fun o2 =>
  some (o2.1, o2.2)
set_option maxHeartbeats 4000000 in
set_option maxRecDepth 100000 in
theorem uX8_way {l : Launch} {g : GG} {a : Nat → Nat} {i : Nat} {xs : SX8} {pa : Int32} {pb : Int32} {pc_ : Int32} {pd : Int32} {o : (Int32 × SX8)} (h : fX8_way xs pa pb pc_ pd = some o) : mC l g yX8_way cX8_way 5 (some .int) (rM 2 50) [.ref (a i), .int pa, .int pb, .int pc_, .int pd] (wX8 g a i xs) (wX8 g a i o.2) (some (.int o.1)) := by
  refine mC.ofW (by decide) (fun p e s m below meth c X hH ls _ hl => ?_) (Nat.le_of_ble_eq_true rfl)
  have hx := X.1
  have hb := X.2.1
  have hl : lv_has ls 5 [(0, .ref (a i)), (1, .int pa), (2, .int pb), (3, .int pc_), (4, .int pd)] := hl
  unfold fX8_way at h
  suffices HH : ∀ (H : Heap) (locs : List Loc), mH g s (wX8 g a i xs) (wX8 g a i xs) H locs → W p l e (rM 2 50) s m _ below meth c H locs 0 0 (mZ g below _ s (wX8 g a i xs) (wX8 g a i o.2) (some (.int o.1))) (F0 m 0 ls []) from HH _ _ hH
  clear hH
  intro H locs hH
  refine lv_aload_n hx hb dX8_way_0 rfl (lv_at hl 0 rfl) ?_
  refine lv_aload_n hx hb dX8_way_1 rfl (lv_at hl 0 rfl) ?_
  refine f_get X hH 0 rfl rfl 0 (by decide) inX8 fX8_10 rfl dX8_way_2 ?_
  refine lv_iload_n hx hb dX8_way_5 rfl (lv_at hl 1 rfl) ?_
  refine lv_iload_n hx hb dX8_way_6 rfl (lv_at hl 2 rfl) ?_
  refine lv_iload_n hx hb dX8_way_7 rfl (lv_at hl 3 rfl) ?_
  refine lv_iload hx hb dX8_way_8 (lv_at hl 4 rfl) ?_
  obtain ⟨o1, ho1, h⟩ := bd_x h
  obtain ⟨xs1, exs1, h⟩ := ltt_x h
  refine r_V X hH (ws1 := (wX8 g a i xs1)) (As := [.int pa, .int pb, .int pc_, .int pd]) (rest := [.ref (a i)]) (st1 := [.int o1.1, .ref (a i)]) (uX3_join (a := a) (i := (i + 1)) ho1) kX3_join mX8_108 iX3_join vX3_join zX3 okX3_join ⟨Nat.le_of_ble_eq_true rfl, Nat.le_of_ble_eq_true rfl⟩ rfl rfl (q0 := 1) rfl rfl (bX8_1) (by rw [exs1]; exact (bX8_1)) rfl hl.1 rfl (Nat.le_of_ble_eq_true rfl) ⟨Nat.le_refl 0, Nat.le_refl 0⟩ rfl dX8_way_10 (fun H locs hH => ?_)
  obtain ⟨o2, ho2, h⟩ := bd_x h
  refine r_V X hH (ws1 := (wX8 g a i o2.2)) (As := [.int o1.1]) (rest := []) (st1 := [.int o2.1]) (uX8_counted (a := a) (i := i) ho2) kX8_counted mX8_94 iX8_counted vX8_counted zX8 okX8_counted ⟨Nat.le_of_ble_eq_true rfl, Nat.le_of_ble_eq_true rfl⟩ rfl rfl (q0 := 0) rfl rfl (pm_all _) (pm_all _) rfl hl.1 rfl (Nat.le_of_ble_eq_true rfl) ⟨Nat.le_refl 0, Nat.le_refl 0⟩ rfl dX8_way_13 (fun H locs hH => ?_)
  have h := Option.some.inj h
  subst h
  exact e_i X hH dX8_way_16

def fX8_kind (xs : SX8) (pa : Int32) (pb : Int32) (pc_ : Int32) : Option (Int32 × SX8) :=
  (fX3_changeKind (w_net xs) pa pb pc_).bind fun o1 =>
  ltt ((w_net_s xs o1.2)) fun xs1 =>
  (fX8_counted xs1 o1.1).bind fun o2 =>
  some (o2.1, o2.2)
set_option maxHeartbeats 4000000 in
set_option maxRecDepth 100000 in
theorem uX8_kind {l : Launch} {g : GG} {a : Nat → Nat} {i : Nat} {xs : SX8} {pa : Int32} {pb : Int32} {pc_ : Int32} {o : (Int32 × SX8)} (h : fX8_kind xs pa pb pc_ = some o) : mC l g yX8_kind cX8_kind 4 (some .int) (rM 2 47) [.ref (a i), .int pa, .int pb, .int pc_] (wX8 g a i xs) (wX8 g a i o.2) (some (.int o.1)) := by
  refine mC.ofW (by decide) (fun p e s m below meth c X hH ls _ hl => ?_) (Nat.le_of_ble_eq_true rfl)
  have hx := X.1
  have hb := X.2.1
  have hl : lv_has ls 4 [(0, .ref (a i)), (1, .int pa), (2, .int pb), (3, .int pc_)] := hl
  unfold fX8_kind at h
  suffices HH : ∀ (H : Heap) (locs : List Loc), mH g s (wX8 g a i xs) (wX8 g a i xs) H locs → W p l e (rM 2 47) s m _ below meth c H locs 0 0 (mZ g below _ s (wX8 g a i xs) (wX8 g a i o.2) (some (.int o.1))) (F0 m 0 ls []) from HH _ _ hH
  clear hH
  intro H locs hH
  refine lv_aload_n hx hb dX8_kind_0 rfl (lv_at hl 0 rfl) ?_
  refine lv_aload_n hx hb dX8_kind_1 rfl (lv_at hl 0 rfl) ?_
  refine f_get X hH 0 rfl rfl 0 (by decide) inX8 fX8_10 rfl dX8_kind_2 ?_
  refine lv_iload_n hx hb dX8_kind_5 rfl (lv_at hl 1 rfl) ?_
  refine lv_iload_n hx hb dX8_kind_6 rfl (lv_at hl 2 rfl) ?_
  refine lv_iload_n hx hb dX8_kind_7 rfl (lv_at hl 3 rfl) ?_
  obtain ⟨o1, ho1, h⟩ := bd_x h
  obtain ⟨xs1, exs1, h⟩ := ltt_x h
  refine r_V X hH (ws1 := (wX8 g a i xs1)) (As := [.int pa, .int pb, .int pc_]) (rest := [.ref (a i)]) (st1 := [.int o1.1, .ref (a i)]) (uX3_changeKind (a := a) (i := (i + 1)) ho1) kX3_changeKind mX8_112 iX3_changeKind vX3_changeKind zX3 okX3_changeKind ⟨Nat.le_of_ble_eq_true rfl, Nat.le_of_ble_eq_true rfl⟩ rfl rfl (q0 := 1) rfl rfl (bX8_1) (by rw [exs1]; exact (bX8_1)) rfl hl.1 rfl (Nat.le_of_ble_eq_true rfl) ⟨Nat.le_refl 0, Nat.le_refl 0⟩ rfl dX8_kind_8 (fun H locs hH => ?_)
  obtain ⟨o2, ho2, h⟩ := bd_x h
  refine r_V X hH (ws1 := (wX8 g a i o2.2)) (As := [.int o1.1]) (rest := []) (st1 := [.int o2.1]) (uX8_counted (a := a) (i := i) ho2) kX8_counted mX8_94 iX8_counted vX8_counted zX8 okX8_counted ⟨Nat.le_of_ble_eq_true rfl, Nat.le_of_ble_eq_true rfl⟩ rfl rfl (q0 := 0) rfl rfl (pm_all _) (pm_all _) rfl hl.1 rfl (Nat.le_of_ble_eq_true rfl) ⟨Nat.le_refl 0, Nat.le_refl 0⟩ rfl dX8_kind_11 (fun H locs hH => ?_)
  have h := Option.some.inj h
  subst h
  exact e_i X hH dX8_kind_14

def fX8_load (xs : SX8) (pa : Int32) (pb : Int32) : Option (Int32 × SX8) :=
  (fX3_changeLoad (w_net xs) pa pb).bind fun o1 =>
  ltt ((w_net_s xs o1.2)) fun xs1 =>
  (fX8_counted xs1 o1.1).bind fun o2 =>
  some (o2.1, o2.2)
set_option maxHeartbeats 4000000 in
set_option maxRecDepth 100000 in
theorem uX8_load {l : Launch} {g : GG} {a : Nat → Nat} {i : Nat} {xs : SX8} {pa : Int32} {pb : Int32} {o : (Int32 × SX8)} (h : fX8_load xs pa pb = some o) : mC l g yX8_load cX8_load 3 (some .int) (rM 2 46) [.ref (a i), .int pa, .int pb] (wX8 g a i xs) (wX8 g a i o.2) (some (.int o.1)) := by
  refine mC.ofW (by decide) (fun p e s m below meth c X hH ls _ hl => ?_) (Nat.le_of_ble_eq_true rfl)
  have hx := X.1
  have hb := X.2.1
  have hl : lv_has ls 3 [(0, .ref (a i)), (1, .int pa), (2, .int pb)] := hl
  unfold fX8_load at h
  suffices HH : ∀ (H : Heap) (locs : List Loc), mH g s (wX8 g a i xs) (wX8 g a i xs) H locs → W p l e (rM 2 46) s m _ below meth c H locs 0 0 (mZ g below _ s (wX8 g a i xs) (wX8 g a i o.2) (some (.int o.1))) (F0 m 0 ls []) from HH _ _ hH
  clear hH
  intro H locs hH
  refine lv_aload_n hx hb dX8_load_0 rfl (lv_at hl 0 rfl) ?_
  refine lv_aload_n hx hb dX8_load_1 rfl (lv_at hl 0 rfl) ?_
  refine f_get X hH 0 rfl rfl 0 (by decide) inX8 fX8_10 rfl dX8_load_2 ?_
  refine lv_iload_n hx hb dX8_load_5 rfl (lv_at hl 1 rfl) ?_
  refine lv_iload_n hx hb dX8_load_6 rfl (lv_at hl 2 rfl) ?_
  obtain ⟨o1, ho1, h⟩ := bd_x h
  obtain ⟨xs1, exs1, h⟩ := ltt_x h
  refine r_V X hH (ws1 := (wX8 g a i xs1)) (As := [.int pa, .int pb]) (rest := [.ref (a i)]) (st1 := [.int o1.1, .ref (a i)]) (uX3_changeLoad (a := a) (i := (i + 1)) ho1) kX3_changeLoad mX8_116 iX3_changeLoad vX3_changeLoad zX3 okX3_changeLoad ⟨Nat.le_of_ble_eq_true rfl, Nat.le_of_ble_eq_true rfl⟩ rfl rfl (q0 := 1) rfl rfl (bX8_1) (by rw [exs1]; exact (bX8_1)) rfl hl.1 rfl (Nat.le_of_ble_eq_true rfl) ⟨Nat.le_refl 0, Nat.le_refl 0⟩ rfl dX8_load_7 (fun H locs hH => ?_)
  obtain ⟨o2, ho2, h⟩ := bd_x h
  refine r_V X hH (ws1 := (wX8 g a i o2.2)) (As := [.int o1.1]) (rest := []) (st1 := [.int o2.1]) (uX8_counted (a := a) (i := i) ho2) kX8_counted mX8_94 iX8_counted vX8_counted zX8 okX8_counted ⟨Nat.le_of_ble_eq_true rfl, Nat.le_of_ble_eq_true rfl⟩ rfl rfl (q0 := 0) rfl rfl (pm_all _) (pm_all _) rfl hl.1 rfl (Nat.le_of_ble_eq_true rfl) ⟨Nat.le_refl 0, Nat.le_refl 0⟩ rfl dX8_load_10 (fun H locs hH => ?_)
  have h := Option.some.inj h
  subst h
  exact e_i X hH dX8_load_13

def fX8_length (xs : SX8) (pa : Int32) (pb : Int32) : Option (Int32 × SX8) :=
  (fX3_changeLength (w_net xs) pa pb).bind fun o1 =>
  ltt ((w_net_s xs o1.2)) fun xs1 =>
  (fX8_counted xs1 o1.1).bind fun o2 =>
  some (o2.1, o2.2)
set_option maxHeartbeats 4000000 in
set_option maxRecDepth 100000 in
theorem uX8_length {l : Launch} {g : GG} {a : Nat → Nat} {i : Nat} {xs : SX8} {pa : Int32} {pb : Int32} {o : (Int32 × SX8)} (h : fX8_length xs pa pb = some o) : mC l g yX8_length cX8_length 3 (some .int) (rM 2 46) [.ref (a i), .int pa, .int pb] (wX8 g a i xs) (wX8 g a i o.2) (some (.int o.1)) := by
  refine mC.ofW (by decide) (fun p e s m below meth c X hH ls _ hl => ?_) (Nat.le_of_ble_eq_true rfl)
  have hx := X.1
  have hb := X.2.1
  have hl : lv_has ls 3 [(0, .ref (a i)), (1, .int pa), (2, .int pb)] := hl
  unfold fX8_length at h
  suffices HH : ∀ (H : Heap) (locs : List Loc), mH g s (wX8 g a i xs) (wX8 g a i xs) H locs → W p l e (rM 2 46) s m _ below meth c H locs 0 0 (mZ g below _ s (wX8 g a i xs) (wX8 g a i o.2) (some (.int o.1))) (F0 m 0 ls []) from HH _ _ hH
  clear hH
  intro H locs hH
  refine lv_aload_n hx hb dX8_length_0 rfl (lv_at hl 0 rfl) ?_
  refine lv_aload_n hx hb dX8_length_1 rfl (lv_at hl 0 rfl) ?_
  refine f_get X hH 0 rfl rfl 0 (by decide) inX8 fX8_10 rfl dX8_length_2 ?_
  refine lv_iload_n hx hb dX8_length_5 rfl (lv_at hl 1 rfl) ?_
  refine lv_iload_n hx hb dX8_length_6 rfl (lv_at hl 2 rfl) ?_
  obtain ⟨o1, ho1, h⟩ := bd_x h
  obtain ⟨xs1, exs1, h⟩ := ltt_x h
  refine r_V X hH (ws1 := (wX8 g a i xs1)) (As := [.int pa, .int pb]) (rest := [.ref (a i)]) (st1 := [.int o1.1, .ref (a i)]) (uX3_changeLength (a := a) (i := (i + 1)) ho1) kX3_changeLength mX8_120 iX3_changeLength vX3_changeLength zX3 okX3_changeLength ⟨Nat.le_of_ble_eq_true rfl, Nat.le_of_ble_eq_true rfl⟩ rfl rfl (q0 := 1) rfl rfl (bX8_1) (by rw [exs1]; exact (bX8_1)) rfl hl.1 rfl (Nat.le_of_ble_eq_true rfl) ⟨Nat.le_refl 0, Nat.le_refl 0⟩ rfl dX8_length_7 (fun H locs hH => ?_)
  obtain ⟨o2, ho2, h⟩ := bd_x h
  refine r_V X hH (ws1 := (wX8 g a i o2.2)) (As := [.int o1.1]) (rest := []) (st1 := [.int o2.1]) (uX8_counted (a := a) (i := i) ho2) kX8_counted mX8_94 iX8_counted vX8_counted zX8 okX8_counted ⟨Nat.le_of_ble_eq_true rfl, Nat.le_of_ble_eq_true rfl⟩ rfl rfl (q0 := 0) rfl rfl (pm_all _) (pm_all _) rfl hl.1 rfl (Nat.le_of_ble_eq_true rfl) ⟨Nat.le_refl 0, Nat.le_refl 0⟩ rfl dX8_length_10 (fun H locs hH => ?_)
  have h := Option.some.inj h
  subst h
  exact e_i X hH dX8_length_13

def fX8_lose (xs : SX8) (pa : Int32) : Option (Int32 × SX8) :=
  (fX3_drop (w_net xs) pa).bind fun o1 =>
  ltt ((w_net_s xs o1.2)) fun xs1 =>
  (fX8_counted xs1 o1.1).bind fun o2 =>
  some (o2.1, o2.2)
set_option maxHeartbeats 4000000 in
set_option maxRecDepth 100000 in
theorem uX8_lose {l : Launch} {g : GG} {a : Nat → Nat} {i : Nat} {xs : SX8} {pa : Int32} {o : (Int32 × SX8)} (h : fX8_lose xs pa = some o) : mC l g yX8_lose cX8_lose 2 (some .int) (rM 2 45) [.ref (a i), .int pa] (wX8 g a i xs) (wX8 g a i o.2) (some (.int o.1)) := by
  refine mC.ofW (by decide) (fun p e s m below meth c X hH ls _ hl => ?_) (Nat.le_of_ble_eq_true rfl)
  have hx := X.1
  have hb := X.2.1
  have hl : lv_has ls 2 [(0, .ref (a i)), (1, .int pa)] := hl
  unfold fX8_lose at h
  suffices HH : ∀ (H : Heap) (locs : List Loc), mH g s (wX8 g a i xs) (wX8 g a i xs) H locs → W p l e (rM 2 45) s m _ below meth c H locs 0 0 (mZ g below _ s (wX8 g a i xs) (wX8 g a i o.2) (some (.int o.1))) (F0 m 0 ls []) from HH _ _ hH
  clear hH
  intro H locs hH
  refine lv_aload_n hx hb dX8_lose_0 rfl (lv_at hl 0 rfl) ?_
  refine lv_aload_n hx hb dX8_lose_1 rfl (lv_at hl 0 rfl) ?_
  refine f_get X hH 0 rfl rfl 0 (by decide) inX8 fX8_10 rfl dX8_lose_2 ?_
  refine lv_iload_n hx hb dX8_lose_5 rfl (lv_at hl 1 rfl) ?_
  obtain ⟨o1, ho1, h⟩ := bd_x h
  obtain ⟨xs1, exs1, h⟩ := ltt_x h
  refine r_V X hH (ws1 := (wX8 g a i xs1)) (As := [.int pa]) (rest := [.ref (a i)]) (st1 := [.int o1.1, .ref (a i)]) (uX3_drop (a := a) (i := (i + 1)) ho1) kX3_drop mX8_123 iX3_drop vX3_drop zX3 okX3_drop ⟨Nat.le_of_ble_eq_true rfl, Nat.le_of_ble_eq_true rfl⟩ rfl rfl (q0 := 1) rfl rfl (bX8_1) (by rw [exs1]; exact (bX8_1)) rfl hl.1 rfl (Nat.le_of_ble_eq_true rfl) ⟨Nat.le_refl 0, Nat.le_refl 0⟩ rfl dX8_lose_6 (fun H locs hH => ?_)
  obtain ⟨o2, ho2, h⟩ := bd_x h
  refine r_V X hH (ws1 := (wX8 g a i o2.2)) (As := [.int o1.1]) (rest := []) (st1 := [.int o2.1]) (uX8_counted (a := a) (i := i) ho2) kX8_counted mX8_94 iX8_counted vX8_counted zX8 okX8_counted ⟨Nat.le_of_ble_eq_true rfl, Nat.le_of_ble_eq_true rfl⟩ rfl rfl (q0 := 0) rfl rfl (pm_all _) (pm_all _) rfl hl.1 rfl (Nat.le_of_ble_eq_true rfl) ⟨Nat.le_refl 0, Nat.le_refl 0⟩ rfl dX8_lose_9 (fun H locs hH => ?_)
  have h := Option.some.inj h
  subst h
  exact e_i X hH dX8_lose_12

def fX8_of (xs : SX8) (pa : Int32) (pb : Int32) : Option (Int32 × SX8) :=
  (fX3_isWay (w_net xs) pa).bind fun o1 =>
  (if o1 = (0 : Int32) then
  (fX8_counted xs (-1 : Int32)).bind fun o5 =>
  some (o5.1, o5.2)
  else
  (if pb = (0 : Int32) then
  ga 11 pa fun j6 =>
  some (((n_first (w_net xs)) j6), xs)
  else
  (if pb = (1 : Int32) then
  ga 11 pa fun j5 =>
  some (((n_second (w_net xs)) j5), xs)
  else
  (if pb = (2 : Int32) then
  ga 11 pa fun j4 =>
  some (((n_kinds (w_net xs)) j4), xs)
  else
  (if pb = (3 : Int32) then
  ga 11 pa fun j3 =>
  some (((n_figures (w_net xs)) j3), xs)
  else
  (if pb = (4 : Int32) then
  ga 11 pa fun j2 =>
  some (((n_loads (w_net xs)) j2), xs)
  else
  (if pb = (5 : Int32) then
  ga 11 pa fun j1 =>
  some (((n_lengths (w_net xs)) j1), xs)
  else
  (if pb = (6 : Int32) then
  (fX3_weight (w_net xs) pa).bind fun o4 =>
  some (o4, xs)
  else
  (if pb = (7 : Int32) then
  (fX3_minutes (w_net xs) pa).bind fun o3 =>
  some (o3, xs)
  else
  (fX8_counted xs (-2 : Int32)).bind fun o2 =>
  some (o2.1, o2.2))))))))))
set_option maxHeartbeats 4000000 in
set_option maxRecDepth 100000 in
theorem uX8_of {l : Launch} {g : GG} {a : Nat → Nat} {i : Nat} {xs : SX8} {pa : Int32} {pb : Int32} {o : (Int32 × SX8)} (h : fX8_of xs pa pb = some o) : mC l g yX8_of cX8_of 3 (some .int) (rM 2 43) [.ref (a i), .int pa, .int pb] (wX8 g a i xs) (wX8 g a i o.2) (some (.int o.1)) := by
  refine mC.ofW (by decide) (fun p e s m below meth c X hH ls _ hl => ?_) (Nat.le_of_ble_eq_true rfl)
  have hx := X.1
  have hb := X.2.1
  have hl : lv_has ls 3 [(0, .ref (a i)), (1, .int pa), (2, .int pb)] := hl
  unfold fX8_of at h
  suffices HH : ∀ (H : Heap) (locs : List Loc), mH g s (wX8 g a i xs) (wX8 g a i xs) H locs → W p l e (rM 2 43) s m _ below meth c H locs 0 0 (mZ g below _ s (wX8 g a i xs) (wX8 g a i o.2) (some (.int o.1))) (F0 m 0 ls []) from HH _ _ hH
  clear hH
  intro H locs hH
  refine lv_aload_n hx hb dX8_of_0 rfl (lv_at hl 0 rfl) ?_
  refine f_get X hH 0 rfl rfl 0 (by decide) inX8 fX8_10 rfl dX8_of_1 ?_
  refine lv_iload_n hx hb dX8_of_4 rfl (lv_at hl 1 rfl) ?_
  obtain ⟨o1, ho1, h⟩ := bd_x h
  refine r_V X hH (ws1 := (wX8 g a i xs)) (As := [.int pa]) (rest := []) (st1 := [.int o1]) (uX3_isWay (a := a) (i := (i + 1)) ho1) kX3_isWay mX8_126 iX3_isWay vX3_isWay zX3 okX3_isWay ⟨Nat.le_of_ble_eq_true rfl, Nat.le_of_ble_eq_true rfl⟩ rfl rfl (q0 := 1) rfl rfl (bX8_1) (bX8_1) rfl hl.1 rfl (Nat.le_of_ble_eq_true rfl) ⟨Nat.le_refl 0, Nat.le_refl 0⟩ rfl dX8_of_5 (fun H locs hH => ?_)
  refine lv_if_ne (tgt := 17) hx hb dX8_of_8 (by decide) (fun c1 => ?_) (fun c1 => ?_)
  · have h := ie_x h c1
    refine lv_iload_n hx hb dX8_of_17 rfl (lv_at hl 2 rfl) ?_
    rcases Classical.em (pb = (0 : Int32)) with c2 | c2
    · have h := it_x h c2
      refine lv_tableIn (tgt := 64) hx hb dX8_of_18 (by rw [c2]; decide) (by rw [c2]; decide) (off := 46) (by rw [c2]; decide) (by decide) ?_
      refine lv_aload_n hx hb dX8_of_64 rfl (lv_at hl 0 rfl) ?_
      refine f_get X hH 0 rfl rfl 0 (by decide) inX8 fX8_10 rfl dX8_of_65 ?_
      refine f_get X hH 1 rfl rfl 2 (by decide) inX3 fX8_130 rfl dX8_of_68 ?_
      refine lv_iload_n hx hb dX8_of_71 rfl (lv_at hl 1 rfl) ?_
      obtain ⟨j6, ej6, hinj6, h⟩ := ga_x h
      refine a_il X hH 2 rfl hinj6 ej6 dX8_of_72 ?_
      have h := Option.some.inj h
      subst h
      exact e_i X hH dX8_of_73
    · have h := ie_x h c2
      rcases Classical.em (pb = (1 : Int32)) with c3 | c3
      · have h := it_x h c3
        refine lv_tableIn (tgt := 74) hx hb dX8_of_18 (by rw [c3]; decide) (by rw [c3]; decide) (off := 56) (by rw [c3]; decide) (by decide) ?_
        refine lv_aload_n hx hb dX8_of_74 rfl (lv_at hl 0 rfl) ?_
        refine f_get X hH 0 rfl rfl 0 (by decide) inX8 fX8_10 rfl dX8_of_75 ?_
        refine f_get X hH 1 rfl rfl 3 (by decide) inX3 fX8_133 rfl dX8_of_78 ?_
        refine lv_iload_n hx hb dX8_of_81 rfl (lv_at hl 1 rfl) ?_
        obtain ⟨j5, ej5, hinj5, h⟩ := ga_x h
        refine a_il X hH 3 rfl hinj5 ej5 dX8_of_82 ?_
        have h := Option.some.inj h
        subst h
        exact e_i X hH dX8_of_83
      · have h := ie_x h c3
        rcases Classical.em (pb = (2 : Int32)) with c4 | c4
        · have h := it_x h c4
          refine lv_tableIn (tgt := 84) hx hb dX8_of_18 (by rw [c4]; decide) (by rw [c4]; decide) (off := 66) (by rw [c4]; decide) (by decide) ?_
          refine lv_aload_n hx hb dX8_of_84 rfl (lv_at hl 0 rfl) ?_
          refine f_get X hH 0 rfl rfl 0 (by decide) inX8 fX8_10 rfl dX8_of_85 ?_
          refine f_get X hH 1 rfl rfl 4 (by decide) inX3 fX8_136 rfl dX8_of_88 ?_
          refine lv_iload_n hx hb dX8_of_91 rfl (lv_at hl 1 rfl) ?_
          obtain ⟨j4, ej4, hinj4, h⟩ := ga_x h
          refine a_il X hH 4 rfl hinj4 ej4 dX8_of_92 ?_
          have h := Option.some.inj h
          subst h
          exact e_i X hH dX8_of_93
        · have h := ie_x h c4
          rcases Classical.em (pb = (3 : Int32)) with c5 | c5
          · have h := it_x h c5
            refine lv_tableIn (tgt := 94) hx hb dX8_of_18 (by rw [c5]; decide) (by rw [c5]; decide) (off := 76) (by rw [c5]; decide) (by decide) ?_
            refine lv_aload_n hx hb dX8_of_94 rfl (lv_at hl 0 rfl) ?_
            refine f_get X hH 0 rfl rfl 0 (by decide) inX8 fX8_10 rfl dX8_of_95 ?_
            refine f_get X hH 1 rfl rfl 5 (by decide) inX3 fX8_139 rfl dX8_of_98 ?_
            refine lv_iload_n hx hb dX8_of_101 rfl (lv_at hl 1 rfl) ?_
            obtain ⟨j3, ej3, hinj3, h⟩ := ga_x h
            refine a_il X hH 5 rfl hinj3 ej3 dX8_of_102 ?_
            have h := Option.some.inj h
            subst h
            exact e_i X hH dX8_of_103
          · have h := ie_x h c5
            rcases Classical.em (pb = (4 : Int32)) with c6 | c6
            · have h := it_x h c6
              refine lv_tableIn (tgt := 104) hx hb dX8_of_18 (by rw [c6]; decide) (by rw [c6]; decide) (off := 86) (by rw [c6]; decide) (by decide) ?_
              refine lv_aload_n hx hb dX8_of_104 rfl (lv_at hl 0 rfl) ?_
              refine f_get X hH 0 rfl rfl 0 (by decide) inX8 fX8_10 rfl dX8_of_105 ?_
              refine f_get X hH 1 rfl rfl 6 (by decide) inX3 fX8_142 rfl dX8_of_108 ?_
              refine lv_iload_n hx hb dX8_of_111 rfl (lv_at hl 1 rfl) ?_
              obtain ⟨j2, ej2, hinj2, h⟩ := ga_x h
              refine a_il X hH 6 rfl hinj2 ej2 dX8_of_112 ?_
              have h := Option.some.inj h
              subst h
              exact e_i X hH dX8_of_113
            · have h := ie_x h c6
              rcases Classical.em (pb = (5 : Int32)) with c7 | c7
              · have h := it_x h c7
                refine lv_tableIn (tgt := 114) hx hb dX8_of_18 (by rw [c7]; decide) (by rw [c7]; decide) (off := 96) (by rw [c7]; decide) (by decide) ?_
                refine lv_aload_n hx hb dX8_of_114 rfl (lv_at hl 0 rfl) ?_
                refine f_get X hH 0 rfl rfl 0 (by decide) inX8 fX8_10 rfl dX8_of_115 ?_
                refine f_get X hH 1 rfl rfl 7 (by decide) inX3 fX8_145 rfl dX8_of_118 ?_
                refine lv_iload_n hx hb dX8_of_121 rfl (lv_at hl 1 rfl) ?_
                obtain ⟨j1, ej1, hinj1, h⟩ := ga_x h
                refine a_il X hH 7 rfl hinj1 ej1 dX8_of_122 ?_
                have h := Option.some.inj h
                subst h
                exact e_i X hH dX8_of_123
              · have h := ie_x h c7
                rcases Classical.em (pb = (6 : Int32)) with c8 | c8
                · have h := it_x h c8
                  refine lv_tableIn (tgt := 124) hx hb dX8_of_18 (by rw [c8]; decide) (by rw [c8]; decide) (off := 106) (by rw [c8]; decide) (by decide) ?_
                  refine lv_aload_n hx hb dX8_of_124 rfl (lv_at hl 0 rfl) ?_
                  refine f_get X hH 0 rfl rfl 0 (by decide) inX8 fX8_10 rfl dX8_of_125 ?_
                  refine lv_iload_n hx hb dX8_of_128 rfl (lv_at hl 1 rfl) ?_
                  obtain ⟨o4, ho4, h⟩ := bd_x h
                  refine r_V X hH (ws1 := (wX8 g a i xs)) (As := [.int pa]) (rest := []) (st1 := [.int o4]) (uX3_weight (a := a) (i := (i + 1)) ho4) kX3_weight mX8_148 iX3_weight vX3_weight zX3 okX3_weight ⟨Nat.le_of_ble_eq_true rfl, Nat.le_of_ble_eq_true rfl⟩ rfl rfl (q0 := 1) rfl rfl (bX8_1) (bX8_1) rfl hl.1 rfl (Nat.le_of_ble_eq_true rfl) ⟨Nat.le_refl 0, Nat.le_refl 0⟩ rfl dX8_of_129 (fun H locs hH => ?_)
                  have h := Option.some.inj h
                  subst h
                  exact e_i X hH dX8_of_132
                · have h := ie_x h c8
                  rcases Classical.em (pb = (7 : Int32)) with c9 | c9
                  · have h := it_x h c9
                    refine lv_tableIn (tgt := 133) hx hb dX8_of_18 (by rw [c9]; decide) (by rw [c9]; decide) (off := 115) (by rw [c9]; decide) (by decide) ?_
                    refine lv_aload_n hx hb dX8_of_133 rfl (lv_at hl 0 rfl) ?_
                    refine f_get X hH 0 rfl rfl 0 (by decide) inX8 fX8_10 rfl dX8_of_134 ?_
                    refine lv_iload_n hx hb dX8_of_137 rfl (lv_at hl 1 rfl) ?_
                    obtain ⟨o3, ho3, h⟩ := bd_x h
                    refine r_V X hH (ws1 := (wX8 g a i xs)) (As := [.int pa]) (rest := []) (st1 := [.int o3]) (uX3_minutes (a := a) (i := (i + 1)) ho3) kX3_minutes mX8_151 iX3_minutes vX3_minutes zX3 okX3_minutes ⟨Nat.le_of_ble_eq_true rfl, Nat.le_of_ble_eq_true rfl⟩ rfl rfl (q0 := 1) rfl rfl (bX8_1) (bX8_1) rfl hl.1 rfl (Nat.le_of_ble_eq_true rfl) ⟨Nat.le_refl 0, Nat.le_refl 0⟩ rfl dX8_of_138 (fun H locs hH => ?_)
                    have h := Option.some.inj h
                    subst h
                    exact e_i X hH dX8_of_141
                  · have h := ie_x h c9
                    refine lv_tableOut (tgt := 142) hx hb dX8_of_18 (tsw_0_7 (c2) (c3) (c4) (c5) (c6) (c7) (c8) (c9)) (by decide) ?_
                    refine lv_aload_n hx hb dX8_of_142 rfl (lv_at hl 0 rfl) ?_
                    refine lv_bipush (v := (-2 : Int32)) hx hb dX8_of_143 (by decide) ?_
                    obtain ⟨o2, ho2, h⟩ := bd_x h
                    refine r_V X hH (ws1 := (wX8 g a i o2.2)) (As := [.int (-2 : Int32)]) (rest := []) (st1 := [.int o2.1]) (uX8_counted (a := a) (i := i) ho2) kX8_counted mX8_94 iX8_counted vX8_counted zX8 okX8_counted ⟨Nat.le_of_ble_eq_true rfl, Nat.le_of_ble_eq_true rfl⟩ rfl rfl (q0 := 0) rfl rfl (pm_all _) (pm_all _) rfl hl.1 rfl (Nat.le_of_ble_eq_true rfl) ⟨Nat.le_refl 0, Nat.le_refl 0⟩ rfl dX8_of_145 (fun H locs hH => ?_)
                    have h := Option.some.inj h
                    subst h
                    exact e_i X hH dX8_of_148
  · have h := it_x h c1
    refine lv_aload_n hx hb dX8_of_11 rfl (lv_at hl 0 rfl) ?_
    refine lv_iconst (v := (-1 : Int32)) hx hb dX8_of_12 (by decide) ?_
    obtain ⟨o5, ho5, h⟩ := bd_x h
    refine r_V X hH (ws1 := (wX8 g a i o5.2)) (As := [.int (-1 : Int32)]) (rest := []) (st1 := [.int o5.1]) (uX8_counted (a := a) (i := i) ho5) kX8_counted mX8_94 iX8_counted vX8_counted zX8 okX8_counted ⟨Nat.le_of_ble_eq_true rfl, Nat.le_of_ble_eq_true rfl⟩ rfl rfl (q0 := 0) rfl rfl (pm_all _) (pm_all _) rfl hl.1 rfl (Nat.le_of_ble_eq_true rfl) ⟨Nat.le_refl 0, Nat.le_refl 0⟩ rfl dX8_of_13 (fun H locs hH => ?_)
    have h := Option.some.inj h
    subst h
    exact e_i X hH dX8_of_16

def fX8_reaches (xs : SX8) (pa : Int32) : Option (Int32 × SX8) :=
  (fX3_isPoint (w_net xs) pa).bind fun o1 =>
  (if o1 = (0 : Int32) then
  (fX8_counted xs (-1 : Int32)).bind fun o2 =>
  some (o2.1, o2.2)
  else
  (fX3_allWays (w_net xs)).bind fun o3 =>
  (fX3_reached (w_net xs) ((1 : Int32) <<< (pa &&& 31)) o3).bind fun o4 =>
  some (o4, xs))
set_option maxHeartbeats 4000000 in
set_option maxRecDepth 100000 in
theorem uX8_reaches {l : Launch} {g : GG} {a : Nat → Nat} {i : Nat} {xs : SX8} {pa : Int32} {o : (Int32 × SX8)} (h : fX8_reaches xs pa = some o) : mC l g yX8_reaches cX8_reaches 2 (some .int) (rM 2 48) [.ref (a i), .int pa] (wX8 g a i xs) (wX8 g a i o.2) (some (.int o.1)) := by
  refine mC.ofW (by decide) (fun p e s m below meth c X hH ls _ hl => ?_) (Nat.le_of_ble_eq_true rfl)
  have hx := X.1
  have hb := X.2.1
  have hl : lv_has ls 2 [(0, .ref (a i)), (1, .int pa)] := hl
  unfold fX8_reaches at h
  suffices HH : ∀ (H : Heap) (locs : List Loc), mH g s (wX8 g a i xs) (wX8 g a i xs) H locs → W p l e (rM 2 48) s m _ below meth c H locs 0 0 (mZ g below _ s (wX8 g a i xs) (wX8 g a i o.2) (some (.int o.1))) (F0 m 0 ls []) from HH _ _ hH
  clear hH
  intro H locs hH
  refine lv_aload_n hx hb dX8_reaches_0 rfl (lv_at hl 0 rfl) ?_
  refine f_get X hH 0 rfl rfl 0 (by decide) inX8 fX8_10 rfl dX8_reaches_1 ?_
  refine lv_iload_n hx hb dX8_reaches_4 rfl (lv_at hl 1 rfl) ?_
  obtain ⟨o1, ho1, h⟩ := bd_x h
  refine r_V X hH (ws1 := (wX8 g a i xs)) (As := [.int pa]) (rest := []) (st1 := [.int o1]) (uX3_isPoint (a := a) (i := (i + 1)) ho1) kX3_isPoint mX8_154 iX3_isPoint vX3_isPoint zX3 okX3_isPoint ⟨Nat.le_of_ble_eq_true rfl, Nat.le_of_ble_eq_true rfl⟩ rfl rfl (q0 := 1) rfl rfl (bX8_1) (bX8_1) rfl hl.1 rfl (Nat.le_of_ble_eq_true rfl) ⟨Nat.le_refl 0, Nat.le_refl 0⟩ rfl dX8_reaches_5 (fun H locs hH => ?_)
  refine lv_if_eq (tgt := 31) hx hb dX8_reaches_8 (by decide) (fun c1 => ?_) (fun c1 => ?_)
  · have h := it_x h c1
    refine lv_aload_n hx hb dX8_reaches_31 rfl (lv_at hl 0 rfl) ?_
    refine lv_iconst (v := (-1 : Int32)) hx hb dX8_reaches_32 (by decide) ?_
    obtain ⟨o2, ho2, h⟩ := bd_x h
    refine r_V X hH (ws1 := (wX8 g a i o2.2)) (As := [.int (-1 : Int32)]) (rest := []) (st1 := [.int o2.1]) (uX8_counted (a := a) (i := i) ho2) kX8_counted mX8_94 iX8_counted vX8_counted zX8 okX8_counted ⟨Nat.le_of_ble_eq_true rfl, Nat.le_of_ble_eq_true rfl⟩ rfl rfl (q0 := 0) rfl rfl (pm_all _) (pm_all _) rfl hl.1 rfl (Nat.le_of_ble_eq_true rfl) ⟨Nat.le_refl 0, Nat.le_refl 0⟩ rfl dX8_reaches_33 (fun H locs hH => ?_)
    have h := Option.some.inj h
    subst h
    exact e_i X hH dX8_reaches_36
  · have h := ie_x h c1
    refine lv_aload_n hx hb dX8_reaches_11 rfl (lv_at hl 0 rfl) ?_
    refine f_get X hH 0 rfl rfl 0 (by decide) inX8 fX8_10 rfl dX8_reaches_12 ?_
    refine lv_iconst (v := (1 : Int32)) hx hb dX8_reaches_15 (by decide) ?_
    refine lv_iload_n hx hb dX8_reaches_16 rfl (lv_at hl 1 rfl) ?_
    refine lv_ishl hx hb dX8_reaches_17 ?_
    refine lv_aload_n hx hb dX8_reaches_18 rfl (lv_at hl 0 rfl) ?_
    refine f_get X hH 0 rfl rfl 0 (by decide) inX8 fX8_10 rfl dX8_reaches_19 ?_
    obtain ⟨o3, ho3, h⟩ := bd_x h
    refine r_V X hH (ws1 := (wX8 g a i xs)) (As := []) (rest := [.int ((1 : Int32) <<< (pa &&& 31)), .ref (a (i + 1))]) (st1 := [.int o3, .int ((1 : Int32) <<< (pa &&& 31)), .ref (a (i + 1))]) (uX3_allWays (a := a) (i := (i + 1)) ho3) kX3_allWays mX8_157 iX3_allWays vX3_allWays zX3 okX3_allWays ⟨Nat.le_of_ble_eq_true rfl, Nat.le_of_ble_eq_true rfl⟩ rfl rfl (q0 := 1) rfl rfl (bX8_1) (bX8_1) rfl hl.1 rfl (Nat.le_of_ble_eq_true rfl) ⟨Nat.le_refl 0, Nat.le_refl 0⟩ rfl dX8_reaches_22 (fun H locs hH => ?_)
    obtain ⟨o4, ho4, h⟩ := bd_x h
    refine r_V X hH (ws1 := (wX8 g a i xs)) (As := [.int ((1 : Int32) <<< (pa &&& 31)), .int o3]) (rest := []) (st1 := [.int o4]) (uX3_reached (a := a) (i := (i + 1)) ho4) kX3_reached mX8_161 iX3_reached vX3_reached zX3 okX3_reached ⟨Nat.le_of_ble_eq_true rfl, Nat.le_of_ble_eq_true rfl⟩ rfl rfl (q0 := 1) rfl rfl (bX8_1) (bX8_1) rfl hl.1 rfl (Nat.le_of_ble_eq_true rfl) ⟨Nat.le_refl 0, Nat.le_refl 0⟩ rfl dX8_reaches_25 (fun H locs hH => ?_)
    refine lv_goto (tgt := 36) hx hb dX8_reaches_28 (by decide) ?_
    have h := Option.some.inj h
    subst h
    exact e_i X hH dX8_reaches_36

def qX8_isPart_9 (pa : Int32)   : Option Int32 :=
  some (1 : Int32)
def fX8_isPart (pa : Int32) : Option Int32 :=
  (if pa = (0 : Int32) then
  qX8_isPart_9 pa 
  else
  (if pa = (1 : Int32) then
  qX8_isPart_9 pa 
  else
  some (0 : Int32)))
set_option maxHeartbeats 4000000 in
set_option maxRecDepth 100000 in
theorem pX8_isPart_9 {p : Program} {l : Launch} {e : Env} {s : State} {m : MethodId} {args : Array Value} {below : List Frame} {meth : Method} {c : Code} {g : GG} {w0 : va_W}  {pa : Int32} {o : Int32} (X : mX g yX8_isPart cX8_isPart 1 (some .boolean) p s m args meth c w0) :
  ∀  (H : Heap) (locs : List Loc) (ls : Array Slot), qX8_isPart_9 pa = some o → mH g s w0 [] H locs → lv_has ls 1 [(0, .int pa)] → W p l e (rM 0 0) s m args below meth c H locs 0 0 (mZ g below args s w0 [] (some (.int o))) (F0 m 9 ls []) := by
  have hx := X.1
  have hb := X.2.1
  intro  H locs ls h hH hl
  unfold qX8_isPart_9 at h
  refine lv_iconst (v := (1 : Int32)) hx hb dX8_isPart_9 (by decide) ?_
  refine lv_goto (tgt := 14) hx hb dX8_isPart_10 (by decide) ?_
  have h := Option.some.inj h
  subst h
  exact e_z X hH (Or.inr rfl) dX8_isPart_14
set_option maxHeartbeats 4000000 in
set_option maxRecDepth 100000 in
theorem uX8_isPart {l : Launch} {g : GG}  {pa : Int32} {o : Int32} (h : fX8_isPart pa = some o) : mC l g yX8_isPart cX8_isPart 1 (some .boolean) (rM 0 0) [.int pa] [] [] (some (.int o)) := by
  refine mC.ofW (by decide) (fun p e s m below meth c X hH ls _ hl => ?_) (Nat.le_of_ble_eq_true rfl)
  have hx := X.1
  have hb := X.2.1
  have hl : lv_has ls 1 [(0, .int pa)] := hl
  unfold fX8_isPart at h
  suffices HH : ∀ (H : Heap) (locs : List Loc), mH g s [] [] H locs → W p l e (rM 0 0) s m _ below meth c H locs 0 0 (mZ g below _ s [] [] (some (.int o))) (F0 m 0 ls []) from HH _ _ hH
  clear hH
  intro H locs hH
  refine lv_iload_n hx hb dX8_isPart_0 rfl (lv_at hl 0 rfl) ?_
  refine lv_if_eq (tgt := 9) hx hb dX8_isPart_1 (by decide) (fun c1 => ?_) (fun c1 => ?_)
  · have h := it_x h c1
    exact pX8_isPart_9 X   H locs ls h hH (lv_sub hl [0] rfl)
  · have h := ie_x h c1
    refine lv_iload_n hx hb dX8_isPart_4 rfl (lv_at hl 0 rfl) ?_
    refine lv_iconst (v := (1 : Int32)) hx hb dX8_isPart_5 (by decide) ?_
    refine lv_icmp_ne (tgt := 13) hx hb dX8_isPart_6 (by decide) (fun c2 => ?_) (fun c2 => ?_)
    · have h := ie_x h c2
      refine lv_iconst (v := (0 : Int32)) hx hb dX8_isPart_13 (by decide) ?_
      have h := Option.some.inj h
      subst h
      exact e_z X hH (Or.inl rfl) dX8_isPart_14
    · have h := it_x h c2
      exact pX8_isPart_9 X   H locs ls h hH (lv_sub hl [0] rfl)

def fX8_refusalOfJourney (xs : SX8) (pa : Int32) (pb : Int32) (pc_ : Int32) : Option Int32 :=
  (fX3_isPoint (w_net xs) pa).bind fun o1 =>
  (if o1 = (0 : Int32) then
  some (-1 : Int32)
  else
  (fX3_isPoint (w_net xs) pb).bind fun o2 =>
  (if o2 = (0 : Int32) then
  some (-1 : Int32)
  else
  (fX8_isPart pc_).bind fun o3 =>
  (if o3 = (0 : Int32) then
  some (-2 : Int32)
  else
  (fX3_allWays (w_net xs)).bind fun o4 =>
  (fX3_reached (w_net xs) ((1 : Int32) <<< (pa &&& 31)) o4).bind fun o5 =>
  (fX8_has o5 pb).bind fun o6 =>
  (if o6 = (0 : Int32) then
  some (-3 : Int32)
  else
  some (0 : Int32)))))
set_option maxHeartbeats 4000000 in
set_option maxRecDepth 100000 in
theorem uX8_refusalOfJourney {l : Launch} {g : GG} {a : Nat → Nat} {i : Nat} {xs : SX8} {pa : Int32} {pb : Int32} {pc_ : Int32} {o : Int32} (h : fX8_refusalOfJourney xs pa pb pc_ = some o) : mC l g yX8_refusalOfJourney cX8_refusalOfJourney 4 (some .int) (rM 2 48) [.ref (a i), .int pa, .int pb, .int pc_] (wX8 g a i xs) (wX8 g a i xs) (some (.int o)) := by
  refine mC.ofW (by decide) (fun p e s m below meth c X hH ls _ hl => ?_) (Nat.le_of_ble_eq_true rfl)
  have hx := X.1
  have hb := X.2.1
  have hl : lv_has ls 4 [(0, .ref (a i)), (1, .int pa), (2, .int pb), (3, .int pc_)] := hl
  unfold fX8_refusalOfJourney at h
  suffices HH : ∀ (H : Heap) (locs : List Loc), mH g s (wX8 g a i xs) (wX8 g a i xs) H locs → W p l e (rM 2 48) s m _ below meth c H locs 0 0 (mZ g below _ s (wX8 g a i xs) (wX8 g a i xs) (some (.int o))) (F0 m 0 ls []) from HH _ _ hH
  clear hH
  intro H locs hH
  refine lv_aload_n hx hb dX8_refusalOfJourney_0 rfl (lv_at hl 0 rfl) ?_
  refine f_get X hH 0 rfl rfl 0 (by decide) inX8 fX8_10 rfl dX8_refusalOfJourney_1 ?_
  refine lv_iload_n hx hb dX8_refusalOfJourney_4 rfl (lv_at hl 1 rfl) ?_
  obtain ⟨o1, ho1, h⟩ := bd_x h
  refine r_V X hH (ws1 := (wX8 g a i xs)) (As := [.int pa]) (rest := []) (st1 := [.int o1]) (uX3_isPoint (a := a) (i := (i + 1)) ho1) kX3_isPoint mX8_154 iX3_isPoint vX3_isPoint zX3 okX3_isPoint ⟨Nat.le_of_ble_eq_true rfl, Nat.le_of_ble_eq_true rfl⟩ rfl rfl (q0 := 1) rfl rfl (bX8_1) (bX8_1) rfl hl.1 rfl (Nat.le_of_ble_eq_true rfl) ⟨Nat.le_refl 0, Nat.le_refl 0⟩ rfl dX8_refusalOfJourney_5 (fun H locs hH => ?_)
  refine lv_if_eq (tgt := 22) hx hb dX8_refusalOfJourney_8 (by decide) (fun c1 => ?_) (fun c1 => ?_)
  · have h := it_x h c1
    refine lv_iconst (v := (-1 : Int32)) hx hb dX8_refusalOfJourney_22 (by decide) ?_
    have h := Option.some.inj h
    subst h
    exact e_i X hH dX8_refusalOfJourney_23
  · have h := ie_x h c1
    refine lv_aload_n hx hb dX8_refusalOfJourney_11 rfl (lv_at hl 0 rfl) ?_
    refine f_get X hH 0 rfl rfl 0 (by decide) inX8 fX8_10 rfl dX8_refusalOfJourney_12 ?_
    refine lv_iload_n hx hb dX8_refusalOfJourney_15 rfl (lv_at hl 2 rfl) ?_
    obtain ⟨o2, ho2, h⟩ := bd_x h
    refine r_V X hH (ws1 := (wX8 g a i xs)) (As := [.int pb]) (rest := []) (st1 := [.int o2]) (uX3_isPoint (a := a) (i := (i + 1)) ho2) kX3_isPoint mX8_154 iX3_isPoint vX3_isPoint zX3 okX3_isPoint ⟨Nat.le_of_ble_eq_true rfl, Nat.le_of_ble_eq_true rfl⟩ rfl rfl (q0 := 1) rfl rfl (bX8_1) (bX8_1) rfl hl.1 rfl (Nat.le_of_ble_eq_true rfl) ⟨Nat.le_refl 0, Nat.le_refl 0⟩ rfl dX8_refusalOfJourney_16 (fun H locs hH => ?_)
    refine lv_if_ne (tgt := 24) hx hb dX8_refusalOfJourney_19 (by decide) (fun c2 => ?_) (fun c2 => ?_)
    · have h := ie_x h c2
      refine lv_iload_n hx hb dX8_refusalOfJourney_24 rfl (lv_at hl 3 rfl) ?_
      obtain ⟨o3, ho3, h⟩ := bd_x h
      refine r_S X hH (ws1 := (wX8 g a i xs)) (As := [.int pc_]) (rest := []) (st1 := [.int o3]) (uX8_isPart  ho3) kX8_isPart mX8_313 sX8_isPart zX8 okX8_isPart ⟨Nat.le_of_ble_eq_true rfl, Nat.le_of_ble_eq_true rfl⟩ rfl rfl (pm_none _) (pm_none _) rfl hl.1 rfl (Nat.le_of_ble_eq_true rfl) ⟨Nat.le_refl 0, Nat.le_refl 0⟩ rfl dX8_refusalOfJourney_25 (fun H locs hH => ?_)
      refine lv_if_ne (tgt := 34) hx hb dX8_refusalOfJourney_28 (by decide) (fun c3 => ?_) (fun c3 => ?_)
      · have h := ie_x h c3
        refine lv_aload_n hx hb dX8_refusalOfJourney_34 rfl (lv_at hl 0 rfl) ?_
        refine f_get X hH 0 rfl rfl 0 (by decide) inX8 fX8_10 rfl dX8_refusalOfJourney_35 ?_
        refine lv_iconst (v := (1 : Int32)) hx hb dX8_refusalOfJourney_38 (by decide) ?_
        refine lv_iload_n hx hb dX8_refusalOfJourney_39 rfl (lv_at hl 1 rfl) ?_
        refine lv_ishl hx hb dX8_refusalOfJourney_40 ?_
        refine lv_aload_n hx hb dX8_refusalOfJourney_41 rfl (lv_at hl 0 rfl) ?_
        refine f_get X hH 0 rfl rfl 0 (by decide) inX8 fX8_10 rfl dX8_refusalOfJourney_42 ?_
        obtain ⟨o4, ho4, h⟩ := bd_x h
        refine r_V X hH (ws1 := (wX8 g a i xs)) (As := []) (rest := [.int ((1 : Int32) <<< (pa &&& 31)), .ref (a (i + 1))]) (st1 := [.int o4, .int ((1 : Int32) <<< (pa &&& 31)), .ref (a (i + 1))]) (uX3_allWays (a := a) (i := (i + 1)) ho4) kX3_allWays mX8_157 iX3_allWays vX3_allWays zX3 okX3_allWays ⟨Nat.le_of_ble_eq_true rfl, Nat.le_of_ble_eq_true rfl⟩ rfl rfl (q0 := 1) rfl rfl (bX8_1) (bX8_1) rfl hl.1 rfl (Nat.le_of_ble_eq_true rfl) ⟨Nat.le_refl 0, Nat.le_refl 0⟩ rfl dX8_refusalOfJourney_45 (fun H locs hH => ?_)
        obtain ⟨o5, ho5, h⟩ := bd_x h
        refine r_V X hH (ws1 := (wX8 g a i xs)) (As := [.int ((1 : Int32) <<< (pa &&& 31)), .int o4]) (rest := []) (st1 := [.int o5]) (uX3_reached (a := a) (i := (i + 1)) ho5) kX3_reached mX8_161 iX3_reached vX3_reached zX3 okX3_reached ⟨Nat.le_of_ble_eq_true rfl, Nat.le_of_ble_eq_true rfl⟩ rfl rfl (q0 := 1) rfl rfl (bX8_1) (bX8_1) rfl hl.1 rfl (Nat.le_of_ble_eq_true rfl) ⟨Nat.le_refl 0, Nat.le_refl 0⟩ rfl dX8_refusalOfJourney_48 (fun H locs hH => ?_)
        refine lv_iload_n hx hb dX8_refusalOfJourney_51 rfl (lv_at hl 2 rfl) ?_
        obtain ⟨o6, ho6, h⟩ := bd_x h
        refine r_S X hH (ws1 := (wX8 g a i xs)) (As := [.int o5, .int pb]) (rest := []) (st1 := [.int o6]) (uX8_has  ho6) kX8_has mX8_203 sX8_has zX8 okX8_has ⟨Nat.le_of_ble_eq_true rfl, Nat.le_of_ble_eq_true rfl⟩ rfl rfl (pm_none _) (pm_none _) rfl hl.1 rfl (Nat.le_of_ble_eq_true rfl) ⟨Nat.le_refl 0, Nat.le_refl 0⟩ rfl dX8_refusalOfJourney_52 (fun H locs hH => ?_)
        refine lv_if_eq (tgt := 62) hx hb dX8_refusalOfJourney_55 (by decide) (fun c4 => ?_) (fun c4 => ?_)
        · have h := it_x h c4
          refine lv_bipush (v := (-3 : Int32)) hx hb dX8_refusalOfJourney_62 (by decide) ?_
          have h := Option.some.inj h
          subst h
          exact e_i X hH dX8_refusalOfJourney_64
        · have h := ie_x h c4
          refine lv_iconst (v := (0 : Int32)) hx hb dX8_refusalOfJourney_58 (by decide) ?_
          refine lv_goto (tgt := 64) hx hb dX8_refusalOfJourney_59 (by decide) ?_
          have h := Option.some.inj h
          subst h
          exact e_i X hH dX8_refusalOfJourney_64
      · have h := it_x h c3
        refine lv_bipush (v := (-2 : Int32)) hx hb dX8_refusalOfJourney_31 (by decide) ?_
        have h := Option.some.inj h
        subst h
        exact e_i X hH dX8_refusalOfJourney_33
    · have h := it_x h c2
      refine lv_iconst (v := (-1 : Int32)) hx hb dX8_refusalOfJourney_22 (by decide) ?_
      have h := Option.some.inj h
      subst h
      exact e_i X hH dX8_refusalOfJourney_23

def qX8_gcd_9 (pa : Int64) (pb : Int64)  : Nat → Int64 → Int64 → Int32 → Option Int64
  | 0, _, _, _ => none
  | fu + 1, l4, l6, l8 =>
  (if (100 : Int32) ≤ l8 then
  some l4
  else
  (if l6 = (0 : Int64) then
  some l4
  else
  gzl (l6) <|
  ltt ((l4 - l4 / l6 * l6)) fun v1 =>
  ltt (l8 + (1 : Int32)) fun v2 =>
  qX8_gcd_9 pa pb  fu l6 v1 v2))
def fX8_gcd (pa : Int64) (pb : Int64) : Option Int64 :=
  qX8_gcd_9 pa pb FU pa pb (0 : Int32)
set_option maxHeartbeats 4000000 in
set_option maxRecDepth 100000 in
theorem pX8_gcd_9 {p : Program} {l : Launch} {e : Env} {s : State} {m : MethodId} {args : Array Value} {below : List Frame} {meth : Method} {c : Code} {g : GG} {w0 : va_W}  {pa : Int64} {pb : Int64} {o : Int64} (X : mX g yX8_gcd cX8_gcd 11 (some .long) p s m args meth c w0) :
  ∀ (fu : Nat) (l4 : Int64) (l6 : Int64) (l8 : Int32) (H : Heap) (locs : List Loc) (ls : Array Slot), qX8_gcd_9 pa pb fu l4 l6 l8 = some o → mH g s w0 [] H locs → lv_has ls 11 [(0, .long pa), (2, .long pb), (4, .long l4), (6, .long l6), (8, .int l8)] → W p l e (rM 0 0) s m args below meth c H locs 0 0 (mZ g below args s w0 [] (some (.long o))) (F0 m 9 ls []) := by
  have hx := X.1
  have hb := X.2.1
  intro fu
  induction fu with
  | zero =>
    intro l4 l6 l8 H locs ls h
    unfold qX8_gcd_9 at h
    cases h
  | succ fu ih =>
    intro l4 l6 l8 H locs ls h hH hl
    unfold qX8_gcd_9 at h
    refine lv_iload hx hb dX8_gcd_9 (lv_at hl 4 rfl) ?_
    refine lv_bipush (v := (100 : Int32)) hx hb dX8_gcd_11 (by decide) ?_
    refine lv_icmp_ge (tgt := 44) hx hb dX8_gcd_13 (by decide) (fun c1 => ?_) (fun c1 => ?_)
    · have h := it_x h c1
      refine lv_lload hx hb dX8_gcd_44 (lv_at hl 2 rfl) ?_
      have h := Option.some.inj h
      subst h
      exact e_l X hH dX8_gcd_46
    · have h := ie_x h c1
      refine lv_lload hx hb dX8_gcd_16 (lv_at hl 3 rfl) ?_
      refine lv_lconst (v := (0 : Int64)) hx hb dX8_gcd_18 (by decide) ?_
      refine W.lcmp hx hb dX8_gcd_19 ?_
      refine lv_if_eq (tgt := 44) hx hb dX8_gcd_20 (by decide) (fun c2 => ?_) (fun c2 => ?_)
      · have h := it_x h ((lg_cmp_eq l6 (0 : Int64)).mp c2)
        refine lv_lload hx hb dX8_gcd_44 (lv_at hl 2 rfl) ?_
        have h := Option.some.inj h
        subst h
        exact e_l X hH dX8_gcd_46
      · have h := ie_x h (mt (lg_cmp_eq l6 (0 : Int64)).mpr c2)
        refine lv_lload hx hb dX8_gcd_23 (lv_at hl 2 rfl) ?_
        refine lv_lload hx hb dX8_gcd_25 (lv_at hl 3 rfl) ?_
        obtain ⟨z1, h⟩ := gzl_x h
        refine lv_lrem hx hb dX8_gcd_27 z1 ?_
        obtain ⟨v1, ev1, h⟩ := ltt_x h
        refine s_l X (lv' := [(9, .long v1), (0, .long pa), (2, .long pb), (4, .long l4), (6, .long l6), (8, .int l8)]) hl ev1 dX8_gcd_28 (by decide) rfl (fun ls hl => ?_)
        refine lv_lload hx hb dX8_gcd_30 (lv_at hl 4 rfl) ?_
        refine s_l X (lv' := [(4, .long l6), (9, .long v1), (0, .long pa), (2, .long pb), (6, .long l6), (8, .int l8)]) hl rfl dX8_gcd_32 (by decide) rfl (fun ls hl => ?_)
        refine lv_lload hx hb dX8_gcd_34 (lv_at hl 1 rfl) ?_
        refine s_l X (lv' := [(6, .long v1), (4, .long l6), (9, .long v1), (0, .long pa), (2, .long pb), (8, .int l8)]) hl rfl dX8_gcd_36 (by decide) rfl (fun ls hl => ?_)
        obtain ⟨v2, ev2, h⟩ := ltt_x h
        refine s_inc X (k := 5) (lv' := [(8, .int v2), (6, .long v1), (4, .long l6), (9, .long v1), (0, .long pa), (2, .long pb)]) hl rfl (by rw [ev2]; rfl) dX8_gcd_38 (by decide) rfl (fun ls hl => ?_)
        refine lv_goto (tgt := 9) hx hb dX8_gcd_41 (by decide) ?_
        exact ih l6 v1 v2 H locs ls h hH (lv_sub hl [4, 5, 2, 1, 0] rfl)
set_option maxHeartbeats 4000000 in
set_option maxRecDepth 100000 in
theorem uX8_gcd {l : Launch} {g : GG}  {pa : Int64} {pb : Int64} {o : Int64} (h : fX8_gcd pa pb = some o) : mC l g yX8_gcd cX8_gcd 11 (some .long) (rM 0 0) [.long pa, .long pb] [] [] (some (.long o)) := by
  refine mC.ofW (by decide) (fun p e s m below meth c X hH ls _ hl => ?_) (Nat.le_of_ble_eq_true rfl)
  have hx := X.1
  have hb := X.2.1
  have hl : lv_has ls 11 [(0, .long pa), (2, .long pb)] := hl
  unfold fX8_gcd at h
  suffices HH : ∀ (H : Heap) (locs : List Loc), mH g s [] [] H locs → W p l e (rM 0 0) s m _ below meth c H locs 0 0 (mZ g below _ s [] [] (some (.long o))) (F0 m 0 ls []) from HH _ _ hH
  clear hH
  intro H locs hH
  refine lv_lload_n hx hb dX8_gcd_0 rfl (lv_at hl 0 rfl) ?_
  refine s_l X (lv' := [(4, .long pa), (0, .long pa), (2, .long pb)]) hl rfl dX8_gcd_1 (by decide) rfl (fun ls hl => ?_)
  refine lv_lload_n hx hb dX8_gcd_3 rfl (lv_at hl 2 rfl) ?_
  refine s_l X (lv' := [(6, .long pb), (4, .long pa), (0, .long pa), (2, .long pb)]) hl rfl dX8_gcd_4 (by decide) rfl (fun ls hl => ?_)
  refine lv_iconst (v := (0 : Int32)) hx hb dX8_gcd_6 (by decide) ?_
  refine s_i X (lv' := [(8, .int (0 : Int32)), (6, .long pb), (4, .long pa), (0, .long pa), (2, .long pb)]) hl rfl dX8_gcd_7 (by decide) rfl (fun ls hl => ?_)
  exact pX8_gcd_9 X FU pa pb (0 : Int32) H locs ls h hH (lv_sub hl [3, 4, 2, 1, 0] rfl)

def qX8_leastTerms_10 (pa : Int64) (pb : Int64) (pc_ : Int32)  (t0 : Int64) : Option Int64 :=
  (fX8_gcd (if (0 : Int64) < pa then pa else -pa) pb).bind fun o1 =>
  (fX8_over t0 o1).bind fun o2 =>
  some o2
def fX8_leastTerms (pa : Int64) (pb : Int64) (pc_ : Int32) : Option Int64 :=
  (if pc_ = (0 : Int32) then
  qX8_leastTerms_10 pa pb pc_ pa
  else
  qX8_leastTerms_10 pa pb pc_ pb)
set_option maxHeartbeats 4000000 in
set_option maxRecDepth 100000 in
theorem pX8_leastTerms_10 {p : Program} {l : Launch} {e : Env} {s : State} {m : MethodId} {args : Array Value} {below : List Frame} {meth : Method} {c : Code} {g : GG} {w0 : va_W}  {pa : Int64} {pb : Int64} {pc_ : Int32} {o : Int64} (X : mX g yX8_leastTerms cX8_leastTerms 5 (some .long) p s m args meth c w0) :
  ∀ (t0 : Int64) (H : Heap) (locs : List Loc) (ls : Array Slot), qX8_leastTerms_10 pa pb pc_ t0 = some o → mH g s w0 [] H locs → lv_has ls 5 [(0, .long pa), (2, .long pb), (4, .int pc_)] → W p l e (rM 1 30) s m args below meth c H locs 0 0 (mZ g below args s w0 [] (some (.long o))) (F0 m 10 ls [.long t0]) := by
  have hx := X.1
  have hb := X.2.1
  intro t0 H locs ls h hH hl
  unfold qX8_leastTerms_10 at h
  refine lv_lload_n hx hb dX8_leastTerms_10 rfl (lv_at hl 0 rfl) ?_
  refine va_mabs_long hx hb (X.2.2.2.1.trans hl.1.symm) X.2.2.2.2.1 (X.2.2.2.2.2.1 _ mX8_366) (X.2.2.2.2.2.1 _ sJ9_abs_067f4) (X.2.2.2.2.2.1 _ zJ9) (X.2.2.2.2.2.1 _ kJ9_abs_067f4) (Nat.le_of_ble_eq_true rfl) (Nat.le_of_ble_eq_true rfl) (Nat.le_refl 0) (Nat.le_refl 0) dX8_leastTerms_11 ?_
  refine lv_lload_n hx hb dX8_leastTerms_14 rfl (lv_at hl 1 rfl) ?_
  obtain ⟨o1, ho1, h⟩ := bd_x h
  refine r_S X hH (ws1 := []) (As := [.long (if (0 : Int64) < pa then pa else -pa), .long pb]) (rest := [.long t0]) (st1 := [.long o1, .long t0]) (uX8_gcd  ho1) kX8_gcd mX8_370 sX8_gcd zX8 okX8_gcd ⟨Nat.le_of_ble_eq_true rfl, Nat.le_of_ble_eq_true rfl⟩ rfl rfl (pm_none _) (pm_none _) rfl hl.1 rfl (Nat.le_of_ble_eq_true rfl) ⟨Nat.le_refl 0, Nat.le_refl 0⟩ rfl dX8_leastTerms_15 (fun H locs hH => ?_)
  obtain ⟨o2, ho2, h⟩ := bd_x h
  refine r_S X hH (ws1 := []) (As := [.long t0, .long o1]) (rest := []) (st1 := [.long o2]) (uX8_over  ho2) kX8_over mX8_374 sX8_over zX8 okX8_over ⟨Nat.le_of_ble_eq_true rfl, Nat.le_of_ble_eq_true rfl⟩ rfl rfl (pm_none _) (pm_none _) rfl hl.1 rfl (Nat.le_of_ble_eq_true rfl) ⟨Nat.le_refl 0, Nat.le_refl 0⟩ rfl dX8_leastTerms_18 (fun H locs hH => ?_)
  have h := Option.some.inj h
  subst h
  exact e_l X hH dX8_leastTerms_21
set_option maxHeartbeats 4000000 in
set_option maxRecDepth 100000 in
theorem uX8_leastTerms {l : Launch} {g : GG}  {pa : Int64} {pb : Int64} {pc_ : Int32} {o : Int64} (h : fX8_leastTerms pa pb pc_ = some o) : mC l g yX8_leastTerms cX8_leastTerms 5 (some .long) (rM 1 30) [.long pa, .long pb, .int pc_] [] [] (some (.long o)) := by
  refine mC.ofW (by decide) (fun p e s m below meth c X hH ls _ hl => ?_) (Nat.le_of_ble_eq_true rfl)
  have hx := X.1
  have hb := X.2.1
  have hl : lv_has ls 5 [(0, .long pa), (2, .long pb), (4, .int pc_)] := hl
  unfold fX8_leastTerms at h
  suffices HH : ∀ (H : Heap) (locs : List Loc), mH g s [] [] H locs → W p l e (rM 1 30) s m _ below meth c H locs 0 0 (mZ g below _ s [] [] (some (.long o))) (F0 m 0 ls []) from HH _ _ hH
  clear hH
  intro H locs hH
  refine lv_iload hx hb dX8_leastTerms_0 (lv_at hl 2 rfl) ?_
  refine lv_if_ne (tgt := 9) hx hb dX8_leastTerms_2 (by decide) (fun c1 => ?_) (fun c1 => ?_)
  · have h := ie_x h c1
    refine lv_lload_n hx hb dX8_leastTerms_9 rfl (lv_at hl 1 rfl) ?_
    exact pX8_leastTerms_10 X  pb H locs ls h hH (lv_sub hl [0, 1, 2] rfl)
  · have h := it_x h c1
    refine lv_lload_n hx hb dX8_leastTerms_5 rfl (lv_at hl 0 rfl) ?_
    refine lv_goto (tgt := 10) hx hb dX8_leastTerms_6 (by decide) ?_
    exact pX8_leastTerms_10 X  pa H locs ls h hH (lv_sub hl [0, 1, 2] rfl)

def fX8_refused (xs : SX8) (pa : Int32) : Option (Int64 × SX8) :=
  (fX8_counted xs pa).bind fun o1 =>
  some (((4000000000000000000 : Int64) - (o1.1.toInt64)), o1.2)
set_option maxHeartbeats 4000000 in
set_option maxRecDepth 100000 in
theorem uX8_refused {l : Launch} {g : GG} {a : Nat → Nat} {i : Nat} {xs : SX8} {pa : Int32} {o : (Int64 × SX8)} (h : fX8_refused xs pa = some o) : mC l g yX8_refused cX8_refused 2 (some .long) (rM 1 21) [.ref (a i), .int pa] (wX8 g a i xs) (wX8 g a i o.2) (some (.long o.1)) := by
  refine mC.ofW (by decide) (fun p e s m below meth c X hH ls _ hl => ?_) (Nat.le_of_ble_eq_true rfl)
  have hx := X.1
  have hb := X.2.1
  have hl : lv_has ls 2 [(0, .ref (a i)), (1, .int pa)] := hl
  unfold fX8_refused at h
  suffices HH : ∀ (H : Heap) (locs : List Loc), mH g s (wX8 g a i xs) (wX8 g a i xs) H locs → W p l e (rM 1 21) s m _ below meth c H locs 0 0 (mZ g below _ s (wX8 g a i xs) (wX8 g a i o.2) (some (.long o.1))) (F0 m 0 ls []) from HH _ _ hH
  clear hH
  intro H locs hH
  refine lv_ldc2 hx hb X.2.2.2.2.1 (X.2.2.2.2.2.1 _ nX8_311) dX8_refused_0 ?_
  refine lv_aload_n hx hb dX8_refused_3 rfl (lv_at hl 0 rfl) ?_
  refine lv_iload_n hx hb dX8_refused_4 rfl (lv_at hl 1 rfl) ?_
  obtain ⟨o1, ho1, h⟩ := bd_x h
  refine r_V X hH (ws1 := (wX8 g a i o1.2)) (As := [.int pa]) (rest := [.long (4000000000000000000 : Int64)]) (st1 := [.int o1.1, .long (4000000000000000000 : Int64)]) (uX8_counted (a := a) (i := i) ho1) kX8_counted mX8_94 iX8_counted vX8_counted zX8 okX8_counted ⟨Nat.le_of_ble_eq_true rfl, Nat.le_of_ble_eq_true rfl⟩ rfl rfl (q0 := 0) rfl rfl (pm_all _) (pm_all _) rfl hl.1 rfl (Nat.le_of_ble_eq_true rfl) ⟨Nat.le_refl 0, Nat.le_refl 0⟩ rfl dX8_refused_5 (fun H locs hH => ?_)
  refine lv_i2l hx hb dX8_refused_8 rfl ?_
  refine lv_lsub hx hb dX8_refused_9 ?_
  have h := Option.some.inj h
  subst h
  exact e_l X hH dX8_refused_10

def fX8_time (xs : SX8) (pa : Int32) (pb : Int32) (pc_ : Int32) : Option (Int64 × SX8) :=
  (fX8_refusalOfJourney xs pa pb pc_).bind fun o1 =>
  (if o1 = (0 : Int32) then
  (fX3_allWays (w_net xs)).bind fun o2 =>
  (fX0_timesTo (w_equations xs) (w_net xs) o2 pb).bind fun o3 =>
  ltt ((w_equations_s xs o3)) fun xs1 =>
  ga 6 pa fun j1 =>
  (fX8_leastTerms ((eq_above (w_equations xs1)) j1) (eq_below (w_equations xs1)) pc_).bind fun o4 =>
  some (o4, xs1)
  else
  (fX8_refused xs o1).bind fun o5 =>
  some (o5.1, o5.2))
set_option maxHeartbeats 4000000 in
set_option maxRecDepth 100000 in
theorem uX8_time {l : Launch} {g : GG} {a : Nat → Nat} {i : Nat} {xs : SX8} {pa : Int32} {pb : Int32} {pc_ : Int32} {o : (Int64 × SX8)} (h : fX8_time xs pa pb pc_ = some o) : mC l g yX8_time cX8_time 5 (some .long) (rM 4 102) [.ref (a i), .int pa, .int pb, .int pc_] (wX8 g a i xs) (wX8 g a i o.2) (some (.long o.1)) := by
  refine mC.ofW (by decide) (fun p e s m below meth c X hH ls _ hl => ?_) (Nat.le_of_ble_eq_true rfl)
  have hx := X.1
  have hb := X.2.1
  have hl : lv_has ls 5 [(0, .ref (a i)), (1, .int pa), (2, .int pb), (3, .int pc_)] := hl
  unfold fX8_time at h
  suffices HH : ∀ (H : Heap) (locs : List Loc), mH g s (wX8 g a i xs) (wX8 g a i xs) H locs → W p l e (rM 4 102) s m _ below meth c H locs 0 0 (mZ g below _ s (wX8 g a i xs) (wX8 g a i o.2) (some (.long o.1))) (F0 m 0 ls []) from HH _ _ hH
  clear hH
  intro H locs hH
  refine lv_aload_n hx hb dX8_time_0 rfl (lv_at hl 0 rfl) ?_
  refine lv_iload_n hx hb dX8_time_1 rfl (lv_at hl 1 rfl) ?_
  refine lv_iload_n hx hb dX8_time_2 rfl (lv_at hl 2 rfl) ?_
  refine lv_iload_n hx hb dX8_time_3 rfl (lv_at hl 3 rfl) ?_
  obtain ⟨o1, ho1, h⟩ := bd_x h
  refine r_V X hH (ws1 := (wX8 g a i xs)) (As := [.int pa, .int pb, .int pc_]) (rest := []) (st1 := [.int o1]) (uX8_refusalOfJourney (a := a) (i := i) ho1) kX8_refusalOfJourney mX8_164 iX8_refusalOfJourney vX8_refusalOfJourney zX8 okX8_refusalOfJourney ⟨Nat.le_of_ble_eq_true rfl, Nat.le_of_ble_eq_true rfl⟩ rfl rfl (q0 := 0) rfl rfl (pm_all _) (pm_all _) rfl hl.1 rfl (Nat.le_of_ble_eq_true rfl) ⟨Nat.le_refl 0, Nat.le_refl 0⟩ rfl dX8_time_4 (fun H locs hH => ?_)
  refine s_i X (lv' := [(4, .int o1), (0, .ref (a i)), (1, .int pa), (2, .int pb), (3, .int pc_)]) hl rfl dX8_time_7 (by decide) rfl (fun ls hl => ?_)
  refine lv_iload hx hb dX8_time_9 (lv_at hl 0 rfl) ?_
  refine lv_if_eq (tgt := 21) hx hb dX8_time_11 (by decide) (fun c1 => ?_) (fun c1 => ?_)
  · have h := it_x h c1
    refine lv_aload_n hx hb dX8_time_21 rfl (lv_at hl 1 rfl) ?_
    refine f_get X hH 0 rfl rfl 4 (by decide) inX8 fX8_29 rfl dX8_time_22 ?_
    refine lv_aload_n hx hb dX8_time_25 rfl (lv_at hl 1 rfl) ?_
    refine f_get X hH 0 rfl rfl 0 (by decide) inX8 fX8_10 rfl dX8_time_26 ?_
    refine lv_aload_n hx hb dX8_time_29 rfl (lv_at hl 1 rfl) ?_
    refine f_get X hH 0 rfl rfl 0 (by decide) inX8 fX8_10 rfl dX8_time_30 ?_
    obtain ⟨o2, ho2, h⟩ := bd_x h
    refine r_V X hH (ws1 := (wX8 g a i xs)) (As := []) (rest := [.ref (a (i + 1)), .ref (a (i + 22))]) (st1 := [.int o2, .ref (a (i + 1)), .ref (a (i + 22))]) (uX3_allWays (a := a) (i := (i + 1)) ho2) kX3_allWays mX8_157 iX3_allWays vX3_allWays zX3 okX3_allWays ⟨Nat.le_of_ble_eq_true rfl, Nat.le_of_ble_eq_true rfl⟩ rfl rfl (q0 := 1) rfl rfl (bX8_1) (bX8_1) rfl hl.1 rfl (Nat.le_of_ble_eq_true rfl) ⟨Nat.le_refl 0, Nat.le_refl 0⟩ rfl dX8_time_33 (fun H locs hH => ?_)
    refine lv_iload_n hx hb dX8_time_36 rfl (lv_at hl 3 rfl) ?_
    obtain ⟨o3, ho3, h⟩ := bd_x h
    obtain ⟨xs1, exs1, h⟩ := ltt_x h
    refine r_V X hH (ws1 := (wX8 g a i xs1)) (As := [.ref (a (i + 1)), .int o2, .int pb]) (rest := []) (st1 := []) (uX0_timesTo (a := a) (i := (i + 22)) (b := a) (j := (i + 1)) ho3) kX0_timesTo mX8_171 iX0_timesTo vX0_timesTo zX0 okX0_timesTo ⟨Nat.le_of_ble_eq_true rfl, Nat.le_of_ble_eq_true rfl⟩ rfl rfl (q0 := 22) rfl rfl (pm_2 (bX8_4) (bX8_4_1)) (by rw [exs1]; exact (pm_2 (bX8_4) (bX8_4_1))) rfl hl.1 rfl (Nat.le_of_ble_eq_true rfl) ⟨Nat.le_refl 0, Nat.le_refl 0⟩ rfl dX8_time_37 (fun H locs hH => ?_)
    refine lv_aload_n hx hb dX8_time_40 rfl (lv_at hl 1 rfl) ?_
    refine f_get X hH 0 rfl rfl 4 (by decide) inX8 fX8_29 rfl dX8_time_41 ?_
    refine f_get X hH 22 rfl rfl 0 (by decide) inX0 fX8_175 rfl dX8_time_44 ?_
    refine lv_iload_n hx hb dX8_time_47 rfl (lv_at hl 2 rfl) ?_
    obtain ⟨j1, ej1, hinj1, h⟩ := ga_x h
    refine a_ll X hH 23 rfl hinj1 ej1 dX8_time_48 ?_
    refine lv_aload_n hx hb dX8_time_49 rfl (lv_at hl 1 rfl) ?_
    refine f_get X hH 0 rfl rfl 4 (by decide) inX8 fX8_29 rfl dX8_time_50 ?_
    refine f_get X hH 22 rfl rfl 1 (by decide) inX0 fX8_178 rfl dX8_time_53 ?_
    refine lv_iload_n hx hb dX8_time_56 rfl (lv_at hl 4 rfl) ?_
    obtain ⟨o4, ho4, h⟩ := bd_x h
    refine r_S X hH (ws1 := (wX8 g a i xs1)) (As := [.long ((eq_above (w_equations xs1)) j1), .long (eq_below (w_equations xs1)), .int pc_]) (rest := []) (st1 := [.long o4]) (uX8_leastTerms  ho4) kX8_leastTerms mX8_182 sX8_leastTerms zX8 okX8_leastTerms ⟨Nat.le_of_ble_eq_true rfl, Nat.le_of_ble_eq_true rfl⟩ rfl rfl (pm_none _) (pm_none _) rfl hl.1 rfl (Nat.le_of_ble_eq_true rfl) ⟨Nat.le_refl 0, Nat.le_refl 0⟩ rfl dX8_time_57 (fun H locs hH => ?_)
    have h := Option.some.inj h
    subst h
    exact e_l X hH dX8_time_60
  · have h := ie_x h c1
    refine lv_aload_n hx hb dX8_time_14 rfl (lv_at hl 1 rfl) ?_
    refine lv_iload hx hb dX8_time_15 (lv_at hl 0 rfl) ?_
    obtain ⟨o5, ho5, h⟩ := bd_x h
    refine r_V X hH (ws1 := (wX8 g a i o5.2)) (As := [.int o1]) (rest := []) (st1 := [.long o5.1]) (uX8_refused (a := a) (i := i) ho5) kX8_refused mX8_167 iX8_refused vX8_refused zX8 okX8_refused ⟨Nat.le_of_ble_eq_true rfl, Nat.le_of_ble_eq_true rfl⟩ rfl rfl (q0 := 0) rfl rfl (pm_all _) (pm_all _) rfl hl.1 rfl (Nat.le_of_ble_eq_true rfl) ⟨Nat.le_refl 0, Nat.le_refl 0⟩ rfl dX8_time_17 (fun H locs hH => ?_)
    have h := Option.some.inj h
    subst h
    exact e_l X hH dX8_time_20

def fX8_steps (xs : SX8) (pa : Int32) (pb : Int32) (pc_ : Int32) : Option (Int64 × SX8) :=
  (fX8_refusalOfJourney xs pa pb pc_).bind fun o1 =>
  (if o1 = (0 : Int32) then
  (fX3_allWays (w_net xs)).bind fun o2 =>
  (fX0_stepsTo (w_equations xs) (w_net xs) o2 pb).bind fun o3 =>
  ltt ((w_equations_s xs o3)) fun xs1 =>
  ga 6 pa fun j1 =>
  (fX8_leastTerms ((eq_above (w_equations xs1)) j1) (eq_below (w_equations xs1)) pc_).bind fun o4 =>
  some (o4, xs1)
  else
  (fX8_refused xs o1).bind fun o5 =>
  some (o5.1, o5.2))
set_option maxHeartbeats 4000000 in
set_option maxRecDepth 100000 in
theorem uX8_steps {l : Launch} {g : GG} {a : Nat → Nat} {i : Nat} {xs : SX8} {pa : Int32} {pb : Int32} {pc_ : Int32} {o : (Int64 × SX8)} (h : fX8_steps xs pa pb pc_ = some o) : mC l g yX8_steps cX8_steps 5 (some .long) (rM 4 100) [.ref (a i), .int pa, .int pb, .int pc_] (wX8 g a i xs) (wX8 g a i o.2) (some (.long o.1)) := by
  refine mC.ofW (by decide) (fun p e s m below meth c X hH ls _ hl => ?_) (Nat.le_of_ble_eq_true rfl)
  have hx := X.1
  have hb := X.2.1
  have hl : lv_has ls 5 [(0, .ref (a i)), (1, .int pa), (2, .int pb), (3, .int pc_)] := hl
  unfold fX8_steps at h
  suffices HH : ∀ (H : Heap) (locs : List Loc), mH g s (wX8 g a i xs) (wX8 g a i xs) H locs → W p l e (rM 4 100) s m _ below meth c H locs 0 0 (mZ g below _ s (wX8 g a i xs) (wX8 g a i o.2) (some (.long o.1))) (F0 m 0 ls []) from HH _ _ hH
  clear hH
  intro H locs hH
  refine lv_aload_n hx hb dX8_steps_0 rfl (lv_at hl 0 rfl) ?_
  refine lv_iload_n hx hb dX8_steps_1 rfl (lv_at hl 1 rfl) ?_
  refine lv_iload_n hx hb dX8_steps_2 rfl (lv_at hl 2 rfl) ?_
  refine lv_iload_n hx hb dX8_steps_3 rfl (lv_at hl 3 rfl) ?_
  obtain ⟨o1, ho1, h⟩ := bd_x h
  refine r_V X hH (ws1 := (wX8 g a i xs)) (As := [.int pa, .int pb, .int pc_]) (rest := []) (st1 := [.int o1]) (uX8_refusalOfJourney (a := a) (i := i) ho1) kX8_refusalOfJourney mX8_164 iX8_refusalOfJourney vX8_refusalOfJourney zX8 okX8_refusalOfJourney ⟨Nat.le_of_ble_eq_true rfl, Nat.le_of_ble_eq_true rfl⟩ rfl rfl (q0 := 0) rfl rfl (pm_all _) (pm_all _) rfl hl.1 rfl (Nat.le_of_ble_eq_true rfl) ⟨Nat.le_refl 0, Nat.le_refl 0⟩ rfl dX8_steps_4 (fun H locs hH => ?_)
  refine s_i X (lv' := [(4, .int o1), (0, .ref (a i)), (1, .int pa), (2, .int pb), (3, .int pc_)]) hl rfl dX8_steps_7 (by decide) rfl (fun ls hl => ?_)
  refine lv_iload hx hb dX8_steps_9 (lv_at hl 0 rfl) ?_
  refine lv_if_eq (tgt := 21) hx hb dX8_steps_11 (by decide) (fun c1 => ?_) (fun c1 => ?_)
  · have h := it_x h c1
    refine lv_aload_n hx hb dX8_steps_21 rfl (lv_at hl 1 rfl) ?_
    refine f_get X hH 0 rfl rfl 4 (by decide) inX8 fX8_29 rfl dX8_steps_22 ?_
    refine lv_aload_n hx hb dX8_steps_25 rfl (lv_at hl 1 rfl) ?_
    refine f_get X hH 0 rfl rfl 0 (by decide) inX8 fX8_10 rfl dX8_steps_26 ?_
    refine lv_aload_n hx hb dX8_steps_29 rfl (lv_at hl 1 rfl) ?_
    refine f_get X hH 0 rfl rfl 0 (by decide) inX8 fX8_10 rfl dX8_steps_30 ?_
    obtain ⟨o2, ho2, h⟩ := bd_x h
    refine r_V X hH (ws1 := (wX8 g a i xs)) (As := []) (rest := [.ref (a (i + 1)), .ref (a (i + 22))]) (st1 := [.int o2, .ref (a (i + 1)), .ref (a (i + 22))]) (uX3_allWays (a := a) (i := (i + 1)) ho2) kX3_allWays mX8_157 iX3_allWays vX3_allWays zX3 okX3_allWays ⟨Nat.le_of_ble_eq_true rfl, Nat.le_of_ble_eq_true rfl⟩ rfl rfl (q0 := 1) rfl rfl (bX8_1) (bX8_1) rfl hl.1 rfl (Nat.le_of_ble_eq_true rfl) ⟨Nat.le_refl 0, Nat.le_refl 0⟩ rfl dX8_steps_33 (fun H locs hH => ?_)
    refine lv_iload_n hx hb dX8_steps_36 rfl (lv_at hl 3 rfl) ?_
    obtain ⟨o3, ho3, h⟩ := bd_x h
    obtain ⟨xs1, exs1, h⟩ := ltt_x h
    refine r_V X hH (ws1 := (wX8 g a i xs1)) (As := [.ref (a (i + 1)), .int o2, .int pb]) (rest := []) (st1 := []) (uX0_stepsTo (a := a) (i := (i + 22)) (b := a) (j := (i + 1)) ho3) kX0_stepsTo mX8_186 iX0_stepsTo vX0_stepsTo zX0 okX0_stepsTo ⟨Nat.le_of_ble_eq_true rfl, Nat.le_of_ble_eq_true rfl⟩ rfl rfl (q0 := 22) rfl rfl (pm_2 (bX8_4) (bX8_4_1)) (by rw [exs1]; exact (pm_2 (bX8_4) (bX8_4_1))) rfl hl.1 rfl (Nat.le_of_ble_eq_true rfl) ⟨Nat.le_refl 0, Nat.le_refl 0⟩ rfl dX8_steps_37 (fun H locs hH => ?_)
    refine lv_aload_n hx hb dX8_steps_40 rfl (lv_at hl 1 rfl) ?_
    refine f_get X hH 0 rfl rfl 4 (by decide) inX8 fX8_29 rfl dX8_steps_41 ?_
    refine f_get X hH 22 rfl rfl 0 (by decide) inX0 fX8_175 rfl dX8_steps_44 ?_
    refine lv_iload_n hx hb dX8_steps_47 rfl (lv_at hl 2 rfl) ?_
    obtain ⟨j1, ej1, hinj1, h⟩ := ga_x h
    refine a_ll X hH 23 rfl hinj1 ej1 dX8_steps_48 ?_
    refine lv_aload_n hx hb dX8_steps_49 rfl (lv_at hl 1 rfl) ?_
    refine f_get X hH 0 rfl rfl 4 (by decide) inX8 fX8_29 rfl dX8_steps_50 ?_
    refine f_get X hH 22 rfl rfl 1 (by decide) inX0 fX8_178 rfl dX8_steps_53 ?_
    refine lv_iload_n hx hb dX8_steps_56 rfl (lv_at hl 4 rfl) ?_
    obtain ⟨o4, ho4, h⟩ := bd_x h
    refine r_S X hH (ws1 := (wX8 g a i xs1)) (As := [.long ((eq_above (w_equations xs1)) j1), .long (eq_below (w_equations xs1)), .int pc_]) (rest := []) (st1 := [.long o4]) (uX8_leastTerms  ho4) kX8_leastTerms mX8_182 sX8_leastTerms zX8 okX8_leastTerms ⟨Nat.le_of_ble_eq_true rfl, Nat.le_of_ble_eq_true rfl⟩ rfl rfl (pm_none _) (pm_none _) rfl hl.1 rfl (Nat.le_of_ble_eq_true rfl) ⟨Nat.le_refl 0, Nat.le_refl 0⟩ rfl dX8_steps_57 (fun H locs hH => ?_)
    have h := Option.some.inj h
    subst h
    exact e_l X hH dX8_steps_60
  · have h := ie_x h c1
    refine lv_aload_n hx hb dX8_steps_14 rfl (lv_at hl 1 rfl) ?_
    refine lv_iload hx hb dX8_steps_15 (lv_at hl 0 rfl) ?_
    obtain ⟨o5, ho5, h⟩ := bd_x h
    refine r_V X hH (ws1 := (wX8 g a i o5.2)) (As := [.int o1]) (rest := []) (st1 := [.long o5.1]) (uX8_refused (a := a) (i := i) ho5) kX8_refused mX8_167 iX8_refused vX8_refused zX8 okX8_refused ⟨Nat.le_of_ble_eq_true rfl, Nat.le_of_ble_eq_true rfl⟩ rfl rfl (q0 := 0) rfl rfl (pm_all _) (pm_all _) rfl hl.1 rfl (Nat.le_of_ble_eq_true rfl) ⟨Nat.le_refl 0, Nat.le_refl 0⟩ rfl dX8_steps_17 (fun H locs hH => ?_)
    have h := Option.some.inj h
    subst h
    exact e_l X hH dX8_steps_20

def fX8_commuteAbove (xs : SX8) (pa : Int32) (pb : Int32) : Option (Int64 × SX8) :=
  (fX3_allWays (w_net xs)).bind fun o1 =>
  (fX0_timesTo (w_equations xs) (w_net xs) o1 pb).bind fun o2 =>
  ltt ((w_equations_s xs o2)) fun xs1 =>
  ga 6 pa fun j1 =>
  ltt (((eq_above (w_equations xs1)) j1)) fun v1 =>
  (fX3_allWays (w_net xs1)).bind fun o3 =>
  (fX0_timesTo (w_equations xs1) (w_net xs1) o3 pa).bind fun o4 =>
  ltt ((w_equations_s xs1 o4)) fun xs2 =>
  ga 6 pb fun j2 =>
  some ((v1 + ((eq_above (w_equations xs2)) j2)), xs2)
set_option maxHeartbeats 4000000 in
set_option maxRecDepth 100000 in
theorem uX8_commuteAbove {l : Launch} {g : GG} {a : Nat → Nat} {i : Nat} {xs : SX8} {pa : Int32} {pb : Int32} {o : (Int64 × SX8)} (h : fX8_commuteAbove xs pa pb = some o) : mC l g yX8_commuteAbove cX8_commuteAbove 5 (some .long) (rM 4 102) [.ref (a i), .int pa, .int pb] (wX8 g a i xs) (wX8 g a i o.2) (some (.long o.1)) := by
  refine mC.ofW (by decide) (fun p e s m below meth c X hH ls _ hl => ?_) (Nat.le_of_ble_eq_true rfl)
  have hx := X.1
  have hb := X.2.1
  have hl : lv_has ls 5 [(0, .ref (a i)), (1, .int pa), (2, .int pb)] := hl
  unfold fX8_commuteAbove at h
  suffices HH : ∀ (H : Heap) (locs : List Loc), mH g s (wX8 g a i xs) (wX8 g a i xs) H locs → W p l e (rM 4 102) s m _ below meth c H locs 0 0 (mZ g below _ s (wX8 g a i xs) (wX8 g a i o.2) (some (.long o.1))) (F0 m 0 ls []) from HH _ _ hH
  clear hH
  intro H locs hH
  refine lv_aload_n hx hb dX8_commuteAbove_0 rfl (lv_at hl 0 rfl) ?_
  refine f_get X hH 0 rfl rfl 4 (by decide) inX8 fX8_29 rfl dX8_commuteAbove_1 ?_
  refine lv_aload_n hx hb dX8_commuteAbove_4 rfl (lv_at hl 0 rfl) ?_
  refine f_get X hH 0 rfl rfl 0 (by decide) inX8 fX8_10 rfl dX8_commuteAbove_5 ?_
  refine lv_aload_n hx hb dX8_commuteAbove_8 rfl (lv_at hl 0 rfl) ?_
  refine f_get X hH 0 rfl rfl 0 (by decide) inX8 fX8_10 rfl dX8_commuteAbove_9 ?_
  obtain ⟨o1, ho1, h⟩ := bd_x h
  refine r_V X hH (ws1 := (wX8 g a i xs)) (As := []) (rest := [.ref (a (i + 1)), .ref (a (i + 22))]) (st1 := [.int o1, .ref (a (i + 1)), .ref (a (i + 22))]) (uX3_allWays (a := a) (i := (i + 1)) ho1) kX3_allWays mX8_157 iX3_allWays vX3_allWays zX3 okX3_allWays ⟨Nat.le_of_ble_eq_true rfl, Nat.le_of_ble_eq_true rfl⟩ rfl rfl (q0 := 1) rfl rfl (bX8_1) (bX8_1) rfl hl.1 rfl (Nat.le_of_ble_eq_true rfl) ⟨Nat.le_refl 0, Nat.le_refl 0⟩ rfl dX8_commuteAbove_12 (fun H locs hH => ?_)
  refine lv_iload_n hx hb dX8_commuteAbove_15 rfl (lv_at hl 2 rfl) ?_
  obtain ⟨o2, ho2, h⟩ := bd_x h
  obtain ⟨xs1, exs1, h⟩ := ltt_x h
  refine r_V X hH (ws1 := (wX8 g a i xs1)) (As := [.ref (a (i + 1)), .int o1, .int pb]) (rest := []) (st1 := []) (uX0_timesTo (a := a) (i := (i + 22)) (b := a) (j := (i + 1)) ho2) kX0_timesTo mX8_171 iX0_timesTo vX0_timesTo zX0 okX0_timesTo ⟨Nat.le_of_ble_eq_true rfl, Nat.le_of_ble_eq_true rfl⟩ rfl rfl (q0 := 22) rfl rfl (pm_2 (bX8_4) (bX8_4_1)) (by rw [exs1]; exact (pm_2 (bX8_4) (bX8_4_1))) rfl hl.1 rfl (Nat.le_of_ble_eq_true rfl) ⟨Nat.le_refl 0, Nat.le_refl 0⟩ rfl dX8_commuteAbove_16 (fun H locs hH => ?_)
  refine lv_aload_n hx hb dX8_commuteAbove_19 rfl (lv_at hl 0 rfl) ?_
  refine f_get X hH 0 rfl rfl 4 (by decide) inX8 fX8_29 rfl dX8_commuteAbove_20 ?_
  refine f_get X hH 22 rfl rfl 0 (by decide) inX0 fX8_175 rfl dX8_commuteAbove_23 ?_
  refine lv_iload_n hx hb dX8_commuteAbove_26 rfl (lv_at hl 1 rfl) ?_
  obtain ⟨j1, ej1, hinj1, h⟩ := ga_x h
  refine a_ll X hH 23 rfl hinj1 ej1 dX8_commuteAbove_27 ?_
  obtain ⟨v1, ev1, h⟩ := ltt_x h
  refine s_ln X (lv' := [(3, .long v1), (0, .ref (a i)), (1, .int pa), (2, .int pb)]) hl ev1 dX8_commuteAbove_28 rfl (by decide) rfl (fun ls hl => ?_)
  refine lv_aload_n hx hb dX8_commuteAbove_29 rfl (lv_at hl 1 rfl) ?_
  refine f_get X hH 0 rfl rfl 4 (by decide) inX8 fX8_29 rfl dX8_commuteAbove_30 ?_
  refine lv_aload_n hx hb dX8_commuteAbove_33 rfl (lv_at hl 1 rfl) ?_
  refine f_get X hH 0 rfl rfl 0 (by decide) inX8 fX8_10 rfl dX8_commuteAbove_34 ?_
  refine lv_aload_n hx hb dX8_commuteAbove_37 rfl (lv_at hl 1 rfl) ?_
  refine f_get X hH 0 rfl rfl 0 (by decide) inX8 fX8_10 rfl dX8_commuteAbove_38 ?_
  obtain ⟨o3, ho3, h⟩ := bd_x h
  refine r_V X hH (ws1 := (wX8 g a i xs1)) (As := []) (rest := [.ref (a (i + 1)), .ref (a (i + 22))]) (st1 := [.int o3, .ref (a (i + 1)), .ref (a (i + 22))]) (uX3_allWays (a := a) (i := (i + 1)) ho3) kX3_allWays mX8_157 iX3_allWays vX3_allWays zX3 okX3_allWays ⟨Nat.le_of_ble_eq_true rfl, Nat.le_of_ble_eq_true rfl⟩ rfl rfl (q0 := 1) rfl rfl (bX8_1) (bX8_1) rfl hl.1 rfl (Nat.le_of_ble_eq_true rfl) ⟨Nat.le_refl 0, Nat.le_refl 0⟩ rfl dX8_commuteAbove_41 (fun H locs hH => ?_)
  refine lv_iload_n hx hb dX8_commuteAbove_44 rfl (lv_at hl 2 rfl) ?_
  obtain ⟨o4, ho4, h⟩ := bd_x h
  obtain ⟨xs2, exs2, h⟩ := ltt_x h
  refine r_V X hH (ws1 := (wX8 g a i xs2)) (As := [.ref (a (i + 1)), .int o3, .int pa]) (rest := []) (st1 := []) (uX0_timesTo (a := a) (i := (i + 22)) (b := a) (j := (i + 1)) ho4) kX0_timesTo mX8_171 iX0_timesTo vX0_timesTo zX0 okX0_timesTo ⟨Nat.le_of_ble_eq_true rfl, Nat.le_of_ble_eq_true rfl⟩ rfl rfl (q0 := 22) rfl rfl (pm_2 (bX8_4) (bX8_4_1)) (by rw [exs2]; exact (pm_2 (bX8_4) (bX8_4_1))) rfl hl.1 rfl (Nat.le_of_ble_eq_true rfl) ⟨Nat.le_refl 0, Nat.le_refl 0⟩ rfl dX8_commuteAbove_45 (fun H locs hH => ?_)
  refine lv_lload_n hx hb dX8_commuteAbove_48 rfl (lv_at hl 0 rfl) ?_
  refine lv_aload_n hx hb dX8_commuteAbove_49 rfl (lv_at hl 1 rfl) ?_
  refine f_get X hH 0 rfl rfl 4 (by decide) inX8 fX8_29 rfl dX8_commuteAbove_50 ?_
  refine f_get X hH 22 rfl rfl 0 (by decide) inX0 fX8_175 rfl dX8_commuteAbove_53 ?_
  refine lv_iload_n hx hb dX8_commuteAbove_56 rfl (lv_at hl 3 rfl) ?_
  obtain ⟨j2, ej2, hinj2, h⟩ := ga_x h
  refine a_ll X hH 23 rfl hinj2 ej2 dX8_commuteAbove_57 ?_
  refine lv_ladd hx hb dX8_commuteAbove_58 ?_
  have h := Option.some.inj h
  subst h
  exact e_l X hH dX8_commuteAbove_59

def fX8_commute (xs : SX8) (pa : Int32) (pb : Int32) (pc_ : Int32) : Option (Int64 × SX8) :=
  (fX8_refusalOfJourney xs pa pb pc_).bind fun o1 =>
  (if o1 = (0 : Int32) then
  (fX8_commuteAbove xs pa pb).bind fun o2 =>
  (fX8_leastTerms o2.1 (eq_below (w_equations o2.2)) pc_).bind fun o3 =>
  some (o3, o2.2)
  else
  (fX8_refused xs o1).bind fun o4 =>
  some (o4.1, o4.2))
set_option maxHeartbeats 4000000 in
set_option maxRecDepth 100000 in
theorem uX8_commute {l : Launch} {g : GG} {a : Nat → Nat} {i : Nat} {xs : SX8} {pa : Int32} {pb : Int32} {pc_ : Int32} {o : (Int64 × SX8)} (h : fX8_commute xs pa pb pc_ = some o) : mC l g yX8_commute cX8_commute 7 (some .long) (rM 5 126) [.ref (a i), .int pa, .int pb, .int pc_] (wX8 g a i xs) (wX8 g a i o.2) (some (.long o.1)) := by
  refine mC.ofW (by decide) (fun p e s m below meth c X hH ls _ hl => ?_) (Nat.le_of_ble_eq_true rfl)
  have hx := X.1
  have hb := X.2.1
  have hl : lv_has ls 7 [(0, .ref (a i)), (1, .int pa), (2, .int pb), (3, .int pc_)] := hl
  unfold fX8_commute at h
  suffices HH : ∀ (H : Heap) (locs : List Loc), mH g s (wX8 g a i xs) (wX8 g a i xs) H locs → W p l e (rM 5 126) s m _ below meth c H locs 0 0 (mZ g below _ s (wX8 g a i xs) (wX8 g a i o.2) (some (.long o.1))) (F0 m 0 ls []) from HH _ _ hH
  clear hH
  intro H locs hH
  refine lv_aload_n hx hb dX8_commute_0 rfl (lv_at hl 0 rfl) ?_
  refine lv_iload_n hx hb dX8_commute_1 rfl (lv_at hl 1 rfl) ?_
  refine lv_iload_n hx hb dX8_commute_2 rfl (lv_at hl 2 rfl) ?_
  refine lv_iload_n hx hb dX8_commute_3 rfl (lv_at hl 3 rfl) ?_
  obtain ⟨o1, ho1, h⟩ := bd_x h
  refine r_V X hH (ws1 := (wX8 g a i xs)) (As := [.int pa, .int pb, .int pc_]) (rest := []) (st1 := [.int o1]) (uX8_refusalOfJourney (a := a) (i := i) ho1) kX8_refusalOfJourney mX8_164 iX8_refusalOfJourney vX8_refusalOfJourney zX8 okX8_refusalOfJourney ⟨Nat.le_of_ble_eq_true rfl, Nat.le_of_ble_eq_true rfl⟩ rfl rfl (q0 := 0) rfl rfl (pm_all _) (pm_all _) rfl hl.1 rfl (Nat.le_of_ble_eq_true rfl) ⟨Nat.le_refl 0, Nat.le_refl 0⟩ rfl dX8_commute_4 (fun H locs hH => ?_)
  refine s_i X (lv' := [(4, .int o1), (0, .ref (a i)), (1, .int pa), (2, .int pb), (3, .int pc_)]) hl rfl dX8_commute_7 (by decide) rfl (fun ls hl => ?_)
  refine lv_iload hx hb dX8_commute_9 (lv_at hl 0 rfl) ?_
  refine lv_if_eq (tgt := 21) hx hb dX8_commute_11 (by decide) (fun c1 => ?_) (fun c1 => ?_)
  · have h := it_x h c1
    refine lv_aload_n hx hb dX8_commute_21 rfl (lv_at hl 1 rfl) ?_
    refine lv_iload_n hx hb dX8_commute_22 rfl (lv_at hl 2 rfl) ?_
    refine lv_iload_n hx hb dX8_commute_23 rfl (lv_at hl 3 rfl) ?_
    obtain ⟨o2, ho2, h⟩ := bd_x h
    refine r_V X hH (ws1 := (wX8 g a i o2.2)) (As := [.int pa, .int pb]) (rest := []) (st1 := [.long o2.1]) (uX8_commuteAbove (a := a) (i := i) ho2) kX8_commuteAbove mX8_189 iX8_commuteAbove vX8_commuteAbove zX8 okX8_commuteAbove ⟨Nat.le_of_ble_eq_true rfl, Nat.le_of_ble_eq_true rfl⟩ rfl rfl (q0 := 0) rfl rfl (pm_all _) (pm_all _) rfl hl.1 rfl (Nat.le_of_ble_eq_true rfl) ⟨Nat.le_refl 0, Nat.le_refl 0⟩ rfl dX8_commute_24 (fun H locs hH => ?_)
    refine s_l X (lv' := [(5, .long o2.1), (4, .int o1), (0, .ref (a i)), (1, .int pa), (2, .int pb), (3, .int pc_)]) hl rfl dX8_commute_27 (by decide) rfl (fun ls hl => ?_)
    refine lv_lload hx hb dX8_commute_29 (lv_at hl 0 rfl) ?_
    refine lv_aload_n hx hb dX8_commute_31 rfl (lv_at hl 2 rfl) ?_
    refine f_get X hH 0 rfl rfl 4 (by decide) inX8 fX8_29 rfl dX8_commute_32 ?_
    refine f_get X hH 22 rfl rfl 1 (by decide) inX0 fX8_178 rfl dX8_commute_35 ?_
    refine lv_iload_n hx hb dX8_commute_38 rfl (lv_at hl 5 rfl) ?_
    obtain ⟨o3, ho3, h⟩ := bd_x h
    refine r_S X hH (ws1 := (wX8 g a i o2.2)) (As := [.long o2.1, .long (eq_below (w_equations o2.2)), .int pc_]) (rest := []) (st1 := [.long o3]) (uX8_leastTerms  ho3) kX8_leastTerms mX8_182 sX8_leastTerms zX8 okX8_leastTerms ⟨Nat.le_of_ble_eq_true rfl, Nat.le_of_ble_eq_true rfl⟩ rfl rfl (pm_none _) (pm_none _) rfl hl.1 rfl (Nat.le_of_ble_eq_true rfl) ⟨Nat.le_refl 0, Nat.le_refl 0⟩ rfl dX8_commute_39 (fun H locs hH => ?_)
    have h := Option.some.inj h
    subst h
    exact e_l X hH dX8_commute_42
  · have h := ie_x h c1
    refine lv_aload_n hx hb dX8_commute_14 rfl (lv_at hl 1 rfl) ?_
    refine lv_iload hx hb dX8_commute_15 (lv_at hl 0 rfl) ?_
    obtain ⟨o4, ho4, h⟩ := bd_x h
    refine r_V X hH (ws1 := (wX8 g a i o4.2)) (As := [.int o1]) (rest := []) (st1 := [.long o4.1]) (uX8_refused (a := a) (i := i) ho4) kX8_refused mX8_167 iX8_refused vX8_refused zX8 okX8_refused ⟨Nat.le_of_ble_eq_true rfl, Nat.le_of_ble_eq_true rfl⟩ rfl rfl (q0 := 0) rfl rfl (pm_all _) (pm_all _) rfl hl.1 rfl (Nat.le_of_ble_eq_true rfl) ⟨Nat.le_refl 0, Nat.le_refl 0⟩ rfl dX8_commute_17 (fun H locs hH => ?_)
    have h := Option.some.inj h
    subst h
    exact e_l X hH dX8_commute_20
