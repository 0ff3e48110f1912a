def fX9_of (xs : SX9) (pa : Int32) (pb : Int32) : Option (Int32 × SX9) :=
  (fX9_isWay xs pa).bind fun o1 =>
  (if o1 = (0 : Int32) then
  (fX9_no xs (-1 : Int32)).bind fun o5 =>
  some (o5.1, o5.2)
  else
  (if pb = (0 : Int32) then
  ga 11 pa fun j6 =>
  some (((m_first xs) j6), xs)
  else
  (if pb = (1 : Int32) then
  ga 11 pa fun j5 =>
  some (((m_second xs) j5), xs)
  else
  (if pb = (2 : Int32) then
  ga 11 pa fun j4 =>
  some (((m_kind xs) j4), xs)
  else
  (if pb = (3 : Int32) then
  ga 11 pa fun j3 =>
  some (((m_figure xs) j3), xs)
  else
  (if pb = (4 : Int32) then
  ga 11 pa fun j2 =>
  some (((m_load xs) j2), xs)
  else
  (if pb = (5 : Int32) then
  ga 11 pa fun j1 =>
  some (((m_length xs) j1), xs)
  else
  (if pb = (6 : Int32) then
  (fX9_weight xs pa).bind fun o4 =>
  some (o4, xs)
  else
  (if pb = (7 : Int32) then
  (fX9_minutes xs pa).bind fun o3 =>
  some (o3, xs)
  else
  (fX9_no xs (-2 : Int32)).bind fun o2 =>
  some (o2.1, o2.2))))))))))
set_option maxHeartbeats 4000000 in
set_option maxRecDepth 100000 in
theorem uX9_of {l : Launch} {g : GG} {a : Nat → Nat} {i : Nat} {xs : SX9} {pa : Int32} {pb : Int32} {o : (Int32 × SX9)} (h : fX9_of xs pa pb = some o) : mC l g yX9_of cX9_of 3 (some .int) (rM 2 46) [.ref (a i), .int pa, .int pb] (wX9 g a i xs) (wX9 g a i o.2) (some (.int o.1)) := by
  refine mC.ofW (by decide) (fun p e s m below meth c X hH ls _ hl => ?_) (Nat.le_of_ble_eq_true rfl)
  have hx := X.1
  have hb := X.2.1
  have hl : lv_has ls 3 [(0, .ref (a i)), (1, .int pa), (2, .int pb)] := hl
  unfold fX9_of at h
  suffices HH : ∀ (H : Heap) (locs : List Loc), mH g s (wX9 g a i xs) (wX9 g a i xs) H locs → W p l e (rM 2 46) s m _ below meth c H locs 0 0 (mZ g below _ s (wX9 g a i xs) (wX9 g a i o.2) (some (.int o.1))) (F0 m 0 ls []) from HH _ _ hH
  clear hH
  intro H locs hH
  refine lv_aload_n hx hb dX9_of_0 rfl (lv_at hl 0 rfl) ?_
  refine lv_iload_n hx hb dX9_of_1 rfl (lv_at hl 1 rfl) ?_
  obtain ⟨o1, ho1, h⟩ := bd_x h
  refine r_V X hH (ws1 := (wX9 g a i xs)) (As := [.int pa]) (rest := []) (st1 := [.int o1]) (uX9_isWay (a := a) (i := i) ho1) kX9_isWay mX9_145 iX9_isWay vX9_isWay zX9 okX9_isWay ⟨Nat.le_of_ble_eq_true rfl, Nat.le_of_ble_eq_true rfl⟩ rfl rfl (q0 := 0) rfl rfl (pm_all _) (pm_all _) rfl hl.1 rfl (Nat.le_of_ble_eq_true rfl) ⟨Nat.le_refl 0, Nat.le_refl 0⟩ rfl dX9_of_2 (fun H locs hH => ?_)
  refine lv_if_ne (tgt := 14) hx hb dX9_of_5 (by decide) (fun c1 => ?_) (fun c1 => ?_)
  · have h := ie_x h c1
    refine lv_iload_n hx hb dX9_of_14 rfl (lv_at hl 2 rfl) ?_
    rcases Classical.em (pb = (0 : Int32)) with c2 | c2
    · have h := it_x h c2
      refine lv_tableIn (tgt := 60) hx hb dX9_of_15 (by rw [c2]; decide) (by rw [c2]; decide) (off := 45) (by rw [c2]; decide) (by decide) ?_
      refine lv_aload_n hx hb dX9_of_60 rfl (lv_at hl 0 rfl) ?_
      refine f_get X hH 0 rfl rfl 2 (by decide) inX9 fX9_13 rfl dX9_of_61 ?_
      refine lv_iload_n hx hb dX9_of_64 rfl (lv_at hl 1 rfl) ?_
      obtain ⟨j6, ej6, hinj6, h⟩ := ga_x h
      refine a_il X hH 1 rfl hinj6 ej6 dX9_of_65 ?_
      have h := Option.some.inj h
      subst h
      exact e_i X hH dX9_of_66
    · have h := ie_x h c2
      rcases Classical.em (pb = (1 : Int32)) with c3 | c3
      · have h := it_x h c3
        refine lv_tableIn (tgt := 67) hx hb dX9_of_15 (by rw [c3]; decide) (by rw [c3]; decide) (off := 52) (by rw [c3]; decide) (by decide) ?_
        refine lv_aload_n hx hb dX9_of_67 rfl (lv_at hl 0 rfl) ?_
        refine f_get X hH 0 rfl rfl 3 (by decide) inX9 fX9_17 rfl dX9_of_68 ?_
        refine lv_iload_n hx hb dX9_of_71 rfl (lv_at hl 1 rfl) ?_
        obtain ⟨j5, ej5, hinj5, h⟩ := ga_x h
        refine a_il X hH 2 rfl hinj5 ej5 dX9_of_72 ?_
        have h := Option.some.inj h
        subst h
        exact e_i X hH dX9_of_73
      · have h := ie_x h c3
        rcases Classical.em (pb = (2 : Int32)) with c4 | c4
        · have h := it_x h c4
          refine lv_tableIn (tgt := 74) hx hb dX9_of_15 (by rw [c4]; decide) (by rw [c4]; decide) (off := 59) (by rw [c4]; decide) (by decide) ?_
          refine lv_aload_n hx hb dX9_of_74 rfl (lv_at hl 0 rfl) ?_
          refine f_get X hH 0 rfl rfl 4 (by decide) inX9 fX9_20 rfl dX9_of_75 ?_
          refine lv_iload_n hx hb dX9_of_78 rfl (lv_at hl 1 rfl) ?_
          obtain ⟨j4, ej4, hinj4, h⟩ := ga_x h
          refine a_il X hH 3 rfl hinj4 ej4 dX9_of_79 ?_
          have h := Option.some.inj h
          subst h
          exact e_i X hH dX9_of_80
        · have h := ie_x h c4
          rcases Classical.em (pb = (3 : Int32)) with c5 | c5
          · have h := it_x h c5
            refine lv_tableIn (tgt := 81) hx hb dX9_of_15 (by rw [c5]; decide) (by rw [c5]; decide) (off := 66) (by rw [c5]; decide) (by decide) ?_
            refine lv_aload_n hx hb dX9_of_81 rfl (lv_at hl 0 rfl) ?_
            refine f_get X hH 0 rfl rfl 5 (by decide) inX9 fX9_23 rfl dX9_of_82 ?_
            refine lv_iload_n hx hb dX9_of_85 rfl (lv_at hl 1 rfl) ?_
            obtain ⟨j3, ej3, hinj3, h⟩ := ga_x h
            refine a_il X hH 4 rfl hinj3 ej3 dX9_of_86 ?_
            have h := Option.some.inj h
            subst h
            exact e_i X hH dX9_of_87
          · have h := ie_x h c5
            rcases Classical.em (pb = (4 : Int32)) with c6 | c6
            · have h := it_x h c6
              refine lv_tableIn (tgt := 88) hx hb dX9_of_15 (by rw [c6]; decide) (by rw [c6]; decide) (off := 73) (by rw [c6]; decide) (by decide) ?_
              refine lv_aload_n hx hb dX9_of_88 rfl (lv_at hl 0 rfl) ?_
              refine f_get X hH 0 rfl rfl 6 (by decide) inX9 fX9_26 rfl dX9_of_89 ?_
              refine lv_iload_n hx hb dX9_of_92 rfl (lv_at hl 1 rfl) ?_
              obtain ⟨j2, ej2, hinj2, h⟩ := ga_x h
              refine a_il X hH 5 rfl hinj2 ej2 dX9_of_93 ?_
              have h := Option.some.inj h
              subst h
              exact e_i X hH dX9_of_94
            · have h := ie_x h c6
              rcases Classical.em (pb = (5 : Int32)) with c7 | c7
              · have h := it_x h c7
                refine lv_tableIn (tgt := 95) hx hb dX9_of_15 (by rw [c7]; decide) (by rw [c7]; decide) (off := 80) (by rw [c7]; decide) (by decide) ?_
                refine lv_aload_n hx hb dX9_of_95 rfl (lv_at hl 0 rfl) ?_
                refine f_get X hH 0 rfl rfl 7 (by decide) inX9 fX9_29 rfl dX9_of_96 ?_
                refine lv_iload_n hx hb dX9_of_99 rfl (lv_at hl 1 rfl) ?_
                obtain ⟨j1, ej1, hinj1, h⟩ := ga_x h
                refine a_il X hH 6 rfl hinj1 ej1 dX9_of_100 ?_
                have h := Option.some.inj h
                subst h
                exact e_i X hH dX9_of_101
              · have h := ie_x h c7
                rcases Classical.em (pb = (6 : Int32)) with c8 | c8
                · have h := it_x h c8
                  refine lv_tableIn (tgt := 102) hx hb dX9_of_15 (by rw [c8]; decide) (by rw [c8]; decide) (off := 87) (by rw [c8]; decide) (by decide) ?_
                  refine lv_aload_n hx hb dX9_of_102 rfl (lv_at hl 0 rfl) ?_
                  refine lv_iload_n hx hb dX9_of_103 rfl (lv_at hl 1 rfl) ?_
                  obtain ⟨o4, ho4, h⟩ := bd_x h
                  refine r_V X hH (ws1 := (wX9 g a i xs)) (As := [.int pa]) (rest := []) (st1 := [.int o4]) (uX9_weight (a := a) (i := i) ho4) kX9_weight mX9_171 iX9_weight vX9_weight zX9 okX9_weight ⟨Nat.le_of_ble_eq_true rfl, Nat.le_of_ble_eq_true rfl⟩ rfl rfl (q0 := 0) rfl rfl (pm_all _) (pm_all _) rfl hl.1 rfl (Nat.le_of_ble_eq_true rfl) ⟨Nat.le_refl 0, Nat.le_refl 0⟩ rfl dX9_of_104 (fun H locs hH => ?_)
                  have h := Option.some.inj h
                  subst h
                  exact e_i X hH dX9_of_107
                · have h := ie_x h c8
                  rcases Classical.em (pb = (7 : Int32)) with c9 | c9
                  · have h := it_x h c9
                    refine lv_tableIn (tgt := 108) hx hb dX9_of_15 (by rw [c9]; decide) (by rw [c9]; decide) (off := 93) (by rw [c9]; decide) (by decide) ?_
                    refine lv_aload_n hx hb dX9_of_108 rfl (lv_at hl 0 rfl) ?_
                    refine lv_iload_n hx hb dX9_of_109 rfl (lv_at hl 1 rfl) ?_
                    obtain ⟨o3, ho3, h⟩ := bd_x h
                    refine r_V X hH (ws1 := (wX9 g a i xs)) (As := [.int pa]) (rest := []) (st1 := [.int o3]) (uX9_minutes (a := a) (i := i) ho3) kX9_minutes mX9_174 iX9_minutes vX9_minutes zX9 okX9_minutes ⟨Nat.le_of_ble_eq_true rfl, Nat.le_of_ble_eq_true rfl⟩ rfl rfl (q0 := 0) rfl rfl (pm_all _) (pm_all _) rfl hl.1 rfl (Nat.le_of_ble_eq_true rfl) ⟨Nat.le_refl 0, Nat.le_refl 0⟩ rfl dX9_of_110 (fun H locs hH => ?_)
                    have h := Option.some.inj h
                    subst h
                    exact e_i X hH dX9_of_113
                  · have h := ie_x h c9
                    refine lv_tableOut (tgt := 114) hx hb dX9_of_15 (tsw_0_7 (c2) (c3) (c4) (c5) (c6) (c7) (c8) (c9)) (by decide) ?_
                    refine lv_aload_n hx hb dX9_of_114 rfl (lv_at hl 0 rfl) ?_
                    refine lv_bipush (v := (-2 : Int32)) hx hb dX9_of_115 (by decide) ?_
                    obtain ⟨o2, ho2, h⟩ := bd_x h
                    refine r_V X hH (ws1 := (wX9 g a i o2.2)) (As := [.int (-2 : Int32)]) (rest := []) (st1 := [.int o2.1]) (uX9_no (a := a) (i := i) ho2) kX9_no mX9_125 iX9_no vX9_no zX9 okX9_no ⟨Nat.le_of_ble_eq_true rfl, Nat.le_of_ble_eq_true rfl⟩ rfl rfl (q0 := 0) rfl rfl (pm_all _) (pm_all _) rfl hl.1 rfl (Nat.le_of_ble_eq_true rfl) ⟨Nat.le_refl 0, Nat.le_refl 0⟩ rfl dX9_of_117 (fun H locs hH => ?_)
                    have h := Option.some.inj h
                    subst h
                    exact e_i X hH dX9_of_120
  · have h := it_x h c1
    refine lv_aload_n hx hb dX9_of_8 rfl (lv_at hl 0 rfl) ?_
    refine lv_iconst (v := (-1 : Int32)) hx hb dX9_of_9 (by decide) ?_
    obtain ⟨o5, ho5, h⟩ := bd_x h
    refine r_V X hH (ws1 := (wX9 g a i o5.2)) (As := [.int (-1 : Int32)]) (rest := []) (st1 := [.int o5.1]) (uX9_no (a := a) (i := i) ho5) kX9_no mX9_125 iX9_no vX9_no zX9 okX9_no ⟨Nat.le_of_ble_eq_true rfl, Nat.le_of_ble_eq_true rfl⟩ rfl rfl (q0 := 0) rfl rfl (pm_all _) (pm_all _) rfl hl.1 rfl (Nat.le_of_ble_eq_true rfl) ⟨Nat.le_refl 0, Nat.le_refl 0⟩ rfl dX9_of_10 (fun H locs hH => ?_)
    have h := Option.some.inj h
    subst h
    exact e_i X hH dX9_of_13

def qX9_letter_27 (pa : Int32)  (xs : SX9) : Option (Int32 × SX9) :=
  (fX9_no xs (-6 : Int32)).bind fun o1 =>
  some (o1.1, o1.2)
def fX9_letter (xs : SX9) (pa : Int32) : Option (Int32 × SX9) :=
  (if (0 : Int32) ≤ pa then
  (if (255 : Int32) < pa then
  qX9_letter_27 pa xs
  else
  (if (m_lettered xs) = (120 : Int32) then
  qX9_letter_27 pa xs
  else
  ga 120 (m_lettered xs) fun j1 =>
  ltt ((m_letters_s xs (upd (m_letters xs) j1 pa))) fun xs1 =>
  ltt (((m_lettered xs1) + (1 : Int32))) fun v1 =>
  ltt ((m_lettered_s xs1 v1)) fun xs2 =>
  some ((m_lettered xs2), xs2)))
  else
  (fX9_no xs (-4 : Int32)).bind fun o2 =>
  some (o2.1, o2.2))
set_option maxHeartbeats 4000000 in
set_option maxRecDepth 100000 in
theorem pX9_letter_27 {p : Program} {l : Launch} {e : Env} {s : State} {m : MethodId} {args : Array Value} {below : List Frame} {meth : Method} {c : Code} {g : GG} {w0 : va_W} {a : Nat → Nat} {i : Nat} {pa : Int32} {o : (Int32 × SX9)} (X : mX g yX9_letter cX9_letter 2 (some .int) p s m args meth c w0) :
  ∀ (xs : SX9) (H : Heap) (locs : List Loc) (ls : Array Slot), qX9_letter_27 pa xs = some o → mH g s w0 (wX9 g a i xs) H locs → lv_has ls 2 [(0, .ref (a i)), (1, .int pa)] → W p l e (rM 1 21) s m args below meth c H locs 0 0 (mZ g below args s w0 (wX9 g a i o.2) (some (.int o.1))) (F0 m 27 ls []) := by
  have hx := X.1
  have hb := X.2.1
  intro xs H locs ls h hH hl
  unfold qX9_letter_27 at h
  refine lv_aload_n hx hb dX9_letter_27 rfl (lv_at hl 0 rfl) ?_
  refine lv_bipush (v := (-6 : Int32)) hx hb dX9_letter_28 (by decide) ?_
  obtain ⟨o1, ho1, h⟩ := bd_x h
  refine r_V X hH (ws1 := (wX9 g a i o1.2)) (As := [.int (-6 : Int32)]) (rest := []) (st1 := [.int o1.1]) (uX9_no (a := a) (i := i) ho1) kX9_no mX9_125 iX9_no vX9_no zX9 okX9_no ⟨Nat.le_of_ble_eq_true rfl, Nat.le_of_ble_eq_true rfl⟩ rfl rfl (q0 := 0) rfl rfl (pm_all _) (pm_all _) rfl hl.1 rfl (Nat.le_of_ble_eq_true rfl) ⟨Nat.le_refl 0, Nat.le_refl 0⟩ rfl dX9_letter_30 (fun H locs hH => ?_)
  have h := Option.some.inj h
  subst h
  exact e_i X hH dX9_letter_33
set_option maxHeartbeats 4000000 in
set_option maxRecDepth 100000 in
theorem uX9_letter {l : Launch} {g : GG} {a : Nat → Nat} {i : Nat} {xs : SX9} {pa : Int32} {o : (Int32 × SX9)} (h : fX9_letter xs pa = some o) : mC l g yX9_letter cX9_letter 2 (some .int) (rM 1 21) [.ref (a i), .int pa] (wX9 g a i xs) (wX9 g a i o.2) (some (.int o.1)) := by
  refine mC.ofW (by decide) (fun p e s m below meth c X hH ls _ hl => ?_) (Nat.le_of_ble_eq_true rfl)
  have hx := X.1
  have hb := X.2.1
  have hl : lv_has ls 2 [(0, .ref (a i)), (1, .int pa)] := hl
  unfold fX9_letter at h
  suffices HH : ∀ (H : Heap) (locs : List Loc), mH g s (wX9 g a i xs) (wX9 g a i xs) H locs → W p l e (rM 1 21) s m _ below meth c H locs 0 0 (mZ g below _ s (wX9 g a i xs) (wX9 g a i o.2) (some (.int o.1))) (F0 m 0 ls []) from HH _ _ hH
  clear hH
  intro H locs hH
  refine lv_iload_n hx hb dX9_letter_0 rfl (lv_at hl 1 rfl) ?_
  refine lv_if_ge (tgt := 11) hx hb dX9_letter_1 (by decide) (fun c1 => ?_) (fun c1 => ?_)
  · have h := it_x h c1
    refine lv_iload_n hx hb dX9_letter_11 rfl (lv_at hl 1 rfl) ?_
    refine lv_sipush (v := (255 : Int32)) hx hb dX9_letter_12 (by decide) ?_
    refine lv_icmp_gt (tgt := 27) hx hb dX9_letter_15 (by decide) (fun c2 => ?_) (fun c2 => ?_)
    · have h := it_x h c2
      exact pX9_letter_27 X  xs H locs ls h hH (lv_sub hl [0, 1] rfl)
    · have h := ie_x h c2
      refine lv_aload_n hx hb dX9_letter_18 rfl (lv_at hl 0 rfl) ?_
      refine f_get X hH 0 rfl rfl 10 (by decide) inX9 fX9_177 rfl dX9_letter_19 ?_
      refine lv_bipush (v := (120 : Int32)) hx hb dX9_letter_22 (by decide) ?_
      refine lv_icmp_ne (tgt := 34) hx hb dX9_letter_24 (by decide) (fun c3 => ?_) (fun c3 => ?_)
      · have h := ie_x h c3
        refine lv_aload_n hx hb dX9_letter_34 rfl (lv_at hl 0 rfl) ?_
        refine f_get X hH 0 rfl rfl 9 (by decide) inX9 fX9_35 rfl dX9_letter_35 ?_
        refine lv_aload_n hx hb dX9_letter_38 rfl (lv_at hl 0 rfl) ?_
        refine f_get X hH 0 rfl rfl 10 (by decide) inX9 fX9_177 rfl dX9_letter_39 ?_
        refine lv_iload_n hx hb dX9_letter_42 rfl (lv_at hl 1 rfl) ?_
        obtain ⟨j1, ej1, hinj1, h⟩ := ga_x h
        obtain ⟨xs1, exs1, h⟩ := ltt_x h
        refine a_is X hH (ws1 := (wX9 g a i xs1)) 8 rfl hinj1 ej1 (by rw [exs1]; rfl) dX9_letter_43 (fun H locs hH => ?_)
        refine lv_aload_n hx hb dX9_letter_44 rfl (lv_at hl 0 rfl) ?_
        refine lv_dup hx hb dX9_letter_45 rfl ?_
        refine f_get X hH 0 rfl rfl 10 (by decide) inX9 fX9_177 rfl dX9_letter_46 ?_
        refine lv_iconst (v := (1 : Int32)) hx hb dX9_letter_49 (by decide) ?_
        refine lv_iadd hx hb dX9_letter_50 ?_
        obtain ⟨v1, ev1, h⟩ := ltt_x h
        refine lv_topi (fun y0 e0 => ?_)
        rw [← ev1] at e0
        subst y0
        obtain ⟨xs2, exs2, h⟩ := ltt_x h
        refine f_put X hH (ws1 := (wX9 g a i xs2)) 0 rfl rfl 10 (by decide) inX9 tyX9 tyX9_ok nmX9 fX9_177 rfl rfl rfl (Nat.le_of_ble_eq_true rfl) (by rw [exs2]; rfl) dX9_letter_51 (fun H locs hH => ?_)
        refine lv_aload_n hx hb dX9_letter_54 rfl (lv_at hl 0 rfl) ?_
        refine f_get X hH 0 rfl rfl 10 (by decide) inX9 fX9_177 rfl dX9_letter_55 ?_
        have h := Option.some.inj h
        subst h
        exact e_i X hH dX9_letter_58
      · have h := it_x h c3
        exact pX9_letter_27 X  xs H locs ls h hH (lv_sub hl [0, 1] rfl)
  · have h := ie_x h c1
    refine lv_aload_n hx hb dX9_letter_4 rfl (lv_at hl 0 rfl) ?_
    refine lv_bipush (v := (-4 : Int32)) hx hb dX9_letter_5 (by decide) ?_
    obtain ⟨o2, ho2, h⟩ := bd_x h
    refine r_V X hH (ws1 := (wX9 g a i o2.2)) (As := [.int (-4 : Int32)]) (rest := []) (st1 := [.int o2.1]) (uX9_no (a := a) (i := i) ho2) kX9_no mX9_125 iX9_no vX9_no zX9 okX9_no ⟨Nat.le_of_ble_eq_true rfl, Nat.le_of_ble_eq_true rfl⟩ rfl rfl (q0 := 0) rfl rfl (pm_all _) (pm_all _) rfl hl.1 rfl (Nat.le_of_ble_eq_true rfl) ⟨Nat.le_refl 0, Nat.le_refl 0⟩ rfl dX9_letter_7 (fun H locs hH => ?_)
    have h := Option.some.inj h
    subst h
    exact e_i X hH dX9_letter_10

def qX9_word_98  (k4 : SX9 → Int32 → Int32 → Option (Int32 × SX9)) (xs : SX9) (l2 : Int32) (t0 : Int32) : Option (Int32 × SX9) :=
  ltt (l2 + (1 : Int32)) fun v2 =>
  k4 xs t0 v2
def qX9_word_66  (k4 : SX9 → Int32 → Int32 → Option (Int32 × SX9)) (xs : SX9) (l1 : Int32) (l2 : Int32) (l3 : Int32) : Option (Int32 × SX9) :=
  ga 6 l2 fun j2 =>
  (if l3 = ((m_sizes xs) j2) then
  ltt (((m_at xs) + l3)) fun v3 =>
  ltt ((m_at_s xs v3)) fun xs2 =>
  some (l2, xs2)
  else
  (if l3 ≤ l1 then
  qX9_word_98 k4 xs l2 l1
  else
  qX9_word_98 k4 xs l2 l3))
def qX9_word_12  (k4 : SX9 → Int32 → Int32 → Option (Int32 × SX9)) : Nat → SX9 → Int32 → Int32 → Int32 → Option (Int32 × SX9)
  | 0, _, _, _, _ => none
  | fu + 1, xs, l1, l2, l3 =>
  ga 6 l2 fun j1 =>
  (if ((m_sizes xs) j1) ≤ l3 then
  qX9_word_66 k4 xs l1 l2 l3
  else
  (if (m_lettered xs) ≤ ((m_at xs) + l3) then
  qX9_word_66 k4 xs l1 l2 l3
  else
  ga 120 ((m_at xs) + l3) fun j3 =>
  ga 36 (((6 : Int32) * l2) + l3) fun j4 =>
  (if ((m_letters xs) j3) = ((m_words xs) j4) then
  ltt (l3 + (1 : Int32)) fun v4 =>
  qX9_word_12 k4 fu xs l1 l2 v4
  else
  qX9_word_66 k4 xs l1 l2 l3)))
def qX9_word_4   : Nat → SX9 → Int32 → Int32 → Option (Int32 × SX9)
  | 0, _, _, _ => none
  | fu + 1, xs, l1, l2 =>
  (if (6 : Int32) ≤ l2 then
  ltt (((m_at xs) + l1)) fun v1 =>
  ltt ((m_at_s xs v1)) fun xs1 =>
  some ((-1 : Int32), xs1)
  else
  qX9_word_12 (qX9_word_4  fu) FU xs l1 l2 (0 : Int32))
def fX9_word (xs : SX9) : Option (Int32 × SX9) :=
  qX9_word_4 FU xs (0 : Int32) (0 : Int32)
set_option maxHeartbeats 4000000 in
set_option maxRecDepth 100000 in
theorem pX9_word_98 {p : Program} {l : Launch} {e : Env} {s : State} {m : MethodId} {args : Array Value} {below : List Frame} {meth : Method} {c : Code} {g : GG} {w0 : va_W} {a : Nat → Nat} {i : Nat}  {o : (Int32 × SX9)} (X : mX g yX9_word cX9_word 4 (some .int) p s m args meth c w0)
  {k4 : SX9 → Int32 → Int32 → Option (Int32 × SX9)} (K4 : ∀ (xs : SX9) (l1 : Int32) (l2 : Int32) (H : Heap) (locs : List Loc) (ls : Array Slot), k4 xs l1 l2 = some o → mH g s w0 (wX9 g a i xs) H locs → lv_has ls 4 [(0, .ref (a i)), (1, .int l1), (2, .int l2)] → W p l e (rM 0 0) s m args below meth c H locs 0 0 (mZ g below args s w0 (wX9 g a i o.2) (some (.int o.1))) (F0 m 4 ls [])) :
  ∀ (xs : SX9) (l2 : Int32) (t0 : Int32) (H : Heap) (locs : List Loc) (ls : Array Slot), qX9_word_98 k4 xs l2 t0 = some o → mH g s w0 (wX9 g a i xs) H locs → lv_has ls 4 [(0, .ref (a i)), (2, .int l2)] → W p l e (rM 0 0) s m args below meth c H locs 0 0 (mZ g below args s w0 (wX9 g a i o.2) (some (.int o.1))) (F0 m 98 ls [.int t0]) := by
  have hx := X.1
  have hb := X.2.1
  intro xs l2 t0 H locs ls h hH hl
  unfold qX9_word_98 at h
  refine s_in X (lv' := [(1, .int t0), (0, .ref (a i)), (2, .int l2)]) hl rfl dX9_word_98 rfl (by decide) rfl (fun ls hl => ?_)
  obtain ⟨v2, ev2, h⟩ := ltt_x h
  refine s_inc X (k := 2) (lv' := [(2, .int v2), (1, .int t0), (0, .ref (a i))]) hl rfl (by rw [ev2]; rfl) dX9_word_99 (by decide) rfl (fun ls hl => ?_)
  refine lv_goto (tgt := 4) hx hb dX9_word_102 (by decide) ?_
  exact K4 xs t0 v2 H locs ls h hH (lv_sub hl [2, 1, 0] rfl)
set_option maxHeartbeats 4000000 in
set_option maxRecDepth 100000 in
theorem pX9_word_66 {p : Program} {l : Launch} {e : Env} {s : State} {m : MethodId} {args : Array Value} {below : List Frame} {meth : Method} {c : Code} {g : GG} {w0 : va_W} {a : Nat → Nat} {i : Nat}  {o : (Int32 × SX9)} (X : mX g yX9_word cX9_word 4 (some .int) p s m args meth c w0)
  {k4 : SX9 → Int32 → Int32 → Option (Int32 × SX9)} (K4 : ∀ (xs : SX9) (l1 : Int32) (l2 : Int32) (H : Heap) (locs : List Loc) (ls : Array Slot), k4 xs l1 l2 = some o → mH g s w0 (wX9 g a i xs) H locs → lv_has ls 4 [(0, .ref (a i)), (1, .int l1), (2, .int l2)] → W p l e (rM 0 0) s m args below meth c H locs 0 0 (mZ g below args s w0 (wX9 g a i o.2) (some (.int o.1))) (F0 m 4 ls [])) :
  ∀ (xs : SX9) (l1 : Int32) (l2 : Int32) (l3 : Int32) (H : Heap) (locs : List Loc) (ls : Array Slot), qX9_word_66 k4 xs l1 l2 l3 = some o → mH g s w0 (wX9 g a i xs) H locs → lv_has ls 4 [(0, .ref (a i)), (1, .int l1), (2, .int l2), (3, .int l3)] → W p l e (rM 0 0) s m args below meth c H locs 0 0 (mZ g below args s w0 (wX9 g a i o.2) (some (.int o.1))) (F0 m 66 ls []) := by
  have hx := X.1
  have hb := X.2.1
  intro xs l1 l2 l3 H locs ls h hH hl
  unfold qX9_word_66 at h
  refine lv_iload_n hx hb dX9_word_66 rfl (lv_at hl 3 rfl) ?_
  refine lv_aload_n hx hb dX9_word_67 rfl (lv_at hl 0 rfl) ?_
  refine f_get X hH 0 rfl rfl 13 (by decide) inX9 fX9_42 rfl dX9_word_68 ?_
  refine lv_iload_n hx hb dX9_word_71 rfl (lv_at hl 2 rfl) ?_
  obtain ⟨j2, ej2, hinj2, h⟩ := ga_x h
  refine a_il X hH 10 rfl hinj2 ej2 dX9_word_72 ?_
  refine lv_icmp_ne (tgt := 88) hx hb dX9_word_73 (by decide) (fun c3 => ?_) (fun c3 => ?_)
  · have h := ie_x h c3
    refine lv_iload_n hx hb dX9_word_88 rfl (lv_at hl 3 rfl) ?_
    refine lv_iload_n hx hb dX9_word_89 rfl (lv_at hl 1 rfl) ?_
    refine lv_icmp_le (tgt := 97) hx hb dX9_word_90 (by decide) (fun c4 => ?_) (fun c4 => ?_)
    · have h := it_x h c4
      refine lv_iload_n hx hb dX9_word_97 rfl (lv_at hl 1 rfl) ?_
      exact pX9_word_98 X K4 xs l2 l1 H locs ls h hH (lv_sub hl [0, 2] rfl)
    · have h := ie_x h c4
      refine lv_iload_n hx hb dX9_word_93 rfl (lv_at hl 3 rfl) ?_
      refine lv_goto (tgt := 98) hx hb dX9_word_94 (by decide) ?_
      exact pX9_word_98 X K4 xs l2 l3 H locs ls h hH (lv_sub hl [0, 2] rfl)
  · have h := it_x h c3
    refine lv_aload_n hx hb dX9_word_76 rfl (lv_at hl 0 rfl) ?_
    refine lv_dup hx hb dX9_word_77 rfl ?_
    refine f_get X hH 0 rfl rfl 11 (by decide) inX9 fX9_180 rfl dX9_word_78 ?_
    refine lv_iload_n hx hb dX9_word_81 rfl (lv_at hl 3 rfl) ?_
    refine lv_iadd hx hb dX9_word_82 ?_
    obtain ⟨v3, ev3, h⟩ := ltt_x h
    refine lv_topi (fun y0 e0 => ?_)
    rw [← ev3] at e0
    subst y0
    obtain ⟨xs2, exs2, h⟩ := ltt_x h
    refine f_put X hH (ws1 := (wX9 g a i xs2)) 0 rfl rfl 11 (by decide) inX9 tyX9 tyX9_ok nmX9 fX9_180 rfl rfl rfl (Nat.le_of_ble_eq_true rfl) (by rw [exs2]; rfl) dX9_word_83 (fun H locs hH => ?_)
    refine lv_iload_n hx hb dX9_word_86 rfl (lv_at hl 2 rfl) ?_
    have h := Option.some.inj h
    subst h
    exact e_i X hH dX9_word_87
set_option maxHeartbeats 4000000 in
set_option maxRecDepth 100000 in
theorem pX9_word_12 {p : Program} {l : Launch} {e : Env} {s : State} {m : MethodId} {args : Array Value} {below : List Frame} {meth : Method} {c : Code} {g : GG} {w0 : va_W} {a : Nat → Nat} {i : Nat}  {o : (Int32 × SX9)} (X : mX g yX9_word cX9_word 4 (some .int) p s m args meth c w0)
  {k4 : SX9 → Int32 → Int32 → Option (Int32 × SX9)} (K4 : ∀ (xs : SX9) (l1 : Int32) (l2 : Int32) (H : Heap) (locs : List Loc) (ls : Array Slot), k4 xs l1 l2 = some o → mH g s w0 (wX9 g a i xs) H locs → lv_has ls 4 [(0, .ref (a i)), (1, .int l1), (2, .int l2)] → W p l e (rM 0 0) s m args below meth c H locs 0 0 (mZ g below args s w0 (wX9 g a i o.2) (some (.int o.1))) (F0 m 4 ls [])) :
  ∀ (fu : Nat) (xs : SX9) (l1 : Int32) (l2 : Int32) (l3 : Int32) (H : Heap) (locs : List Loc) (ls : Array Slot), qX9_word_12 k4 fu xs l1 l2 l3 = some o → mH g s w0 (wX9 g a i xs) H locs → lv_has ls 4 [(0, .ref (a i)), (1, .int l1), (2, .int l2), (3, .int l3)] → W p l e (rM 0 0) s m args below meth c H locs 0 0 (mZ g below args s w0 (wX9 g a i o.2) (some (.int o.1))) (F0 m 12 ls []) := by
  have hx := X.1
  have hb := X.2.1
  intro fu
  induction fu with
  | zero =>
    intro xs l1 l2 l3 H locs ls h
    unfold qX9_word_12 at h
    cases h
  | succ fu ih =>
    intro xs l1 l2 l3 H locs ls h hH hl
    unfold qX9_word_12 at h
    refine lv_iload_n hx hb dX9_word_12 rfl (lv_at hl 3 rfl) ?_
    refine lv_aload_n hx hb dX9_word_13 rfl (lv_at hl 0 rfl) ?_
    refine f_get X hH 0 rfl rfl 13 (by decide) inX9 fX9_42 rfl dX9_word_14 ?_
    refine lv_iload_n hx hb dX9_word_17 rfl (lv_at hl 2 rfl) ?_
    obtain ⟨j1, ej1, hinj1, h⟩ := ga_x h
    refine a_il X hH 10 rfl hinj1 ej1 dX9_word_18 ?_
    refine lv_icmp_ge (tgt := 66) hx hb dX9_word_19 (by decide) (fun c2 => ?_) (fun c2 => ?_)
    · have h := it_x h c2
      exact pX9_word_66 X K4 xs l1 l2 l3 H locs ls h hH (lv_sub hl [0, 1, 2, 3] rfl)
    · have h := ie_x h c2
      refine lv_aload_n hx hb dX9_word_22 rfl (lv_at hl 0 rfl) ?_
      refine f_get X hH 0 rfl rfl 11 (by decide) inX9 fX9_180 rfl dX9_word_23 ?_
      refine lv_iload_n hx hb dX9_word_26 rfl (lv_at hl 3 rfl) ?_
      refine lv_iadd hx hb dX9_word_27 ?_
      refine lv_aload_n hx hb dX9_word_28 rfl (lv_at hl 0 rfl) ?_
      refine f_get X hH 0 rfl rfl 10 (by decide) inX9 fX9_177 rfl dX9_word_29 ?_
      refine lv_icmp_ge (tgt := 66) hx hb dX9_word_32 (by decide) (fun c5 => ?_) (fun c5 => ?_)
      · have h := it_x h c5
        exact pX9_word_66 X K4 xs l1 l2 l3 H locs ls h hH (lv_sub hl [0, 1, 2, 3] rfl)
      · have h := ie_x h c5
        refine lv_aload_n hx hb dX9_word_35 rfl (lv_at hl 0 rfl) ?_
        refine f_get X hH 0 rfl rfl 9 (by decide) inX9 fX9_35 rfl dX9_word_36 ?_
        refine lv_aload_n hx hb dX9_word_39 rfl (lv_at hl 0 rfl) ?_
        refine f_get X hH 0 rfl rfl 11 (by decide) inX9 fX9_180 rfl dX9_word_40 ?_
        refine lv_iload_n hx hb dX9_word_43 rfl (lv_at hl 3 rfl) ?_
        refine lv_iadd hx hb dX9_word_44 ?_
        obtain ⟨j3, ej3, hinj3, h⟩ := ga_x h
        refine a_il X hH 8 rfl hinj3 ej3 dX9_word_45 ?_
        refine lv_aload_n hx hb dX9_word_46 rfl (lv_at hl 0 rfl) ?_
        refine f_get X hH 0 rfl rfl 12 (by decide) inX9 fX9_38 rfl dX9_word_47 ?_
        refine lv_bipush (v := (6 : Int32)) hx hb dX9_word_50 (by decide) ?_
        refine lv_iload_n hx hb dX9_word_52 rfl (lv_at hl 2 rfl) ?_
        refine lv_imul hx hb dX9_word_53 ?_
        refine lv_iload_n hx hb dX9_word_54 rfl (lv_at hl 3 rfl) ?_
        refine lv_iadd hx hb dX9_word_55 ?_
        obtain ⟨j4, ej4, hinj4, h⟩ := ga_x h
        refine a_cl X hH 9 rfl hinj4 ej4 dX9_word_56 ?_
        refine lv_icmp_ne (tgt := 66) hx hb dX9_word_57 (by decide) (fun c6 => ?_) (fun c6 => ?_)
        · have h := ie_x h c6
          exact pX9_word_66 X K4 xs l1 l2 l3 H locs ls h hH (lv_sub hl [0, 1, 2, 3] rfl)
        · have h := it_x h c6
          obtain ⟨v4, ev4, h⟩ := ltt_x h
          refine s_inc X (k := 3) (lv' := [(3, .int v4), (0, .ref (a i)), (1, .int l1), (2, .int l2)]) hl rfl (by rw [ev4]; rfl) dX9_word_60 (by decide) rfl (fun ls hl => ?_)
          refine lv_goto (tgt := 12) hx hb dX9_word_63 (by decide) ?_
          exact ih xs l1 l2 v4 H locs ls h hH (lv_sub hl [1, 2, 3, 0] rfl)
set_option maxHeartbeats 4000000 in
set_option maxRecDepth 100000 in
theorem pX9_word_4 {p : Program} {l : Launch} {e : Env} {s : State} {m : MethodId} {args : Array Value} {below : List Frame} {meth : Method} {c : Code} {g : GG} {w0 : va_W} {a : Nat → Nat} {i : Nat}  {o : (Int32 × SX9)} (X : mX g yX9_word cX9_word 4 (some .int) p s m args meth c w0) :
  ∀ (fu : Nat) (xs : SX9) (l1 : Int32) (l2 : Int32) (H : Heap) (locs : List Loc) (ls : Array Slot), qX9_word_4 fu xs l1 l2 = some o → mH g s w0 (wX9 g a i xs) H locs → lv_has ls 4 [(0, .ref (a i)), (1, .int l1), (2, .int l2)] → W p l e (rM 0 0) s m args below meth c H locs 0 0 (mZ g below args s w0 (wX9 g a i o.2) (some (.int o.1))) (F0 m 4 ls []) := by
  have hx := X.1
  have hb := X.2.1
  intro fu
  induction fu with
  | zero =>
    intro xs l1 l2 H locs ls h
    unfold qX9_word_4 at h
    cases h
  | succ fu ih =>
    intro xs l1 l2 H locs ls h hH hl
    unfold qX9_word_4 at h
    refine lv_iload_n hx hb dX9_word_4 rfl (lv_at hl 2 rfl) ?_
    refine lv_bipush (v := (6 : Int32)) hx hb dX9_word_5 (by decide) ?_
    refine lv_icmp_ge (tgt := 105) hx hb dX9_word_7 (by decide) (fun c1 => ?_) (fun c1 => ?_)
    · have h := it_x h c1
      refine lv_aload_n hx hb dX9_word_105 rfl (lv_at hl 0 rfl) ?_
      refine lv_dup hx hb dX9_word_106 rfl ?_
      refine f_get X hH 0 rfl rfl 11 (by decide) inX9 fX9_180 rfl dX9_word_107 ?_
      refine lv_iload_n hx hb dX9_word_110 rfl (lv_at hl 1 rfl) ?_
      refine lv_iadd hx hb dX9_word_111 ?_
      obtain ⟨v1, ev1, h⟩ := ltt_x h
      refine lv_topi (fun y0 e0 => ?_)
      rw [← ev1] at e0
      subst y0
      obtain ⟨xs1, exs1, h⟩ := ltt_x h
      refine f_put X hH (ws1 := (wX9 g a i xs1)) 0 rfl rfl 11 (by decide) inX9 tyX9 tyX9_ok nmX9 fX9_180 rfl rfl rfl (Nat.le_of_ble_eq_true rfl) (by rw [exs1]; rfl) dX9_word_112 (fun H locs hH => ?_)
      refine lv_iconst (v := (-1 : Int32)) hx hb dX9_word_115 (by decide) ?_
      have h := Option.some.inj h
      subst h
      exact e_i X hH dX9_word_116
    · have h := ie_x h c1
      refine lv_iconst (v := (0 : Int32)) hx hb dX9_word_10 (by decide) ?_
      refine s_in X (lv' := [(3, .int (0 : Int32)), (0, .ref (a i)), (1, .int l1), (2, .int l2)]) hl rfl dX9_word_11 rfl (by decide) rfl (fun ls hl => ?_)
      exact pX9_word_12 X ih FU xs l1 l2 (0 : Int32) H locs ls h hH (lv_sub hl [1, 2, 3, 0] rfl)
set_option maxHeartbeats 4000000 in
set_option maxRecDepth 100000 in
theorem uX9_word {l : Launch} {g : GG} {a : Nat → Nat} {i : Nat} {xs : SX9} {o : (Int32 × SX9)} (h : fX9_word xs = some o) : mC l g yX9_word cX9_word 4 (some .int) (rM 0 0) [.ref (a i)] (wX9 g a i xs) (wX9 g a i o.2) (some (.int o.1)) := by
  refine mC.ofW (by decide) (fun p e s m below meth c X hH ls _ hl => ?_) (Nat.le_of_ble_eq_true rfl)
  have hx := X.1
  have hb := X.2.1
  have hl : lv_has ls 4 [(0, .ref (a i))] := hl
  unfold fX9_word at h
  suffices HH : ∀ (H : Heap) (locs : List Loc), mH g s (wX9 g a i xs) (wX9 g a i xs) H locs → W p l e (rM 0 0) s m _ below meth c H locs 0 0 (mZ g below _ s (wX9 g a i xs) (wX9 g a i o.2) (some (.int o.1))) (F0 m 0 ls []) from HH _ _ hH
  clear hH
  intro H locs hH
  refine lv_iconst (v := (0 : Int32)) hx hb dX9_word_0 (by decide) ?_
  refine s_in X (lv' := [(1, .int (0 : Int32)), (0, .ref (a i))]) hl rfl dX9_word_1 rfl (by decide) rfl (fun ls hl => ?_)
  refine lv_iconst (v := (0 : Int32)) hx hb dX9_word_2 (by decide) ?_
  refine s_in X (lv' := [(2, .int (0 : Int32)), (1, .int (0 : Int32)), (0, .ref (a i))]) hl rfl dX9_word_3 rfl (by decide) rfl (fun ls hl => ?_)
  exact pX9_word_4 X FU xs (0 : Int32) (0 : Int32) H locs ls h hH (lv_sub hl [2, 1, 0] rfl)

def fX9_isSign (xs : SX9) (pa : Int32) : Option (Int32 × SX9) :=
  (if (m_at xs) = (m_lettered xs) then
  some ((0 : Int32), xs)
  else
  ga 120 (m_at xs) fun j1 =>
  (if ((m_letters xs) j1) = pa then
  ltt (((m_at xs) + (1 : Int32))) fun v1 =>
  ltt ((m_at_s xs v1)) fun xs1 =>
  some ((1 : Int32), xs1)
  else
  some ((0 : Int32), xs)))
set_option maxHeartbeats 4000000 in
set_option maxRecDepth 100000 in
theorem uX9_isSign {l : Launch} {g : GG} {a : Nat → Nat} {i : Nat} {xs : SX9} {pa : Int32} {o : (Int32 × SX9)} (h : fX9_isSign xs pa = some o) : mC l g yX9_isSign cX9_isSign 2 (some .boolean) (rM 0 0) [.ref (a i), .int pa] (wX9 g a i xs) (wX9 g a i o.2) (some (.int o.1)) := by
  refine mC.ofW (by decide) (fun p e s m below meth c X hH ls _ hl => ?_) (Nat.le_of_ble_eq_true rfl)
  have hx := X.1
  have hb := X.2.1
  have hl : lv_has ls 2 [(0, .ref (a i)), (1, .int pa)] := hl
  unfold fX9_isSign at h
  suffices HH : ∀ (H : Heap) (locs : List Loc), mH g s (wX9 g a i xs) (wX9 g a i xs) H locs → W p l e (rM 0 0) s m _ below meth c H locs 0 0 (mZ g below _ s (wX9 g a i xs) (wX9 g a i o.2) (some (.int o.1))) (F0 m 0 ls []) from HH _ _ hH
  clear hH
  intro H locs hH
  refine lv_aload_n hx hb dX9_isSign_0 rfl (lv_at hl 0 rfl) ?_
  refine f_get X hH 0 rfl rfl 11 (by decide) inX9 fX9_180 rfl dX9_isSign_1 ?_
  refine lv_aload_n hx hb dX9_isSign_4 rfl (lv_at hl 0 rfl) ?_
  refine f_get X hH 0 rfl rfl 10 (by decide) inX9 fX9_177 rfl dX9_isSign_5 ?_
  refine lv_icmp_eq (tgt := 24) hx hb dX9_isSign_8 (by decide) (fun c1 => ?_) (fun c1 => ?_)
  · have h := it_x h c1
    refine lv_iconst (v := (0 : Int32)) hx hb dX9_isSign_24 (by decide) ?_
    have h := Option.some.inj h
    subst h
    exact e_z X hH (Or.inl rfl) dX9_isSign_25
  · have h := ie_x h c1
    refine lv_aload_n hx hb dX9_isSign_11 rfl (lv_at hl 0 rfl) ?_
    refine f_get X hH 0 rfl rfl 9 (by decide) inX9 fX9_35 rfl dX9_isSign_12 ?_
    refine lv_aload_n hx hb dX9_isSign_15 rfl (lv_at hl 0 rfl) ?_
    refine f_get X hH 0 rfl rfl 11 (by decide) inX9 fX9_180 rfl dX9_isSign_16 ?_
    obtain ⟨j1, ej1, hinj1, h⟩ := ga_x h
    refine a_il X hH 8 rfl hinj1 ej1 dX9_isSign_19 ?_
    refine lv_iload_n hx hb dX9_isSign_20 rfl (lv_at hl 1 rfl) ?_
    refine lv_icmp_eq (tgt := 26) hx hb dX9_isSign_21 (by decide) (fun c2 => ?_) (fun c2 => ?_)
    · have h := it_x h c2
      refine lv_aload_n hx hb dX9_isSign_26 rfl (lv_at hl 0 rfl) ?_
      refine lv_dup hx hb dX9_isSign_27 rfl ?_
      refine f_get X hH 0 rfl rfl 11 (by decide) inX9 fX9_180 rfl dX9_isSign_28 ?_
      refine lv_iconst (v := (1 : Int32)) hx hb dX9_isSign_31 (by decide) ?_
      refine lv_iadd hx hb dX9_isSign_32 ?_
      obtain ⟨v1, ev1, h⟩ := ltt_x h
      refine lv_topi (fun y0 e0 => ?_)
      rw [← ev1] at e0
      subst y0
      obtain ⟨xs1, exs1, h⟩ := ltt_x h
      refine f_put X hH (ws1 := (wX9 g a i xs1)) 0 rfl rfl 11 (by decide) inX9 tyX9 tyX9_ok nmX9 fX9_180 rfl rfl rfl (Nat.le_of_ble_eq_true rfl) (by rw [exs1]; rfl) dX9_isSign_33 (fun H locs hH => ?_)
      refine lv_iconst (v := (1 : Int32)) hx hb dX9_isSign_36 (by decide) ?_
      have h := Option.some.inj h
      subst h
      exact e_z X hH (Or.inr rfl) dX9_isSign_37
    · have h := ie_x h c2
      refine lv_iconst (v := (0 : Int32)) hx hb dX9_isSign_24 (by decide) ?_
      have h := Option.some.inj h
      subst h
      exact e_z X hH (Or.inl rfl) dX9_isSign_25

def fX9_isFigure (xs : SX9) : Option (Int32 × SX9) :=
  (if (m_at xs) = (m_lettered xs) then
  some ((0 : Int32), xs)
  else
  ga 120 (m_at xs) fun j1 =>
  (fX9_isIn (((m_letters xs) j1).toInt64) (48 : Int64) (57 : Int64)).bind fun o1 =>
  (if o1 = (0 : Int32) then
  some ((0 : Int32), xs)
  else
  ltt (((m_at xs) + (1 : Int32))) fun v1 =>
  ltt ((m_at_s xs v1)) fun xs1 =>
  some ((1 : Int32), xs1)))
set_option maxHeartbeats 4000000 in
set_option maxRecDepth 100000 in
theorem uX9_isFigure {l : Launch} {g : GG} {a : Nat → Nat} {i : Nat} {xs : SX9} {o : (Int32 × SX9)} (h : fX9_isFigure xs = some o) : mC l g yX9_isFigure cX9_isFigure 1 (some .boolean) (rM 1 25) [.ref (a i)] (wX9 g a i xs) (wX9 g a i o.2) (some (.int o.1)) := by
  refine mC.ofW (by decide) (fun p e s m below meth c X hH ls _ hl => ?_) (Nat.le_of_ble_eq_true rfl)
  have hx := X.1
  have hb := X.2.1
  have hl : lv_has ls 1 [(0, .ref (a i))] := hl
  unfold fX9_isFigure at h
  suffices HH : ∀ (H : Heap) (locs : List Loc), mH g s (wX9 g a i xs) (wX9 g a i xs) H locs → W p l e (rM 1 25) s m _ below meth c H locs 0 0 (mZ g below _ s (wX9 g a i xs) (wX9 g a i o.2) (some (.int o.1))) (F0 m 0 ls []) from HH _ _ hH
  clear hH
  intro H locs hH
  refine lv_aload_n hx hb dX9_isFigure_0 rfl (lv_at hl 0 rfl) ?_
  refine f_get X hH 0 rfl rfl 11 (by decide) inX9 fX9_180 rfl dX9_isFigure_1 ?_
  refine lv_aload_n hx hb dX9_isFigure_4 rfl (lv_at hl 0 rfl) ?_
  refine f_get X hH 0 rfl rfl 10 (by decide) inX9 fX9_177 rfl dX9_isFigure_5 ?_
  refine lv_icmp_eq (tgt := 33) hx hb dX9_isFigure_8 (by decide) (fun c1 => ?_) (fun c1 => ?_)
  · have h := it_x h c1
    refine lv_iconst (v := (0 : Int32)) hx hb dX9_isFigure_33 (by decide) ?_
    have h := Option.some.inj h
    subst h
    exact e_z X hH (Or.inl rfl) dX9_isFigure_34
  · have h := ie_x h c1
    refine lv_aload_n hx hb dX9_isFigure_11 rfl (lv_at hl 0 rfl) ?_
    refine f_get X hH 0 rfl rfl 9 (by decide) inX9 fX9_35 rfl dX9_isFigure_12 ?_
    refine lv_aload_n hx hb dX9_isFigure_15 rfl (lv_at hl 0 rfl) ?_
    refine f_get X hH 0 rfl rfl 11 (by decide) inX9 fX9_180 rfl dX9_isFigure_16 ?_
    obtain ⟨j1, ej1, hinj1, h⟩ := ga_x h
    refine a_il X hH 8 rfl hinj1 ej1 dX9_isFigure_19 ?_
    refine lv_i2l hx hb dX9_isFigure_20 rfl ?_
    refine lv_ldc2 hx hb X.2.2.2.2.1 (X.2.2.2.2.2.1 _ nX9_183) dX9_isFigure_21 ?_
    refine lv_ldc2 hx hb X.2.2.2.2.1 (X.2.2.2.2.2.1 _ nX9_185) dX9_isFigure_24 ?_
    obtain ⟨o1, ho1, h⟩ := bd_x h
    refine r_S X hH (ws1 := (wX9 g a i xs)) (As := [.long (((m_letters xs) j1).toInt64), .long (48 : Int64), .long (57 : Int64)]) (rest := []) (st1 := [.int o1]) (uX9_isIn  ho1) kX9_isIn mX9_116 sX9_isIn zX9 okX9_isIn ⟨Nat.le_of_ble_eq_true rfl, Nat.le_of_ble_eq_true rfl⟩ rfl rfl (pm_none _) (pm_none _) rfl hl.1 rfl (Nat.le_of_ble_eq_true rfl) ⟨Nat.le_refl 0, Nat.le_refl 0⟩ rfl dX9_isFigure_27 (fun H locs hH => ?_)
    refine lv_if_ne (tgt := 35) hx hb dX9_isFigure_30 (by decide) (fun c2 => ?_) (fun c2 => ?_)
    · have h := ie_x h c2
      refine lv_aload_n hx hb dX9_isFigure_35 rfl (lv_at hl 0 rfl) ?_
      refine lv_dup hx hb dX9_isFigure_36 rfl ?_
      refine f_get X hH 0 rfl rfl 11 (by decide) inX9 fX9_180 rfl dX9_isFigure_37 ?_
      refine lv_iconst (v := (1 : Int32)) hx hb dX9_isFigure_40 (by decide) ?_
      refine lv_iadd hx hb dX9_isFigure_41 ?_
      obtain ⟨v1, ev1, h⟩ := ltt_x h
      refine lv_topi (fun y0 e0 => ?_)
      rw [← ev1] at e0
      subst y0
      obtain ⟨xs1, exs1, h⟩ := ltt_x h
      refine f_put X hH (ws1 := (wX9 g a i xs1)) 0 rfl rfl 11 (by decide) inX9 tyX9 tyX9_ok nmX9 fX9_180 rfl rfl rfl (Nat.le_of_ble_eq_true rfl) (by rw [exs1]; rfl) dX9_isFigure_42 (fun H locs hH => ?_)
      refine lv_iconst (v := (1 : Int32)) hx hb dX9_isFigure_45 (by decide) ?_
      have h := Option.some.inj h
      subst h
      exact e_z X hH (Or.inr rfl) dX9_isFigure_46
    · have h := it_x h c2
      refine lv_iconst (v := (0 : Int32)) hx hb dX9_isFigure_33 (by decide) ?_
      have h := Option.some.inj h
      subst h
      exact e_z X hH (Or.inl rfl) dX9_isFigure_34

def qX9_statement_13   : Nat → SX9 → Int32 → Int32 → Option (Int32 × SX9)
  | 0, _, _, _ => none
  | fu + 1, xs, l1, l2 =>
  ga 6 l1 fun j1 =>
  (if ((m_numbers xs) j1) ≤ l2 then
  (fX9_isSign xs (59 : Int32)).bind fun o2 =>
  (if o2.1 = (0 : Int32) then
  some ((-1 : Int32), o2.2)
  else
  some (l1, o2.2))
  else
  (fX9_isSign xs (32 : Int32)).bind fun o3 =>
  (if o3.1 = (0 : Int32) then
  some ((-1 : Int32), o3.2)
  else
  (fX9_isFigure o3.2).bind fun o4 =>
  (if o4.1 = (0 : Int32) then
  some ((-1 : Int32), o4.2)
  else
  ga 120 ((m_at o4.2) - (1 : Int32)) fun j2 =>
  ltt ((((m_letters o4.2) j2) - (48 : Int32))) fun v1 =>
  ga 4 l2 fun j3 =>
  ltt ((m_told_s o4.2 (upd (m_told o4.2) j3 v1))) fun xs1 =>
  ltt (l2 + (1 : Int32)) fun v2 =>
  qX9_statement_13  fu xs1 l1 v2)))
def fX9_statement (xs : SX9) : Option (Int32 × SX9) :=
  (fX9_word xs).bind fun o1 =>
  (if (0 : Int32) ≤ o1.1 then
  qX9_statement_13 FU o1.2 o1.1 (0 : Int32)
  else
  some (o1.1, o1.2))
set_option maxHeartbeats 4000000 in
set_option maxRecDepth 100000 in
theorem pX9_statement_13 {p : Program} {l : Launch} {e : Env} {s : State} {m : MethodId} {args : Array Value} {below : List Frame} {meth : Method} {c : Code} {g : GG} {w0 : va_W} {a : Nat → Nat} {i : Nat}  {o : (Int32 × SX9)} (X : mX g yX9_statement cX9_statement 3 (some .int) p s m args meth c w0) :
  ∀ (fu : Nat) (xs : SX9) (l1 : Int32) (l2 : Int32) (H : Heap) (locs : List Loc) (ls : Array Slot), qX9_statement_13 fu xs l1 l2 = some o → mH g s w0 (wX9 g a i xs) H locs → lv_has ls 3 [(0, .ref (a i)), (1, .int l1), (2, .int l2)] → W p l e (rM 2 45) s m args below meth c H locs 0 0 (mZ g below args s w0 (wX9 g a i o.2) (some (.int o.1))) (F0 m 13 ls []) := by
  have hx := X.1
  have hb := X.2.1
  intro fu
  induction fu with
  | zero =>
    intro xs l1 l2 H locs ls h
    unfold qX9_statement_13 at h
    cases h
  | succ fu ih =>
    intro xs l1 l2 H locs ls h hH hl
    unfold qX9_statement_13 at h
    refine lv_iload_n hx hb dX9_statement_13 rfl (lv_at hl 2 rfl) ?_
    refine lv_aload_n hx hb dX9_statement_14 rfl (lv_at hl 0 rfl) ?_
    refine f_get X hH 0 rfl rfl 14 (by decide) inX9 fX9_45 rfl dX9_statement_15 ?_
    refine lv_iload_n hx hb dX9_statement_18 rfl (lv_at hl 1 rfl) ?_
    obtain ⟨j1, ej1, hinj1, h⟩ := ga_x h
    refine a_il X hH 11 rfl hinj1 ej1 dX9_statement_19 ?_
    refine lv_icmp_ge (tgt := 67) hx hb dX9_statement_20 (by decide) (fun c2 => ?_) (fun c2 => ?_)
    · have h := it_x h c2
      refine lv_aload_n hx hb dX9_statement_67 rfl (lv_at hl 0 rfl) ?_
      refine lv_bipush (v := (59 : Int32)) hx hb dX9_statement_68 (by decide) ?_
      obtain ⟨o2, ho2, h⟩ := bd_x h
      refine r_V X hH (ws1 := (wX9 g a i o2.2)) (As := [.int (59 : Int32)]) (rest := []) (st1 := [.int o2.1]) (uX9_isSign (a := a) (i := i) ho2) kX9_isSign mX9_191 iX9_isSign vX9_isSign zX9 okX9_isSign ⟨Nat.le_of_ble_eq_true rfl, Nat.le_of_ble_eq_true rfl⟩ rfl rfl (q0 := 0) rfl rfl (pm_all _) (pm_all _) rfl hl.1 rfl (Nat.le_of_ble_eq_true rfl) ⟨Nat.le_refl 0, Nat.le_refl 0⟩ rfl dX9_statement_70 (fun H locs hH => ?_)
      refine lv_if_eq (tgt := 80) hx hb dX9_statement_73 (by decide) (fun c3 => ?_) (fun c3 => ?_)
      · have h := it_x h c3
        refine lv_iconst (v := (-1 : Int32)) hx hb dX9_statement_80 (by decide) ?_
        have h := Option.some.inj h
        subst h
        exact e_i X hH dX9_statement_81
      · have h := ie_x h c3
        refine lv_iload_n hx hb dX9_statement_76 rfl (lv_at hl 1 rfl) ?_
        refine lv_goto (tgt := 81) hx hb dX9_statement_77 (by decide) ?_
        have h := Option.some.inj h
        subst h
        exact e_i X hH dX9_statement_81
    · have h := ie_x h c2
      refine lv_aload_n hx hb dX9_statement_23 rfl (lv_at hl 0 rfl) ?_
      refine lv_bipush (v := (32 : Int32)) hx hb dX9_statement_24 (by decide) ?_
      obtain ⟨o3, ho3, h⟩ := bd_x h
      refine r_V X hH (ws1 := (wX9 g a i o3.2)) (As := [.int (32 : Int32)]) (rest := []) (st1 := [.int o3.1]) (uX9_isSign (a := a) (i := i) ho3) kX9_isSign mX9_191 iX9_isSign vX9_isSign zX9 okX9_isSign ⟨Nat.le_of_ble_eq_true rfl, Nat.le_of_ble_eq_true rfl⟩ rfl rfl (q0 := 0) rfl rfl (pm_all _) (pm_all _) rfl hl.1 rfl (Nat.le_of_ble_eq_true rfl) ⟨Nat.le_refl 0, Nat.le_refl 0⟩ rfl dX9_statement_26 (fun H locs hH => ?_)
      refine lv_if_eq (tgt := 39) hx hb dX9_statement_29 (by decide) (fun c4 => ?_) (fun c4 => ?_)
      · have h := it_x h c4
        refine lv_iconst (v := (-1 : Int32)) hx hb dX9_statement_39 (by decide) ?_
        have h := Option.some.inj h
        subst h
        exact e_i X hH dX9_statement_40
      · have h := ie_x h c4
        refine lv_aload_n hx hb dX9_statement_32 rfl (lv_at hl 0 rfl) ?_
        obtain ⟨o4, ho4, h⟩ := bd_x h
        refine r_V X hH (ws1 := (wX9 g a i o4.2)) (As := []) (rest := []) (st1 := [.int o4.1]) (uX9_isFigure (a := a) (i := i) ho4) kX9_isFigure mX9_194 iX9_isFigure vX9_isFigure zX9 okX9_isFigure ⟨Nat.le_of_ble_eq_true rfl, Nat.le_of_ble_eq_true rfl⟩ rfl rfl (q0 := 0) rfl rfl (pm_all _) (pm_all _) rfl hl.1 rfl (Nat.le_of_ble_eq_true rfl) ⟨Nat.le_refl 0, Nat.le_refl 0⟩ rfl dX9_statement_33 (fun H locs hH => ?_)
        refine lv_if_ne (tgt := 41) hx hb dX9_statement_36 (by decide) (fun c5 => ?_) (fun c5 => ?_)
        · have h := ie_x h c5
          refine lv_aload_n hx hb dX9_statement_41 rfl (lv_at hl 0 rfl) ?_
          refine f_get X hH 0 rfl rfl 15 (by decide) inX9 fX9_48 rfl dX9_statement_42 ?_
          refine lv_iload_n hx hb dX9_statement_45 rfl (lv_at hl 2 rfl) ?_
          refine lv_aload_n hx hb dX9_statement_46 rfl (lv_at hl 0 rfl) ?_
          refine f_get X hH 0 rfl rfl 9 (by decide) inX9 fX9_35 rfl dX9_statement_47 ?_
          refine lv_aload_n hx hb dX9_statement_50 rfl (lv_at hl 0 rfl) ?_
          refine f_get X hH 0 rfl rfl 11 (by decide) inX9 fX9_180 rfl dX9_statement_51 ?_
          refine lv_iconst (v := (1 : Int32)) hx hb dX9_statement_54 (by decide) ?_
          refine lv_isub hx hb dX9_statement_55 ?_
          obtain ⟨j2, ej2, hinj2, h⟩ := ga_x h
          refine a_il X hH 8 rfl hinj2 ej2 dX9_statement_56 ?_
          refine lv_bipush (v := (48 : Int32)) hx hb dX9_statement_57 (by decide) ?_
          refine lv_isub hx hb dX9_statement_59 ?_
          obtain ⟨v1, ev1, h⟩ := ltt_x h
          refine lv_topi (fun y0 e0 => ?_)
          rw [← ev1] at e0
          subst y0
          obtain ⟨j3, ej3, hinj3, h⟩ := ga_x h
          obtain ⟨xs1, exs1, h⟩ := ltt_x h
          refine a_is X hH (ws1 := (wX9 g a i xs1)) 12 rfl hinj3 ej3 (by rw [exs1]; rfl) dX9_statement_60 (fun H locs hH => ?_)
          obtain ⟨v2, ev2, h⟩ := ltt_x h
          refine s_inc X (k := 2) (lv' := [(2, .int v2), (0, .ref (a i)), (1, .int l1)]) hl rfl (by rw [ev2]; rfl) dX9_statement_61 (by decide) rfl (fun ls hl => ?_)
          refine lv_goto (tgt := 13) hx hb dX9_statement_64 (by decide) ?_
          exact ih xs1 l1 v2 H locs ls h hH (lv_sub hl [1, 2, 0] rfl)
        · have h := it_x h c5
          refine lv_iconst (v := (-1 : Int32)) hx hb dX9_statement_39 (by decide) ?_
          have h := Option.some.inj h
          subst h
          exact e_i X hH dX9_statement_40
set_option maxHeartbeats 4000000 in
set_option maxRecDepth 100000 in
theorem uX9_statement {l : Launch} {g : GG} {a : Nat → Nat} {i : Nat} {xs : SX9} {o : (Int32 × SX9)} (h : fX9_statement xs = some o) : mC l g yX9_statement cX9_statement 3 (some .int) (rM 2 45) [.ref (a i)] (wX9 g a i xs) (wX9 g a i o.2) (some (.int o.1)) := by
  refine mC.ofW (by decide) (fun p e s m below meth c X hH ls _ hl => ?_) (Nat.le_of_ble_eq_true rfl)
  have hx := X.1
  have hb := X.2.1
  have hl : lv_has ls 3 [(0, .ref (a i))] := hl
  unfold fX9_statement at h
  suffices HH : ∀ (H : Heap) (locs : List Loc), mH g s (wX9 g a i xs) (wX9 g a i xs) H locs → W p l e (rM 2 45) s m _ below meth c H locs 0 0 (mZ g below _ s (wX9 g a i xs) (wX9 g a i o.2) (some (.int o.1))) (F0 m 0 ls []) from HH _ _ hH
  clear hH
  intro H locs hH
  refine lv_aload_n hx hb dX9_statement_0 rfl (lv_at hl 0 rfl) ?_
  obtain ⟨o1, ho1, h⟩ := bd_x h
  refine r_V X hH (ws1 := (wX9 g a i o1.2)) (As := []) (rest := []) (st1 := [.int o1.1]) (uX9_word (a := a) (i := i) ho1) kX9_word mX9_187 iX9_word vX9_word zX9 okX9_word ⟨Nat.le_of_ble_eq_true rfl, Nat.le_of_ble_eq_true rfl⟩ rfl rfl (q0 := 0) rfl rfl (pm_all _) (pm_all _) rfl hl.1 rfl (Nat.le_of_ble_eq_true rfl) ⟨Nat.le_refl 0, Nat.le_refl 0⟩ rfl dX9_statement_1 (fun H locs hH => ?_)
  refine s_in X (lv' := [(1, .int o1.1), (0, .ref (a i))]) hl rfl dX9_statement_4 rfl (by decide) rfl (fun ls hl => ?_)
  refine lv_iload_n hx hb dX9_statement_5 rfl (lv_at hl 0 rfl) ?_
  refine lv_if_ge (tgt := 11) hx hb dX9_statement_6 (by decide) (fun c1 => ?_) (fun c1 => ?_)
  · have h := it_x h c1
    refine lv_iconst (v := (0 : Int32)) hx hb dX9_statement_11 (by decide) ?_
    refine s_in X (lv' := [(2, .int (0 : Int32)), (1, .int o1.1), (0, .ref (a i))]) hl rfl dX9_statement_12 rfl (by decide) rfl (fun ls hl => ?_)
    exact pX9_statement_13 X FU o1.2 o1.1 (0 : Int32) H locs ls h hH (lv_sub hl [2, 1, 0] rfl)
  · have h := ie_x h c1
    refine lv_iload_n hx hb dX9_statement_9 rfl (lv_at hl 0 rfl) ?_
    have h := Option.some.inj h
    subst h
    exact e_i X hH dX9_statement_10

def qX9_notSo_88 (xs : SX9) (pa : Int32)   : Option Int32 :=
  ga 4 (0 : Int32) fun j3 =>
  ga 4 (1 : Int32) fun j4 =>
  (fX9_notNumber xs ((m_told xs) j3) ((m_told xs) j4)).bind fun o3 =>
  some o3
def fX9_notSo (xs : SX9) (pa : Int32) : Option Int32 :=
  (if pa = (0 : Int32) then
  ga 4 (0 : Int32) fun j8 =>
  ga 4 (1 : Int32) fun j9 =>
  ga 4 (2 : Int32) fun j10 =>
  ga 4 (3 : Int32) fun j11 =>
  (fX9_notWay xs ((m_told xs) j8) ((m_told xs) j9) ((m_told xs) j10) ((m_told xs) j11)).bind fun o5 =>
  some o5
  else
  (if pa = (1 : Int32) then
  ga 4 (0 : Int32) fun j5 =>
  ga 4 (1 : Int32) fun j6 =>
  ga 4 (2 : Int32) fun j7 =>
  (fX9_notKind xs ((m_told xs) j5) ((m_told xs) j6) ((m_told xs) j7)).bind fun o4 =>
  some o4
  else
  (if pa = (2 : Int32) then
  qX9_notSo_88 xs pa 
  else
  (if pa = (3 : Int32) then
  qX9_notSo_88 xs pa 
  else
  (if pa = (4 : Int32) then
  ga 4 (0 : Int32) fun j2 =>
  (fX9_isWay xs ((m_told xs) j2)).bind fun o2 =>
  (if o2 = (0 : Int32) then
  some (-1 : Int32)
  else
  some (0 : Int32))
  else
  ga 4 (0 : Int32) fun j1 =>
  (fX9_notPoints xs ((m_told xs) j1)).bind fun o1 =>
  some o1)))))
set_option maxHeartbeats 4000000 in
set_option maxRecDepth 100000 in
theorem pX9_notSo_88 {p : Program} {l : Launch} {e : Env} {s : State} {m : MethodId} {args : Array Value} {below : List Frame} {meth : Method} {c : Code} {g : GG} {w0 : va_W} {a : Nat → Nat} {i : Nat} {xs : SX9} {pa : Int32} {o : Int32} (X : mX g yX9_notSo cX9_notSo 2 (some .int) p s m args meth c w0) :
  ∀  (H : Heap) (locs : List Loc) (ls : Array Slot), qX9_notSo_88 xs pa = some o → mH g s w0 (wX9 g a i xs) H locs → lv_has ls 2 [(0, .ref (a i)), (1, .int pa)] → W p l e (rM 3 70) s m args below meth c H locs 0 0 (mZ g below args s w0 (wX9 g a i xs) (some (.int o))) (F0 m 88 ls []) := by
  have hx := X.1
  have hb := X.2.1
  intro  H locs ls h hH hl
  unfold qX9_notSo_88 at h
  refine lv_aload_n hx hb dX9_notSo_88 rfl (lv_at hl 0 rfl) ?_
  refine lv_aload_n hx hb dX9_notSo_89 rfl (lv_at hl 0 rfl) ?_
  refine f_get X hH 0 rfl rfl 15 (by decide) inX9 fX9_48 rfl dX9_notSo_90 ?_
  refine lv_iconst (v := (0 : Int32)) hx hb dX9_notSo_93 (by decide) ?_
  obtain ⟨j3, ej3, hinj3, h⟩ := ga_x h
  refine a_il X hH 12 rfl hinj3 ej3 dX9_notSo_94 ?_
  refine lv_aload_n hx hb dX9_notSo_95 rfl (lv_at hl 0 rfl) ?_
  refine f_get X hH 0 rfl rfl 15 (by decide) inX9 fX9_48 rfl dX9_notSo_96 ?_
  refine lv_iconst (v := (1 : Int32)) hx hb dX9_notSo_99 (by decide) ?_
  obtain ⟨j4, ej4, hinj4, h⟩ := ga_x h
  refine a_il X hH 12 rfl hinj4 ej4 dX9_notSo_100 ?_
  obtain ⟨o3, ho3, h⟩ := bd_x h
  refine r_V X hH (ws1 := (wX9 g a i xs)) (As := [.int ((m_told xs) j3), .int ((m_told xs) j4)]) (rest := []) (st1 := [.int o3]) (uX9_notNumber (a := a) (i := i) ho3) kX9_notNumber mX9_167 iX9_notNumber vX9_notNumber zX9 okX9_notNumber ⟨Nat.le_of_ble_eq_true rfl, Nat.le_of_ble_eq_true rfl⟩ rfl rfl (q0 := 0) rfl rfl (pm_all _) (pm_all _) rfl hl.1 rfl (Nat.le_of_ble_eq_true rfl) ⟨Nat.le_refl 0, Nat.le_refl 0⟩ rfl dX9_notSo_101 (fun H locs hH => ?_)
  have h := Option.some.inj h
  subst h
  exact e_i X hH dX9_notSo_104
set_option maxHeartbeats 4000000 in
set_option maxRecDepth 100000 in
theorem uX9_notSo {l : Launch} {g : GG} {a : Nat → Nat} {i : Nat} {xs : SX9} {pa : Int32} {o : Int32} (h : fX9_notSo xs pa = some o) : mC l g yX9_notSo cX9_notSo 2 (some .int) (rM 3 70) [.ref (a i), .int pa] (wX9 g a i xs) (wX9 g a i xs) (some (.int o)) := by
  refine mC.ofW (by decide) (fun p e s m below meth c X hH ls _ hl => ?_) (Nat.le_of_ble_eq_true rfl)
  have hx := X.1
  have hb := X.2.1
  have hl : lv_has ls 2 [(0, .ref (a i)), (1, .int pa)] := hl
  unfold fX9_notSo at h
  suffices HH : ∀ (H : Heap) (locs : List Loc), mH g s (wX9 g a i xs) (wX9 g a i xs) H locs → W p l e (rM 3 70) s m _ below meth c H locs 0 0 (mZ g below _ s (wX9 g a i xs) (wX9 g a i xs) (some (.int o))) (F0 m 0 ls []) from HH _ _ hH
  clear hH
  intro H locs hH
  refine lv_iload_n hx hb dX9_notSo_0 rfl (lv_at hl 1 rfl) ?_
  rcases Classical.em (pa = (0 : Int32)) with c1 | c1
  · have h := it_x h c1
    refine lv_tableIn (tgt := 36) hx hb dX9_notSo_1 (by rw [c1]; decide) (by rw [c1]; decide) (off := 35) (by rw [c1]; decide) (by decide) ?_
    refine lv_aload_n hx hb dX9_notSo_36 rfl (lv_at hl 0 rfl) ?_
    refine lv_aload_n hx hb dX9_notSo_37 rfl (lv_at hl 0 rfl) ?_
    refine f_get X hH 0 rfl rfl 15 (by decide) inX9 fX9_48 rfl dX9_notSo_38 ?_
    refine lv_iconst (v := (0 : Int32)) hx hb dX9_notSo_41 (by decide) ?_
    obtain ⟨j8, ej8, hinj8, h⟩ := ga_x h
    refine a_il X hH 12 rfl hinj8 ej8 dX9_notSo_42 ?_
    refine lv_aload_n hx hb dX9_notSo_43 rfl (lv_at hl 0 rfl) ?_
    refine f_get X hH 0 rfl rfl 15 (by decide) inX9 fX9_48 rfl dX9_notSo_44 ?_
    refine lv_iconst (v := (1 : Int32)) hx hb dX9_notSo_47 (by decide) ?_
    obtain ⟨j9, ej9, hinj9, h⟩ := ga_x h
    refine a_il X hH 12 rfl hinj9 ej9 dX9_notSo_48 ?_
    refine lv_aload_n hx hb dX9_notSo_49 rfl (lv_at hl 0 rfl) ?_
    refine f_get X hH 0 rfl rfl 15 (by decide) inX9 fX9_48 rfl dX9_notSo_50 ?_
    refine lv_iconst (v := (2 : Int32)) hx hb dX9_notSo_53 (by decide) ?_
    obtain ⟨j10, ej10, hinj10, h⟩ := ga_x h
    refine a_il X hH 12 rfl hinj10 ej10 dX9_notSo_54 ?_
    refine lv_aload_n hx hb dX9_notSo_55 rfl (lv_at hl 0 rfl) ?_
    refine f_get X hH 0 rfl rfl 15 (by decide) inX9 fX9_48 rfl dX9_notSo_56 ?_
    refine lv_iconst (v := (3 : Int32)) hx hb dX9_notSo_59 (by decide) ?_
    obtain ⟨j11, ej11, hinj11, h⟩ := ga_x h
    refine a_il X hH 12 rfl hinj11 ej11 dX9_notSo_60 ?_
    obtain ⟨o5, ho5, h⟩ := bd_x h
    refine r_V X hH (ws1 := (wX9 g a i xs)) (As := [.int ((m_told xs) j8), .int ((m_told xs) j9), .int ((m_told xs) j10), .int ((m_told xs) j11)]) (rest := []) (st1 := [.int o5]) (uX9_notWay (a := a) (i := i) ho5) kX9_notWay mX9_156 iX9_notWay vX9_notWay zX9 okX9_notWay ⟨Nat.le_of_ble_eq_true rfl, Nat.le_of_ble_eq_true rfl⟩ rfl rfl (q0 := 0) rfl rfl (pm_all _) (pm_all _) rfl hl.1 rfl (Nat.le_of_ble_eq_true rfl) ⟨Nat.le_refl 0, Nat.le_refl 0⟩ rfl dX9_notSo_61 (fun H locs hH => ?_)
    have h := Option.some.inj h
    subst h
    exact e_i X hH dX9_notSo_64
  · have h := ie_x h c1
    rcases Classical.em (pa = (1 : Int32)) with c2 | c2
    · have h := it_x h c2
      refine lv_tableIn (tgt := 65) hx hb dX9_notSo_1 (by rw [c2]; decide) (by rw [c2]; decide) (off := 64) (by rw [c2]; decide) (by decide) ?_
      refine lv_aload_n hx hb dX9_notSo_65 rfl (lv_at hl 0 rfl) ?_
      refine lv_aload_n hx hb dX9_notSo_66 rfl (lv_at hl 0 rfl) ?_
      refine f_get X hH 0 rfl rfl 15 (by decide) inX9 fX9_48 rfl dX9_notSo_67 ?_
      refine lv_iconst (v := (0 : Int32)) hx hb dX9_notSo_70 (by decide) ?_
      obtain ⟨j5, ej5, hinj5, h⟩ := ga_x h
      refine a_il X hH 12 rfl hinj5 ej5 dX9_notSo_71 ?_
      refine lv_aload_n hx hb dX9_notSo_72 rfl (lv_at hl 0 rfl) ?_
      refine f_get X hH 0 rfl rfl 15 (by decide) inX9 fX9_48 rfl dX9_notSo_73 ?_
      refine lv_iconst (v := (1 : Int32)) hx hb dX9_notSo_76 (by decide) ?_
      obtain ⟨j6, ej6, hinj6, h⟩ := ga_x h
      refine a_il X hH 12 rfl hinj6 ej6 dX9_notSo_77 ?_
      refine lv_aload_n hx hb dX9_notSo_78 rfl (lv_at hl 0 rfl) ?_
      refine f_get X hH 0 rfl rfl 15 (by decide) inX9 fX9_48 rfl dX9_notSo_79 ?_
      refine lv_iconst (v := (2 : Int32)) hx hb dX9_notSo_82 (by decide) ?_
      obtain ⟨j7, ej7, hinj7, h⟩ := ga_x h
      refine a_il X hH 12 rfl hinj7 ej7 dX9_notSo_83 ?_
      obtain ⟨o4, ho4, h⟩ := bd_x h
      refine r_V X hH (ws1 := (wX9 g a i xs)) (As := [.int ((m_told xs) j5), .int ((m_told xs) j6), .int ((m_told xs) j7)]) (rest := []) (st1 := [.int o4]) (uX9_notKind (a := a) (i := i) ho4) kX9_notKind mX9_164 iX9_notKind vX9_notKind zX9 okX9_notKind ⟨Nat.le_of_ble_eq_true rfl, Nat.le_of_ble_eq_true rfl⟩ rfl rfl (q0 := 0) rfl rfl (pm_all _) (pm_all _) rfl hl.1 rfl (Nat.le_of_ble_eq_true rfl) ⟨Nat.le_refl 0, Nat.le_refl 0⟩ rfl dX9_notSo_84 (fun H locs hH => ?_)
      have h := Option.some.inj h
      subst h
      exact e_i X hH dX9_notSo_87
    · have h := ie_x h c2
      rcases Classical.em (pa = (2 : Int32)) with c3 | c3
      · have h := it_x h c3
        refine lv_tableIn (tgt := 88) hx hb dX9_notSo_1 (by rw [c3]; decide) (by rw [c3]; decide) (off := 87) (by rw [c3]; decide) (by decide) ?_
        exact pX9_notSo_88 X   H locs ls h hH (lv_sub hl [0, 1] rfl)
      · have h := ie_x h c3
        rcases Classical.em (pa = (3 : Int32)) with c4 | c4
        · have h := it_x h c4
          refine lv_tableIn (tgt := 88) hx hb dX9_notSo_1 (by rw [c4]; decide) (by rw [c4]; decide) (off := 87) (by rw [c4]; decide) (by decide) ?_
          exact pX9_notSo_88 X   H locs ls h hH (lv_sub hl [0, 1] rfl)
        · have h := ie_x h c4
          rcases Classical.em (pa = (4 : Int32)) with c5 | c5
          · have h := it_x h c5
            refine lv_tableIn (tgt := 105) hx hb dX9_notSo_1 (by rw [c5]; decide) (by rw [c5]; decide) (off := 104) (by rw [c5]; decide) (by decide) ?_
            refine lv_aload_n hx hb dX9_notSo_105 rfl (lv_at hl 0 rfl) ?_
            refine lv_aload_n hx hb dX9_notSo_106 rfl (lv_at hl 0 rfl) ?_
            refine f_get X hH 0 rfl rfl 15 (by decide) inX9 fX9_48 rfl dX9_notSo_107 ?_
            refine lv_iconst (v := (0 : Int32)) hx hb dX9_notSo_110 (by decide) ?_
            obtain ⟨j2, ej2, hinj2, h⟩ := ga_x h
            refine a_il X hH 12 rfl hinj2 ej2 dX9_notSo_111 ?_
            obtain ⟨o2, ho2, h⟩ := bd_x h
            refine r_V X hH (ws1 := (wX9 g a i xs)) (As := [.int ((m_told xs) j2)]) (rest := []) (st1 := [.int o2]) (uX9_isWay (a := a) (i := i) ho2) kX9_isWay mX9_145 iX9_isWay vX9_isWay zX9 okX9_isWay ⟨Nat.le_of_ble_eq_true rfl, Nat.le_of_ble_eq_true rfl⟩ rfl rfl (q0 := 0) rfl rfl (pm_all _) (pm_all _) rfl hl.1 rfl (Nat.le_of_ble_eq_true rfl) ⟨Nat.le_refl 0, Nat.le_refl 0⟩ rfl dX9_notSo_112 (fun H locs hH => ?_)
            refine lv_if_eq (tgt := 122) hx hb dX9_notSo_115 (by decide) (fun c6 => ?_) (fun c6 => ?_)
            · have h := it_x h c6
              refine lv_iconst (v := (-1 : Int32)) hx hb dX9_notSo_122 (by decide) ?_
              have h := Option.some.inj h
              subst h
              exact e_i X hH dX9_notSo_123
            · have h := ie_x h c6
              refine lv_iconst (v := (0 : Int32)) hx hb dX9_notSo_118 (by decide) ?_
              refine lv_goto (tgt := 123) hx hb dX9_notSo_119 (by decide) ?_
              have h := Option.some.inj h
              subst h
              exact e_i X hH dX9_notSo_123
          · have h := ie_x h c5
            refine lv_tableOut (tgt := 124) hx hb dX9_notSo_1 (tsw_0_4 (c1) (c2) (c3) (c4) (c5)) (by decide) ?_
            refine lv_aload_n hx hb dX9_notSo_124 rfl (lv_at hl 0 rfl) ?_
            refine lv_aload_n hx hb dX9_notSo_125 rfl (lv_at hl 0 rfl) ?_
            refine f_get X hH 0 rfl rfl 15 (by decide) inX9 fX9_48 rfl dX9_notSo_126 ?_
            refine lv_iconst (v := (0 : Int32)) hx hb dX9_notSo_129 (by decide) ?_
            obtain ⟨j1, ej1, hinj1, h⟩ := ga_x h
            refine a_il X hH 12 rfl hinj1 ej1 dX9_notSo_130 ?_
            obtain ⟨o1, ho1, h⟩ := bd_x h
            refine r_V X hH (ws1 := (wX9 g a i xs)) (As := [.int ((m_told xs) j1)]) (rest := []) (st1 := [.int o1]) (uX9_notPoints (a := a) (i := i) ho1) kX9_notPoints mX9_150 iX9_notPoints vX9_notPoints zX9 okX9_notPoints ⟨Nat.le_of_ble_eq_true rfl, Nat.le_of_ble_eq_true rfl⟩ rfl rfl (q0 := 0) rfl rfl (pm_all _) (pm_all _) rfl hl.1 rfl (Nat.le_of_ble_eq_true rfl) ⟨Nat.le_refl 0, Nat.le_refl 0⟩ rfl dX9_notSo_131 (fun H locs hH => ?_)
            have h := Option.some.inj h
            subst h
            exact e_i X hH dX9_notSo_134

def fX9_does (xs : SX9) (pa : Int32) : Option SX9 :=
  (if pa = (0 : Int32) then
  ga 4 (0 : Int32) fun j15 =>
  ga 4 (1 : Int32) fun j16 =>
  ga 4 (2 : Int32) fun j17 =>
  ga 4 (3 : Int32) fun j18 =>
  (fX9_comes xs ((m_told xs) j15) ((m_told xs) j16) ((m_told xs) j17) ((m_told xs) j18)).bind fun o3 =>
  some o3
  else
  (if pa = (1 : Int32) then
  ga 4 (0 : Int32) fun j9 =>
  ga 4 (1 : Int32) fun j10 =>
  ltt (((m_told xs) j10)) fun v3 =>
  ga 11 ((m_told xs) j9) fun j11 =>
  ltt ((m_kind_s xs (upd (m_kind xs) j11 v3))) fun xs3 =>
  ga 4 (0 : Int32) fun j12 =>
  ga 4 (2 : Int32) fun j13 =>
  ltt (((m_told xs3) j13)) fun v4 =>
  ga 11 ((m_told xs3) j12) fun j14 =>
  ltt ((m_figure_s xs3 (upd (m_figure xs3) j14 v4))) fun xs4 =>
  some xs4
  else
  (if pa = (2 : Int32) then
  ga 4 (0 : Int32) fun j6 =>
  ga 4 (1 : Int32) fun j7 =>
  ltt (((m_told xs) j7)) fun v2 =>
  ga 11 ((m_told xs) j6) fun j8 =>
  ltt ((m_load_s xs (upd (m_load xs) j8 v2))) fun xs2 =>
  some xs2
  else
  (if pa = (3 : Int32) then
  ga 4 (0 : Int32) fun j3 =>
  ga 4 (1 : Int32) fun j4 =>
  ltt (((m_told xs) j4)) fun v1 =>
  ga 11 ((m_told xs) j3) fun j5 =>
  ltt ((m_length_s xs (upd (m_length xs) j5 v1))) fun xs1 =>
  some xs1
  else
  (if pa = (4 : Int32) then
  ga 4 (0 : Int32) fun j2 =>
  (fX9_loses xs ((m_told xs) j2)).bind fun o2 =>
  some o2
  else
  ga 4 (0 : Int32) fun j1 =>
  (fX9_becomes xs ((m_told xs) j1)).bind fun o1 =>
  some o1)))))
set_option maxHeartbeats 4000000 in
set_option maxRecDepth 100000 in
theorem uX9_does {l : Launch} {g : GG} {a : Nat → Nat} {i : Nat} {xs : SX9} {pa : Int32} {o : SX9} (h : fX9_does xs pa = some o) : mC l g yX9_does cX9_does 2 none (rM 3 66) [.ref (a i), .int pa] (wX9 g a i xs) (wX9 g a i o) none := by
  refine mC.ofW (by decide) (fun p e s m below meth c X hH ls _ hl => ?_) (Nat.le_of_ble_eq_true rfl)
  have hx := X.1
  have hb := X.2.1
  have hl : lv_has ls 2 [(0, .ref (a i)), (1, .int pa)] := hl
  unfold fX9_does at h
  suffices HH : ∀ (H : Heap) (locs : List Loc), mH g s (wX9 g a i xs) (wX9 g a i xs) H locs → W p l e (rM 3 66) s m _ below meth c H locs 0 0 (mZ g below _ s (wX9 g a i xs) (wX9 g a i o) none) (F0 m 0 ls []) from HH _ _ hH
  clear hH
  intro H locs hH
  refine lv_iload_n hx hb dX9_does_0 rfl (lv_at hl 1 rfl) ?_
  rcases Classical.em (pa = (0 : Int32)) with c1 | c1
  · have h := it_x h c1
    refine lv_tableIn (tgt := 36) hx hb dX9_does_1 (by rw [c1]; decide) (by rw [c1]; decide) (off := 35) (by rw [c1]; decide) (by decide) ?_
    refine lv_aload_n hx hb dX9_does_36 rfl (lv_at hl 0 rfl) ?_
    refine lv_aload_n hx hb dX9_does_37 rfl (lv_at hl 0 rfl) ?_
    refine f_get X hH 0 rfl rfl 15 (by decide) inX9 fX9_48 rfl dX9_does_38 ?_
    refine lv_iconst (v := (0 : Int32)) hx hb dX9_does_41 (by decide) ?_
    obtain ⟨j15, ej15, hinj15, h⟩ := ga_x h
    refine a_il X hH 12 rfl hinj15 ej15 dX9_does_42 ?_
    refine lv_aload_n hx hb dX9_does_43 rfl (lv_at hl 0 rfl) ?_
    refine f_get X hH 0 rfl rfl 15 (by decide) inX9 fX9_48 rfl dX9_does_44 ?_
    refine lv_iconst (v := (1 : Int32)) hx hb dX9_does_47 (by decide) ?_
    obtain ⟨j16, ej16, hinj16, h⟩ := ga_x h
    refine a_il X hH 12 rfl hinj16 ej16 dX9_does_48 ?_
    refine lv_aload_n hx hb dX9_does_49 rfl (lv_at hl 0 rfl) ?_
    refine f_get X hH 0 rfl rfl 15 (by decide) inX9 fX9_48 rfl dX9_does_50 ?_
    refine lv_iconst (v := (2 : Int32)) hx hb dX9_does_53 (by decide) ?_
    obtain ⟨j17, ej17, hinj17, h⟩ := ga_x h
    refine a_il X hH 12 rfl hinj17 ej17 dX9_does_54 ?_
    refine lv_aload_n hx hb dX9_does_55 rfl (lv_at hl 0 rfl) ?_
    refine f_get X hH 0 rfl rfl 15 (by decide) inX9 fX9_48 rfl dX9_does_56 ?_
    refine lv_iconst (v := (3 : Int32)) hx hb dX9_does_59 (by decide) ?_
    obtain ⟨j18, ej18, hinj18, h⟩ := ga_x h
    refine a_il X hH 12 rfl hinj18 ej18 dX9_does_60 ?_
    obtain ⟨o3, ho3, h⟩ := bd_x h
    refine r_V X hH (ws1 := (wX9 g a i o3)) (As := [.int ((m_told xs) j15), .int ((m_told xs) j16), .int ((m_told xs) j17), .int ((m_told xs) j18)]) (rest := []) (st1 := []) (uX9_comes (a := a) (i := i) ho3) kX9_comes mX9_160 iX9_comes vX9_comes zX9 okX9_comes ⟨Nat.le_of_ble_eq_true rfl, Nat.le_of_ble_eq_true rfl⟩ rfl rfl (q0 := 0) rfl rfl (pm_all _) (pm_all _) rfl hl.1 rfl (Nat.le_of_ble_eq_true rfl) ⟨Nat.le_refl 0, Nat.le_refl 0⟩ rfl dX9_does_61 (fun H locs hH => ?_)
    refine lv_goto (tgt := 167) hx hb dX9_does_64 (by decide) ?_
    have h := Option.some.inj h
    subst h
    exact e_v X hH dX9_does_167
  · have h := ie_x h c1
    rcases Classical.em (pa = (1 : Int32)) with c2 | c2
    · have h := it_x h c2
      refine lv_tableIn (tgt := 67) hx hb dX9_does_1 (by rw [c2]; decide) (by rw [c2]; decide) (off := 66) (by rw [c2]; decide) (by decide) ?_
      refine lv_aload_n hx hb dX9_does_67 rfl (lv_at hl 0 rfl) ?_
      refine f_get X hH 0 rfl rfl 4 (by decide) inX9 fX9_20 rfl dX9_does_68 ?_
      refine lv_aload_n hx hb dX9_does_71 rfl (lv_at hl 0 rfl) ?_
      refine f_get X hH 0 rfl rfl 15 (by decide) inX9 fX9_48 rfl dX9_does_72 ?_
      refine lv_iconst (v := (0 : Int32)) hx hb dX9_does_75 (by decide) ?_
      obtain ⟨j9, ej9, hinj9, h⟩ := ga_x h
      refine a_il X hH 12 rfl hinj9 ej9 dX9_does_76 ?_
      refine lv_aload_n hx hb dX9_does_77 rfl (lv_at hl 0 rfl) ?_
      refine f_get X hH 0 rfl rfl 15 (by decide) inX9 fX9_48 rfl dX9_does_78 ?_
      refine lv_iconst (v := (1 : Int32)) hx hb dX9_does_81 (by decide) ?_
      obtain ⟨j10, ej10, hinj10, h⟩ := ga_x h
      refine a_il X hH 12 rfl hinj10 ej10 dX9_does_82 ?_
      obtain ⟨v3, ev3, h⟩ := ltt_x h
      refine lv_topi (fun y0 e0 => ?_)
      rw [← ev3] at e0
      subst y0
      obtain ⟨j11, ej11, hinj11, h⟩ := ga_x h
      obtain ⟨xs3, exs3, h⟩ := ltt_x h
      refine a_is X hH (ws1 := (wX9 g a i xs3)) 3 rfl hinj11 ej11 (by rw [exs3]; rfl) dX9_does_83 (fun H locs hH => ?_)
      refine lv_aload_n hx hb dX9_does_84 rfl (lv_at hl 0 rfl) ?_
      refine f_get X hH 0 rfl rfl 5 (by decide) inX9 fX9_23 rfl dX9_does_85 ?_
      refine lv_aload_n hx hb dX9_does_88 rfl (lv_at hl 0 rfl) ?_
      refine f_get X hH 0 rfl rfl 15 (by decide) inX9 fX9_48 rfl dX9_does_89 ?_
      refine lv_iconst (v := (0 : Int32)) hx hb dX9_does_92 (by decide) ?_
      obtain ⟨j12, ej12, hinj12, h⟩ := ga_x h
      refine a_il X hH 12 rfl hinj12 ej12 dX9_does_93 ?_
      refine lv_aload_n hx hb dX9_does_94 rfl (lv_at hl 0 rfl) ?_
      refine f_get X hH 0 rfl rfl 15 (by decide) inX9 fX9_48 rfl dX9_does_95 ?_
      refine lv_iconst (v := (2 : Int32)) hx hb dX9_does_98 (by decide) ?_
      obtain ⟨j13, ej13, hinj13, h⟩ := ga_x h
      refine a_il X hH 12 rfl hinj13 ej13 dX9_does_99 ?_
      obtain ⟨v4, ev4, h⟩ := ltt_x h
      refine lv_topi (fun y0 e0 => ?_)
      rw [← ev4] at e0
      subst y0
      obtain ⟨j14, ej14, hinj14, h⟩ := ga_x h
      obtain ⟨xs4, exs4, h⟩ := ltt_x h
      refine a_is X hH (ws1 := (wX9 g a i xs4)) 4 rfl hinj14 ej14 (by rw [exs4]; rfl) dX9_does_100 (fun H locs hH => ?_)
      refine lv_goto (tgt := 167) hx hb dX9_does_101 (by decide) ?_
      have h := Option.some.inj h
      subst h
      exact e_v X hH dX9_does_167
    · have h := ie_x h c2
      rcases Classical.em (pa = (2 : Int32)) with c3 | c3
      · have h := it_x h c3
        refine lv_tableIn (tgt := 104) hx hb dX9_does_1 (by rw [c3]; decide) (by rw [c3]; decide) (off := 103) (by rw [c3]; decide) (by decide) ?_
        refine lv_aload_n hx hb dX9_does_104 rfl (lv_at hl 0 rfl) ?_
        refine f_get X hH 0 rfl rfl 6 (by decide) inX9 fX9_26 rfl dX9_does_105 ?_
        refine lv_aload_n hx hb dX9_does_108 rfl (lv_at hl 0 rfl) ?_
        refine f_get X hH 0 rfl rfl 15 (by decide) inX9 fX9_48 rfl dX9_does_109 ?_
        refine lv_iconst (v := (0 : Int32)) hx hb dX9_does_112 (by decide) ?_
        obtain ⟨j6, ej6, hinj6, h⟩ := ga_x h
        refine a_il X hH 12 rfl hinj6 ej6 dX9_does_113 ?_
        refine lv_aload_n hx hb dX9_does_114 rfl (lv_at hl 0 rfl) ?_
        refine f_get X hH 0 rfl rfl 15 (by decide) inX9 fX9_48 rfl dX9_does_115 ?_
        refine lv_iconst (v := (1 : Int32)) hx hb dX9_does_118 (by decide) ?_
        obtain ⟨j7, ej7, hinj7, h⟩ := ga_x h
        refine a_il X hH 12 rfl hinj7 ej7 dX9_does_119 ?_
        obtain ⟨v2, ev2, h⟩ := ltt_x h
        refine lv_topi (fun y0 e0 => ?_)
        rw [← ev2] at e0
        subst y0
        obtain ⟨j8, ej8, hinj8, h⟩ := ga_x h
        obtain ⟨xs2, exs2, h⟩ := ltt_x h
        refine a_is X hH (ws1 := (wX9 g a i xs2)) 5 rfl hinj8 ej8 (by rw [exs2]; rfl) dX9_does_120 (fun H locs hH => ?_)
        refine lv_goto (tgt := 167) hx hb dX9_does_121 (by decide) ?_
        have h := Option.some.inj h
        subst h
        exact e_v X hH dX9_does_167
      · have h := ie_x h c3
        rcases Classical.em (pa = (3 : Int32)) with c4 | c4
        · have h := it_x h c4
          refine lv_tableIn (tgt := 124) hx hb dX9_does_1 (by rw [c4]; decide) (by rw [c4]; decide) (off := 123) (by rw [c4]; decide) (by decide) ?_
          refine lv_aload_n hx hb dX9_does_124 rfl (lv_at hl 0 rfl) ?_
          refine f_get X hH 0 rfl rfl 7 (by decide) inX9 fX9_29 rfl dX9_does_125 ?_
          refine lv_aload_n hx hb dX9_does_128 rfl (lv_at hl 0 rfl) ?_
          refine f_get X hH 0 rfl rfl 15 (by decide) inX9 fX9_48 rfl dX9_does_129 ?_
          refine lv_iconst (v := (0 : Int32)) hx hb dX9_does_132 (by decide) ?_
          obtain ⟨j3, ej3, hinj3, h⟩ := ga_x h
          refine a_il X hH 12 rfl hinj3 ej3 dX9_does_133 ?_
          refine lv_aload_n hx hb dX9_does_134 rfl (lv_at hl 0 rfl) ?_
          refine f_get X hH 0 rfl rfl 15 (by decide) inX9 fX9_48 rfl dX9_does_135 ?_
          refine lv_iconst (v := (1 : Int32)) hx hb dX9_does_138 (by decide) ?_
          obtain ⟨j4, ej4, hinj4, h⟩ := ga_x h
          refine a_il X hH 12 rfl hinj4 ej4 dX9_does_139 ?_
          obtain ⟨v1, ev1, h⟩ := ltt_x h
          refine lv_topi (fun y0 e0 => ?_)
          rw [← ev1] at e0
          subst y0
          obtain ⟨j5, ej5, hinj5, h⟩ := ga_x h
          obtain ⟨xs1, exs1, h⟩ := ltt_x h
          refine a_is X hH (ws1 := (wX9 g a i xs1)) 6 rfl hinj5 ej5 (by rw [exs1]; rfl) dX9_does_140 (fun H locs hH => ?_)
          refine lv_goto (tgt := 167) hx hb dX9_does_141 (by decide) ?_
          have h := Option.some.inj h
          subst h
          exact e_v X hH dX9_does_167
        · have h := ie_x h c4
          rcases Classical.em (pa = (4 : Int32)) with c5 | c5
          · have h := it_x h c5
            refine lv_tableIn (tgt := 144) hx hb dX9_does_1 (by rw [c5]; decide) (by rw [c5]; decide) (off := 143) (by rw [c5]; decide) (by decide) ?_
            refine lv_aload_n hx hb dX9_does_144 rfl (lv_at hl 0 rfl) ?_
            refine lv_aload_n hx hb dX9_does_145 rfl (lv_at hl 0 rfl) ?_
            refine f_get X hH 0 rfl rfl 15 (by decide) inX9 fX9_48 rfl dX9_does_146 ?_
            refine lv_iconst (v := (0 : Int32)) hx hb dX9_does_149 (by decide) ?_
            obtain ⟨j2, ej2, hinj2, h⟩ := ga_x h
            refine a_il X hH 12 rfl hinj2 ej2 dX9_does_150 ?_
            obtain ⟨o2, ho2, h⟩ := bd_x h
            refine r_V X hH (ws1 := (wX9 g a i o2)) (As := [.int ((m_told xs) j2)]) (rest := []) (st1 := []) (uX9_loses (a := a) (i := i) ho2) kX9_loses mX9_137 iX9_loses vX9_loses zX9 okX9_loses ⟨Nat.le_of_ble_eq_true rfl, Nat.le_of_ble_eq_true rfl⟩ rfl rfl (q0 := 0) rfl rfl (pm_all _) (pm_all _) rfl hl.1 rfl (Nat.le_of_ble_eq_true rfl) ⟨Nat.le_refl 0, Nat.le_refl 0⟩ rfl dX9_does_151 (fun H locs hH => ?_)
            refine lv_goto (tgt := 167) hx hb dX9_does_154 (by decide) ?_
            have h := Option.some.inj h
            subst h
            exact e_v X hH dX9_does_167
          · have h := ie_x h c5
            refine lv_tableOut (tgt := 157) hx hb dX9_does_1 (tsw_0_4 (c1) (c2) (c3) (c4) (c5)) (by decide) ?_
            refine lv_aload_n hx hb dX9_does_157 rfl (lv_at hl 0 rfl) ?_
            refine lv_aload_n hx hb dX9_does_158 rfl (lv_at hl 0 rfl) ?_
            refine f_get X hH 0 rfl rfl 15 (by decide) inX9 fX9_48 rfl dX9_does_159 ?_
            refine lv_iconst (v := (0 : Int32)) hx hb dX9_does_162 (by decide) ?_
            obtain ⟨j1, ej1, hinj1, h⟩ := ga_x h
            refine a_il X hH 12 rfl hinj1 ej1 dX9_does_163 ?_
            obtain ⟨o1, ho1, h⟩ := bd_x h
            refine r_V X hH (ws1 := (wX9 g a i o1)) (As := [.int ((m_told xs) j1)]) (rest := []) (st1 := []) (uX9_becomes (a := a) (i := i) ho1) kX9_becomes mX9_153 iX9_becomes vX9_becomes zX9 okX9_becomes ⟨Nat.le_of_ble_eq_true rfl, Nat.le_of_ble_eq_true rfl⟩ rfl rfl (q0 := 0) rfl rfl (pm_all _) (pm_all _) rfl hl.1 rfl (Nat.le_of_ble_eq_true rfl) ⟨Nat.le_refl 0, Nat.le_refl 0⟩ rfl dX9_does_164 (fun H locs hH => ?_)
            have h := Option.some.inj h
            subst h
            exact e_v X hH dX9_does_167

def qX9_keeps_16 (xs : SX9)  : Nat → (Nat → Int32) → Int32 → Option ((Nat → Int32))
  | 0, _, _ => none
  | fu + 1, xt, l2 =>
  (if (10 : Int32) ≤ l2 then
  some xt
  else
  ga 11 l2 fun j3 =>
  ltt (((m_first xs) j3)) fun v3 =>
  ga 6 ((2 : Int32) + ((6 : Int32) * l2)) fun j4 =>
  ltt ((upd xt j4 v3)) fun xt3 =>
  ga 11 l2 fun j5 =>
  ltt (((m_second xs) j5)) fun v4 =>
  ga 6 ((3 : Int32) + ((6 : Int32) * l2)) fun j6 =>
  ltt ((upd xt3 j6 v4)) fun xt4 =>
  ga 11 l2 fun j7 =>
  ltt (((m_kind xs) j7)) fun v5 =>
  ga 6 ((4 : Int32) + ((6 : Int32) * l2)) fun j8 =>
  ltt ((upd xt4 j8 v5)) fun xt5 =>
  ga 11 l2 fun j9 =>
  ltt (((m_figure xs) j9)) fun v6 =>
  ga 6 ((5 : Int32) + ((6 : Int32) * l2)) fun j10 =>
  ltt ((upd xt5 j10 v6)) fun xt6 =>
  ga 11 l2 fun j11 =>
  ltt (((m_load xs) j11)) fun v7 =>
  ga 6 ((6 : Int32) + ((6 : Int32) * l2)) fun j12 =>
  ltt ((upd xt6 j12 v7)) fun xt7 =>
  ga 11 l2 fun j13 =>
  ltt (((m_length xs) j13)) fun v8 =>
  ga 6 ((7 : Int32) + ((6 : Int32) * l2)) fun j14 =>
  ltt ((upd xt7 j14 v8)) fun xt8 =>
  ltt (l2 + (1 : Int32)) fun v9 =>
  qX9_keeps_16 xs  fu xt8 v9)
def fX9_keeps (xs : SX9) (xt : Nat → Int32) : Option ((Nat → Int32)) :=
  ltt ((m_points xs)) fun v1 =>
  ga 6 (0 : Int32) fun j1 =>
  ltt ((upd xt j1 v1)) fun xt1 =>
  ltt ((m_many xs)) fun v2 =>
  ga 6 (1 : Int32) fun j2 =>
  ltt ((upd xt1 j2 v2)) fun xt2 =>
  qX9_keeps_16 xs FU xt2 (0 : Int32)
set_option maxHeartbeats 4000000 in
set_option maxRecDepth 100000 in
theorem pX9_keeps_16 {p : Program} {l : Launch} {e : Env} {s : State} {m : MethodId} {args : Array Value} {below : List Frame} {meth : Method} {c : Code} {g : GG} {w0 : va_W} {a : Nat → Nat} {i : Nat} {b : Nat → Nat} {xs : SX9} {o : ((Nat → Int32))} (X : mX g yX9_keeps cX9_keeps 3 none p s m args meth c w0) :
  ∀ (fu : Nat) (xt : Nat → Int32) (l2 : Int32) (H : Heap) (locs : List Loc) (ls : Array Slot), qX9_keeps_16 xs fu xt l2 = some o → mH g s w0 ((wX9 g a i xs) ++ [(b 0, .inl (g.2.1 0, 6, .inl (xt)))]) H locs → lv_has ls 3 [(0, .ref (a i)), (1, .ref (b 0)), (2, .int l2)] → W p l e (rM 0 0) s m args below meth c H locs 0 0 (mZ g below args s w0 ((wX9 g a i xs) ++ [(b 0, .inl (g.2.1 0, 6, .inl (o)))]) none) (F0 m 16 ls []) := by
  have hx := X.1
  have hb := X.2.1
  intro fu
  induction fu with
  | zero =>
    intro xt l2 H locs ls h
    unfold qX9_keeps_16 at h
    cases h
  | succ fu ih =>
    intro xt l2 H locs ls h hH hl
    unfold qX9_keeps_16 at h
    refine lv_iload_n hx hb dX9_keeps_16 rfl (lv_at hl 2 rfl) ?_
    refine lv_bipush (v := (10 : Int32)) hx hb dX9_keeps_17 (by decide) ?_
    refine lv_icmp_ge (tgt := 114) hx hb dX9_keeps_19 (by decide) (fun c1 => ?_) (fun c1 => ?_)
    · have h := it_x h c1
      have h := Option.some.inj h
      subst h
      exact e_v X hH dX9_keeps_114
    · have h := ie_x h c1
      refine lv_aload_n hx hb dX9_keeps_22 rfl (lv_at hl 1 rfl) ?_
      refine lv_iconst (v := (2 : Int32)) hx hb dX9_keeps_23 (by decide) ?_
      refine lv_bipush (v := (6 : Int32)) hx hb dX9_keeps_24 (by decide) ?_
      refine lv_iload_n hx hb dX9_keeps_26 rfl (lv_at hl 2 rfl) ?_
      refine lv_imul hx hb dX9_keeps_27 ?_
      refine lv_iadd hx hb dX9_keeps_28 ?_
      refine lv_aload_n hx hb dX9_keeps_29 rfl (lv_at hl 0 rfl) ?_
      refine f_get X hH 0 rfl rfl 2 (by decide) inX9 fX9_13 rfl dX9_keeps_30 ?_
      refine lv_iload_n hx hb dX9_keeps_33 rfl (lv_at hl 2 rfl) ?_
      obtain ⟨j3, ej3, hinj3, h⟩ := ga_x h
      refine a_il X hH 1 rfl hinj3 ej3 dX9_keeps_34 ?_
      obtain ⟨v3, ev3, h⟩ := ltt_x h
      refine lv_topi (fun y0 e0 => ?_)
      rw [← ev3] at e0
      subst y0
      obtain ⟨j4, ej4, hinj4, h⟩ := ga_x h
      obtain ⟨xt3, ext3, h⟩ := ltt_x h
      refine a_is X hH (ws1 := ((wX9 g a i xs) ++ [(b 0, .inl (g.2.1 0, 6, .inl (xt3)))])) 34 rfl hinj4 ej4 (by rw [ext3]; rfl) dX9_keeps_35 (fun H locs hH => ?_)
      refine lv_aload_n hx hb dX9_keeps_36 rfl (lv_at hl 1 rfl) ?_
      refine lv_iconst (v := (3 : Int32)) hx hb dX9_keeps_37 (by decide) ?_
      refine lv_bipush (v := (6 : Int32)) hx hb dX9_keeps_38 (by decide) ?_
      refine lv_iload_n hx hb dX9_keeps_40 rfl (lv_at hl 2 rfl) ?_
      refine lv_imul hx hb dX9_keeps_41 ?_
      refine lv_iadd hx hb dX9_keeps_42 ?_
      refine lv_aload_n hx hb dX9_keeps_43 rfl (lv_at hl 0 rfl) ?_
      refine f_get X hH 0 rfl rfl 3 (by decide) inX9 fX9_17 rfl dX9_keeps_44 ?_
      refine lv_iload_n hx hb dX9_keeps_47 rfl (lv_at hl 2 rfl) ?_
      obtain ⟨j5, ej5, hinj5, h⟩ := ga_x h
      refine a_il X hH 2 rfl hinj5 ej5 dX9_keeps_48 ?_
      obtain ⟨v4, ev4, h⟩ := ltt_x h
      refine lv_topi (fun y0 e0 => ?_)
      rw [← ev4] at e0
      subst y0
      obtain ⟨j6, ej6, hinj6, h⟩ := ga_x h
      obtain ⟨xt4, ext4, h⟩ := ltt_x h
      refine a_is X hH (ws1 := ((wX9 g a i xs) ++ [(b 0, .inl (g.2.1 0, 6, .inl (xt4)))])) 34 rfl hinj6 ej6 (by rw [ext4]; rfl) dX9_keeps_49 (fun H locs hH => ?_)
      refine lv_aload_n hx hb dX9_keeps_50 rfl (lv_at hl 1 rfl) ?_
      refine lv_iconst (v := (4 : Int32)) hx hb dX9_keeps_51 (by decide) ?_
      refine lv_bipush (v := (6 : Int32)) hx hb dX9_keeps_52 (by decide) ?_
      refine lv_iload_n hx hb dX9_keeps_54 rfl (lv_at hl 2 rfl) ?_
      refine lv_imul hx hb dX9_keeps_55 ?_
      refine lv_iadd hx hb dX9_keeps_56 ?_
      refine lv_aload_n hx hb dX9_keeps_57 rfl (lv_at hl 0 rfl) ?_
      refine f_get X hH 0 rfl rfl 4 (by decide) inX9 fX9_20 rfl dX9_keeps_58 ?_
      refine lv_iload_n hx hb dX9_keeps_61 rfl (lv_at hl 2 rfl) ?_
      obtain ⟨j7, ej7, hinj7, h⟩ := ga_x h
      refine a_il X hH 3 rfl hinj7 ej7 dX9_keeps_62 ?_
      obtain ⟨v5, ev5, h⟩ := ltt_x h
      refine lv_topi (fun y0 e0 => ?_)
      rw [← ev5] at e0
      subst y0
      obtain ⟨j8, ej8, hinj8, h⟩ := ga_x h
      obtain ⟨xt5, ext5, h⟩ := ltt_x h
      refine a_is X hH (ws1 := ((wX9 g a i xs) ++ [(b 0, .inl (g.2.1 0, 6, .inl (xt5)))])) 34 rfl hinj8 ej8 (by rw [ext5]; rfl) dX9_keeps_63 (fun H locs hH => ?_)
      refine lv_aload_n hx hb dX9_keeps_64 rfl (lv_at hl 1 rfl) ?_
      refine lv_iconst (v := (5 : Int32)) hx hb dX9_keeps_65 (by decide) ?_
      refine lv_bipush (v := (6 : Int32)) hx hb dX9_keeps_66 (by decide) ?_
      refine lv_iload_n hx hb dX9_keeps_68 rfl (lv_at hl 2 rfl) ?_
      refine lv_imul hx hb dX9_keeps_69 ?_
      refine lv_iadd hx hb dX9_keeps_70 ?_
      refine lv_aload_n hx hb dX9_keeps_71 rfl (lv_at hl 0 rfl) ?_
      refine f_get X hH 0 rfl rfl 5 (by decide) inX9 fX9_23 rfl dX9_keeps_72 ?_
      refine lv_iload_n hx hb dX9_keeps_75 rfl (lv_at hl 2 rfl) ?_
      obtain ⟨j9, ej9, hinj9, h⟩ := ga_x h
      refine a_il X hH 4 rfl hinj9 ej9 dX9_keeps_76 ?_
      obtain ⟨v6, ev6, h⟩ := ltt_x h
      refine lv_topi (fun y0 e0 => ?_)
      rw [← ev6] at e0
      subst y0
      obtain ⟨j10, ej10, hinj10, h⟩ := ga_x h
      obtain ⟨xt6, ext6, h⟩ := ltt_x h
      refine a_is X hH (ws1 := ((wX9 g a i xs) ++ [(b 0, .inl (g.2.1 0, 6, .inl (xt6)))])) 34 rfl hinj10 ej10 (by rw [ext6]; rfl) dX9_keeps_77 (fun H locs hH => ?_)
      refine lv_aload_n hx hb dX9_keeps_78 rfl (lv_at hl 1 rfl) ?_
      refine lv_bipush (v := (6 : Int32)) hx hb dX9_keeps_79 (by decide) ?_
      refine lv_bipush (v := (6 : Int32)) hx hb dX9_keeps_81 (by decide) ?_
      refine lv_iload_n hx hb dX9_keeps_83 rfl (lv_at hl 2 rfl) ?_
      refine lv_imul hx hb dX9_keeps_84 ?_
      refine lv_iadd hx hb dX9_keeps_85 ?_
      refine lv_aload_n hx hb dX9_keeps_86 rfl (lv_at hl 0 rfl) ?_
      refine f_get X hH 0 rfl rfl 6 (by decide) inX9 fX9_26 rfl dX9_keeps_87 ?_
      refine lv_iload_n hx hb dX9_keeps_90 rfl (lv_at hl 2 rfl) ?_
      obtain ⟨j11, ej11, hinj11, h⟩ := ga_x h
      refine a_il X hH 5 rfl hinj11 ej11 dX9_keeps_91 ?_
      obtain ⟨v7, ev7, h⟩ := ltt_x h
      refine lv_topi (fun y0 e0 => ?_)
      rw [← ev7] at e0
      subst y0
      obtain ⟨j12, ej12, hinj12, h⟩ := ga_x h
      obtain ⟨xt7, ext7, h⟩ := ltt_x h
      refine a_is X hH (ws1 := ((wX9 g a i xs) ++ [(b 0, .inl (g.2.1 0, 6, .inl (xt7)))])) 34 rfl hinj12 ej12 (by rw [ext7]; rfl) dX9_keeps_92 (fun H locs hH => ?_)
      refine lv_aload_n hx hb dX9_keeps_93 rfl (lv_at hl 1 rfl) ?_
      refine lv_bipush (v := (7 : Int32)) hx hb dX9_keeps_94 (by decide) ?_
      refine lv_bipush (v := (6 : Int32)) hx hb dX9_keeps_96 (by decide) ?_
      refine lv_iload_n hx hb dX9_keeps_98 rfl (lv_at hl 2 rfl) ?_
      refine lv_imul hx hb dX9_keeps_99 ?_
      refine lv_iadd hx hb dX9_keeps_100 ?_
      refine lv_aload_n hx hb dX9_keeps_101 rfl (lv_at hl 0 rfl) ?_
      refine f_get X hH 0 rfl rfl 7 (by decide) inX9 fX9_29 rfl dX9_keeps_102 ?_
      refine lv_iload_n hx hb dX9_keeps_105 rfl (lv_at hl 2 rfl) ?_
      obtain ⟨j13, ej13, hinj13, h⟩ := ga_x h
      refine a_il X hH 6 rfl hinj13 ej13 dX9_keeps_106 ?_
      obtain ⟨v8, ev8, h⟩ := ltt_x h
      refine lv_topi (fun y0 e0 => ?_)
      rw [← ev8] at e0
      subst y0
      obtain ⟨j14, ej14, hinj14, h⟩ := ga_x h
      obtain ⟨xt8, ext8, h⟩ := ltt_x h
      refine a_is X hH (ws1 := ((wX9 g a i xs) ++ [(b 0, .inl (g.2.1 0, 6, .inl (xt8)))])) 34 rfl hinj14 ej14 (by rw [ext8]; rfl) dX9_keeps_107 (fun H locs hH => ?_)
      obtain ⟨v9, ev9, h⟩ := ltt_x h
      refine s_inc X (k := 2) (lv' := [(2, .int v9), (0, .ref (a i)), (1, .ref (b 0))]) hl rfl (by rw [ev9]; rfl) dX9_keeps_108 (by decide) rfl (fun ls hl => ?_)
      refine lv_goto (tgt := 16) hx hb dX9_keeps_111 (by decide) ?_
      exact ih xt8 v9 H locs ls h hH (lv_sub hl [1, 2, 0] rfl)
set_option maxHeartbeats 4000000 in
set_option maxRecDepth 100000 in
theorem uX9_keeps {l : Launch} {g : GG} {a : Nat → Nat} {i : Nat} {b : Nat → Nat} {xs : SX9} {xt : Nat → Int32} {o : ((Nat → Int32))} (h : fX9_keeps xs xt = some o) : mC l g yX9_keeps cX9_keeps 3 none (rM 0 0) [.ref (a i), .ref (b 0)] ((wX9 g a i xs) ++ [(b 0, .inl (g.2.1 0, 6, .inl (xt)))]) ((wX9 g a i xs) ++ [(b 0, .inl (g.2.1 0, 6, .inl (o)))]) none := by
  refine mC.ofW (by decide) (fun p e s m below meth c X hH ls _ hl => ?_) (Nat.le_of_ble_eq_true rfl)
  have hx := X.1
  have hb := X.2.1
  have hl : lv_has ls 3 [(0, .ref (a i)), (1, .ref (b 0))] := hl
  unfold fX9_keeps at h
  suffices HH : ∀ (H : Heap) (locs : List Loc), mH g s ((wX9 g a i xs) ++ [(b 0, .inl (g.2.1 0, 6, .inl (xt)))]) ((wX9 g a i xs) ++ [(b 0, .inl (g.2.1 0, 6, .inl (xt)))]) H locs → W p l e (rM 0 0) s m _ below meth c H locs 0 0 (mZ g below _ s ((wX9 g a i xs) ++ [(b 0, .inl (g.2.1 0, 6, .inl (xt)))]) ((wX9 g a i xs) ++ [(b 0, .inl (g.2.1 0, 6, .inl (o)))]) none) (F0 m 0 ls []) from HH _ _ hH
  clear hH
  intro H locs hH
  refine lv_aload_n hx hb dX9_keeps_0 rfl (lv_at hl 1 rfl) ?_
  refine lv_iconst (v := (0 : Int32)) hx hb dX9_keeps_1 (by decide) ?_
  refine lv_aload_n hx hb dX9_keeps_2 rfl (lv_at hl 0 rfl) ?_
  refine f_get X hH 0 rfl rfl 0 (by decide) inX9 fX9_7 rfl dX9_keeps_3 ?_
  obtain ⟨v1, ev1, h⟩ := ltt_x h
  refine lv_topi (fun y0 e0 => ?_)
  rw [← ev1] at e0
  subst y0
  obtain ⟨j1, ej1, hinj1, h⟩ := ga_x h
  obtain ⟨xt1, ext1, h⟩ := ltt_x h
  refine a_is X hH (ws1 := ((wX9 g a i xs) ++ [(b 0, .inl (g.2.1 0, 6, .inl (xt1)))])) 34 rfl hinj1 ej1 (by rw [ext1]; rfl) dX9_keeps_6 (fun H locs hH => ?_)
  refine lv_aload_n hx hb dX9_keeps_7 rfl (lv_at hl 1 rfl) ?_
  refine lv_iconst (v := (1 : Int32)) hx hb dX9_keeps_8 (by decide) ?_
  refine lv_aload_n hx hb dX9_keeps_9 rfl (lv_at hl 0 rfl) ?_
  refine f_get X hH 0 rfl rfl 1 (by decide) inX9 fX9_120 rfl dX9_keeps_10 ?_
  obtain ⟨v2, ev2, h⟩ := ltt_x h
  refine lv_topi (fun y0 e0 => ?_)
  rw [← ev2] at e0
  subst y0
  obtain ⟨j2, ej2, hinj2, h⟩ := ga_x h
  obtain ⟨xt2, ext2, h⟩ := ltt_x h
  refine a_is X hH (ws1 := ((wX9 g a i xs) ++ [(b 0, .inl (g.2.1 0, 6, .inl (xt2)))])) 34 rfl hinj2 ej2 (by rw [ext2]; rfl) dX9_keeps_13 (fun H locs hH => ?_)
  refine lv_iconst (v := (0 : Int32)) hx hb dX9_keeps_14 (by decide) ?_
  refine s_in X (lv' := [(2, .int (0 : Int32)), (0, .ref (a i)), (1, .ref (b 0))]) hl rfl dX9_keeps_15 rfl (by decide) rfl (fun ls hl => ?_)
  exact pX9_keeps_16 X FU xt2 (0 : Int32) H locs ls h hH (lv_sub hl [1, 2, 0] rfl)

def qX9_brings_16 (xt : Nat → Int32)  : Nat → SX9 → Int32 → Option SX9
  | 0, _, _ => none
  | fu + 1, xs, l2 =>
  (if (10 : Int32) ≤ l2 then
  some xs
  else
  ga 6 ((2 : Int32) + ((6 : Int32) * l2)) fun j3 =>
  ltt ((xt j3)) fun v3 =>
  ga 11 l2 fun j4 =>
  ltt ((m_first_s xs (upd (m_first xs) j4 v3))) fun xs3 =>
  ga 6 ((3 : Int32) + ((6 : Int32) * l2)) fun j5 =>
  ltt ((xt j5)) fun v4 =>
  ga 11 l2 fun j6 =>
  ltt ((m_second_s xs3 (upd (m_second xs3) j6 v4))) fun xs4 =>
  ga 6 ((4 : Int32) + ((6 : Int32) * l2)) fun j7 =>
  ltt ((xt j7)) fun v5 =>
  ga 11 l2 fun j8 =>
  ltt ((m_kind_s xs4 (upd (m_kind xs4) j8 v5))) fun xs5 =>
  ga 6 ((5 : Int32) + ((6 : Int32) * l2)) fun j9 =>
  ltt ((xt j9)) fun v6 =>
  ga 11 l2 fun j10 =>
  ltt ((m_figure_s xs5 (upd (m_figure xs5) j10 v6))) fun xs6 =>
  ga 6 ((6 : Int32) + ((6 : Int32) * l2)) fun j11 =>
  ltt ((xt j11)) fun v7 =>
  ga 11 l2 fun j12 =>
  ltt ((m_load_s xs6 (upd (m_load xs6) j12 v7))) fun xs7 =>
  ga 6 ((7 : Int32) + ((6 : Int32) * l2)) fun j13 =>
  ltt ((xt j13)) fun v8 =>
  ga 11 l2 fun j14 =>
  ltt ((m_length_s xs7 (upd (m_length xs7) j14 v8))) fun xs8 =>
  ltt (l2 + (1 : Int32)) fun v9 =>
  qX9_brings_16 xt  fu xs8 v9)
def fX9_brings (xs : SX9) (xt : Nat → Int32) : Option SX9 :=
  ga 6 (0 : Int32) fun j1 =>
  ltt ((xt j1)) fun v1 =>
  ltt ((m_points_s xs v1)) fun xs1 =>
  ga 6 (1 : Int32) fun j2 =>
  ltt ((xt j2)) fun v2 =>
  ltt ((m_many_s xs1 v2)) fun xs2 =>
  qX9_brings_16 xt FU xs2 (0 : Int32)
set_option maxHeartbeats 4000000 in
set_option maxRecDepth 100000 in
theorem pX9_brings_16 {p : Program} {l : Launch} {e : Env} {s : State} {m : MethodId} {args : Array Value} {below : List Frame} {meth : Method} {c : Code} {g : GG} {w0 : va_W} {a : Nat → Nat} {i : Nat} {b : Nat → Nat} {xt : Nat → Int32} {o : SX9} (X : mX g yX9_brings cX9_brings 3 none p s m args meth c w0) :
  ∀ (fu : Nat) (xs : SX9) (l2 : Int32) (H : Heap) (locs : List Loc) (ls : Array Slot), qX9_brings_16 xt fu xs l2 = some o → mH g s w0 ((wX9 g a i xs) ++ [(b 0, .inl (g.2.1 0, 6, .inl (xt)))]) H locs → lv_has ls 3 [(0, .ref (a i)), (1, .ref (b 0)), (2, .int l2)] → W p l e (rM 0 0) s m args below meth c H locs 0 0 (mZ g below args s w0 ((wX9 g a i o) ++ [(b 0, .inl (g.2.1 0, 6, .inl (xt)))]) none) (F0 m 16 ls []) := by
  have hx := X.1
  have hb := X.2.1
  intro fu
  induction fu with
  | zero =>
    intro xs l2 H locs ls h
    unfold qX9_brings_16 at h
    cases h
  | succ fu ih =>
    intro xs l2 H locs ls h hH hl
    unfold qX9_brings_16 at h
    refine lv_iload_n hx hb dX9_brings_16 rfl (lv_at hl 2 rfl) ?_
    refine lv_bipush (v := (10 : Int32)) hx hb dX9_brings_17 (by decide) ?_
    refine lv_icmp_ge (tgt := 114) hx hb dX9_brings_19 (by decide) (fun c1 => ?_) (fun c1 => ?_)
    · have h := it_x h c1
      have h := Option.some.inj h
      subst h
      exact e_v X hH dX9_brings_114
    · have h := ie_x h c1
      refine lv_aload_n hx hb dX9_brings_22 rfl (lv_at hl 0 rfl) ?_
      refine f_get X hH 0 rfl rfl 2 (by decide) inX9 fX9_13 rfl dX9_brings_23 ?_
      refine lv_iload_n hx hb dX9_brings_26 rfl (lv_at hl 2 rfl) ?_
      refine lv_aload_n hx hb dX9_brings_27 rfl (lv_at hl 1 rfl) ?_
      refine lv_iconst (v := (2 : Int32)) hx hb dX9_brings_28 (by decide) ?_
      refine lv_bipush (v := (6 : Int32)) hx hb dX9_brings_29 (by decide) ?_
      refine lv_iload_n hx hb dX9_brings_31 rfl (lv_at hl 2 rfl) ?_
      refine lv_imul hx hb dX9_brings_32 ?_
      refine lv_iadd hx hb dX9_brings_33 ?_
      obtain ⟨j3, ej3, hinj3, h⟩ := ga_x h
      refine a_il X hH 34 rfl hinj3 ej3 dX9_brings_34 ?_
      obtain ⟨v3, ev3, h⟩ := ltt_x h
      refine lv_topi (fun y0 e0 => ?_)
      rw [← ev3] at e0
      subst y0
      obtain ⟨j4, ej4, hinj4, h⟩ := ga_x h
      obtain ⟨xs3, exs3, h⟩ := ltt_x h
      refine a_is X hH (ws1 := ((wX9 g a i xs3) ++ [(b 0, .inl (g.2.1 0, 6, .inl (xt)))])) 1 rfl hinj4 ej4 (by rw [exs3]; rfl) dX9_brings_35 (fun H locs hH => ?_)
      refine lv_aload_n hx hb dX9_brings_36 rfl (lv_at hl 0 rfl) ?_
      refine f_get X hH 0 rfl rfl 3 (by decide) inX9 fX9_17 rfl dX9_brings_37 ?_
      refine lv_iload_n hx hb dX9_brings_40 rfl (lv_at hl 2 rfl) ?_
      refine lv_aload_n hx hb dX9_brings_41 rfl (lv_at hl 1 rfl) ?_
      refine lv_iconst (v := (3 : Int32)) hx hb dX9_brings_42 (by decide) ?_
      refine lv_bipush (v := (6 : Int32)) hx hb dX9_brings_43 (by decide) ?_
      refine lv_iload_n hx hb dX9_brings_45 rfl (lv_at hl 2 rfl) ?_
      refine lv_imul hx hb dX9_brings_46 ?_
      refine lv_iadd hx hb dX9_brings_47 ?_
      obtain ⟨j5, ej5, hinj5, h⟩ := ga_x h
      refine a_il X hH 34 rfl hinj5 ej5 dX9_brings_48 ?_
      obtain ⟨v4, ev4, h⟩ := ltt_x h
      refine lv_topi (fun y0 e0 => ?_)
      rw [← ev4] at e0
      subst y0
      obtain ⟨j6, ej6, hinj6, h⟩ := ga_x h
      obtain ⟨xs4, exs4, h⟩ := ltt_x h
      refine a_is X hH (ws1 := ((wX9 g a i xs4) ++ [(b 0, .inl (g.2.1 0, 6, .inl (xt)))])) 2 rfl hinj6 ej6 (by rw [exs4]; rfl) dX9_brings_49 (fun H locs hH => ?_)
      refine lv_aload_n hx hb dX9_brings_50 rfl (lv_at hl 0 rfl) ?_
      refine f_get X hH 0 rfl rfl 4 (by decide) inX9 fX9_20 rfl dX9_brings_51 ?_
      refine lv_iload_n hx hb dX9_brings_54 rfl (lv_at hl 2 rfl) ?_
      refine lv_aload_n hx hb dX9_brings_55 rfl (lv_at hl 1 rfl) ?_
      refine lv_iconst (v := (4 : Int32)) hx hb dX9_brings_56 (by decide) ?_
      refine lv_bipush (v := (6 : Int32)) hx hb dX9_brings_57 (by decide) ?_
      refine lv_iload_n hx hb dX9_brings_59 rfl (lv_at hl 2 rfl) ?_
      refine lv_imul hx hb dX9_brings_60 ?_
      refine lv_iadd hx hb dX9_brings_61 ?_
      obtain ⟨j7, ej7, hinj7, h⟩ := ga_x h
      refine a_il X hH 34 rfl hinj7 ej7 dX9_brings_62 ?_
      obtain ⟨v5, ev5, h⟩ := ltt_x h
      refine lv_topi (fun y0 e0 => ?_)
      rw [← ev5] at e0
      subst y0
      obtain ⟨j8, ej8, hinj8, h⟩ := ga_x h
      obtain ⟨xs5, exs5, h⟩ := ltt_x h
      refine a_is X hH (ws1 := ((wX9 g a i xs5) ++ [(b 0, .inl (g.2.1 0, 6, .inl (xt)))])) 3 rfl hinj8 ej8 (by rw [exs5]; rfl) dX9_brings_63 (fun H locs hH => ?_)
      refine lv_aload_n hx hb dX9_brings_64 rfl (lv_at hl 0 rfl) ?_
      refine f_get X hH 0 rfl rfl 5 (by decide) inX9 fX9_23 rfl dX9_brings_65 ?_
      refine lv_iload_n hx hb dX9_brings_68 rfl (lv_at hl 2 rfl) ?_
      refine lv_aload_n hx hb dX9_brings_69 rfl (lv_at hl 1 rfl) ?_
      refine lv_iconst (v := (5 : Int32)) hx hb dX9_brings_70 (by decide) ?_
      refine lv_bipush (v := (6 : Int32)) hx hb dX9_brings_71 (by decide) ?_
      refine lv_iload_n hx hb dX9_brings_73 rfl (lv_at hl 2 rfl) ?_
      refine lv_imul hx hb dX9_brings_74 ?_
      refine lv_iadd hx hb dX9_brings_75 ?_
      obtain ⟨j9, ej9, hinj9, h⟩ := ga_x h
      refine a_il X hH 34 rfl hinj9 ej9 dX9_brings_76 ?_
      obtain ⟨v6, ev6, h⟩ := ltt_x h
      refine lv_topi (fun y0 e0 => ?_)
      rw [← ev6] at e0
      subst y0
      obtain ⟨j10, ej10, hinj10, h⟩ := ga_x h
      obtain ⟨xs6, exs6, h⟩ := ltt_x h
      refine a_is X hH (ws1 := ((wX9 g a i xs6) ++ [(b 0, .inl (g.2.1 0, 6, .inl (xt)))])) 4 rfl hinj10 ej10 (by rw [exs6]; rfl) dX9_brings_77 (fun H locs hH => ?_)
      refine lv_aload_n hx hb dX9_brings_78 rfl (lv_at hl 0 rfl) ?_
      refine f_get X hH 0 rfl rfl 6 (by decide) inX9 fX9_26 rfl dX9_brings_79 ?_
      refine lv_iload_n hx hb dX9_brings_82 rfl (lv_at hl 2 rfl) ?_
      refine lv_aload_n hx hb dX9_brings_83 rfl (lv_at hl 1 rfl) ?_
      refine lv_bipush (v := (6 : Int32)) hx hb dX9_brings_84 (by decide) ?_
      refine lv_bipush (v := (6 : Int32)) hx hb dX9_brings_86 (by decide) ?_
      refine lv_iload_n hx hb dX9_brings_88 rfl (lv_at hl 2 rfl) ?_
      refine lv_imul hx hb dX9_brings_89 ?_
      refine lv_iadd hx hb dX9_brings_90 ?_
      obtain ⟨j11, ej11, hinj11, h⟩ := ga_x h
      refine a_il X hH 34 rfl hinj11 ej11 dX9_brings_91 ?_
      obtain ⟨v7, ev7, h⟩ := ltt_x h
      refine lv_topi (fun y0 e0 => ?_)
      rw [← ev7] at e0
      subst y0
      obtain ⟨j12, ej12, hinj12, h⟩ := ga_x h
      obtain ⟨xs7, exs7, h⟩ := ltt_x h
      refine a_is X hH (ws1 := ((wX9 g a i xs7) ++ [(b 0, .inl (g.2.1 0, 6, .inl (xt)))])) 5 rfl hinj12 ej12 (by rw [exs7]; rfl) dX9_brings_92 (fun H locs hH => ?_)
      refine lv_aload_n hx hb dX9_brings_93 rfl (lv_at hl 0 rfl) ?_
      refine f_get X hH 0 rfl rfl 7 (by decide) inX9 fX9_29 rfl dX9_brings_94 ?_
      refine lv_iload_n hx hb dX9_brings_97 rfl (lv_at hl 2 rfl) ?_
      refine lv_aload_n hx hb dX9_brings_98 rfl (lv_at hl 1 rfl) ?_
      refine lv_bipush (v := (7 : Int32)) hx hb dX9_brings_99 (by decide) ?_
      refine lv_bipush (v := (6 : Int32)) hx hb dX9_brings_101 (by decide) ?_
      refine lv_iload_n hx hb dX9_brings_103 rfl (lv_at hl 2 rfl) ?_
      refine lv_imul hx hb dX9_brings_104 ?_
      refine lv_iadd hx hb dX9_brings_105 ?_
      obtain ⟨j13, ej13, hinj13, h⟩ := ga_x h
      refine a_il X hH 34 rfl hinj13 ej13 dX9_brings_106 ?_
      obtain ⟨v8, ev8, h⟩ := ltt_x h
      refine lv_topi (fun y0 e0 => ?_)
      rw [← ev8] at e0
      subst y0
      obtain ⟨j14, ej14, hinj14, h⟩ := ga_x h
      obtain ⟨xs8, exs8, h⟩ := ltt_x h
      refine a_is X hH (ws1 := ((wX9 g a i xs8) ++ [(b 0, .inl (g.2.1 0, 6, .inl (xt)))])) 6 rfl hinj14 ej14 (by rw [exs8]; rfl) dX9_brings_107 (fun H locs hH => ?_)
      obtain ⟨v9, ev9, h⟩ := ltt_x h
      refine s_inc X (k := 2) (lv' := [(2, .int v9), (0, .ref (a i)), (1, .ref (b 0))]) hl rfl (by rw [ev9]; rfl) dX9_brings_108 (by decide) rfl (fun ls hl => ?_)
      refine lv_goto (tgt := 16) hx hb dX9_brings_111 (by decide) ?_
      exact ih xs8 v9 H locs ls h hH (lv_sub hl [1, 2, 0] rfl)
set_option maxHeartbeats 4000000 in
set_option maxRecDepth 100000 in
theorem uX9_brings {l : Launch} {g : GG} {a : Nat → Nat} {i : Nat} {b : Nat → Nat} {xs : SX9} {xt : Nat → Int32} {o : SX9} (h : fX9_brings xs xt = some o) : mC l g yX9_brings cX9_brings 3 none (rM 0 0) [.ref (a i), .ref (b 0)] ((wX9 g a i xs) ++ [(b 0, .inl (g.2.1 0, 6, .inl (xt)))]) ((wX9 g a i o) ++ [(b 0, .inl (g.2.1 0, 6, .inl (xt)))]) none := by
  refine mC.ofW (by decide) (fun p e s m below meth c X hH ls _ hl => ?_) (Nat.le_of_ble_eq_true rfl)
  have hx := X.1
  have hb := X.2.1
  have hl : lv_has ls 3 [(0, .ref (a i)), (1, .ref (b 0))] := hl
  unfold fX9_brings at h
  suffices HH : ∀ (H : Heap) (locs : List Loc), mH g s ((wX9 g a i xs) ++ [(b 0, .inl (g.2.1 0, 6, .inl (xt)))]) ((wX9 g a i xs) ++ [(b 0, .inl (g.2.1 0, 6, .inl (xt)))]) H locs → W p l e (rM 0 0) s m _ below meth c H locs 0 0 (mZ g below _ s ((wX9 g a i xs) ++ [(b 0, .inl (g.2.1 0, 6, .inl (xt)))]) ((wX9 g a i o) ++ [(b 0, .inl (g.2.1 0, 6, .inl (xt)))]) none) (F0 m 0 ls []) from HH _ _ hH
  clear hH
  intro H locs hH
  refine lv_aload_n hx hb dX9_brings_0 rfl (lv_at hl 0 rfl) ?_
  refine lv_aload_n hx hb dX9_brings_1 rfl (lv_at hl 1 rfl) ?_
  refine lv_iconst (v := (0 : Int32)) hx hb dX9_brings_2 (by decide) ?_
  obtain ⟨j1, ej1, hinj1, h⟩ := ga_x h
  refine a_il X hH 34 rfl hinj1 ej1 dX9_brings_3 ?_
  obtain ⟨v1, ev1, h⟩ := ltt_x h
  refine lv_topi (fun y0 e0 => ?_)
  rw [← ev1] at e0
  subst y0
  obtain ⟨xs1, exs1, h⟩ := ltt_x h
  refine f_put X hH (ws1 := ((wX9 g a i xs1) ++ [(b 0, .inl (g.2.1 0, 6, .inl (xt)))])) 0 rfl rfl 0 (by decide) inX9 tyX9 tyX9_ok nmX9 fX9_7 rfl rfl rfl (Nat.le_of_ble_eq_true rfl) (by rw [exs1]; rfl) dX9_brings_4 (fun H locs hH => ?_)
  refine lv_aload_n hx hb dX9_brings_7 rfl (lv_at hl 0 rfl) ?_
  refine lv_aload_n hx hb dX9_brings_8 rfl (lv_at hl 1 rfl) ?_
  refine lv_iconst (v := (1 : Int32)) hx hb dX9_brings_9 (by decide) ?_
  obtain ⟨j2, ej2, hinj2, h⟩ := ga_x h
  refine a_il X hH 34 rfl hinj2 ej2 dX9_brings_10 ?_
  obtain ⟨v2, ev2, h⟩ := ltt_x h
  refine lv_topi (fun y0 e0 => ?_)
  rw [← ev2] at e0
  subst y0
  obtain ⟨xs2, exs2, h⟩ := ltt_x h
  refine f_put X hH (ws1 := ((wX9 g a i xs2) ++ [(b 0, .inl (g.2.1 0, 6, .inl (xt)))])) 0 rfl rfl 1 (by decide) inX9 tyX9 tyX9_ok nmX9 fX9_120 rfl rfl rfl (Nat.le_of_ble_eq_true rfl) (by rw [exs2]; rfl) dX9_brings_11 (fun H locs hH => ?_)
  refine lv_iconst (v := (0 : Int32)) hx hb dX9_brings_14 (by decide) ?_
  refine s_in X (lv' := [(2, .int (0 : Int32)), (0, .ref (a i)), (1, .ref (b 0))]) hl rfl dX9_brings_15 rfl (by decide) rfl (fun ls hl => ?_)
  exact pX9_brings_16 X FU xs2 (0 : Int32) H locs ls h hH (lv_sub hl [1, 2, 0] rfl)

def qX9_grammar_22  (k7 : SX9 → Int32 → Option (Int32 × SX9)) (xs : SX9) (l1 : Int32) : Option (Int32 × SX9) :=
  (fX9_statement xs).bind fun o1 =>
  (if (0 : Int32) ≤ o1.1 then
  ltt (l1 + (1 : Int32)) fun v1 =>
  k7 o1.2 v1
  else
  some (((-1000 : Int32) - (m_at o1.2)), o1.2))
def qX9_grammar_7   : Nat → SX9 → Int32 → Option (Int32 × SX9)
  | 0, _, _ => none
  | fu + 1, xs, l1 =>
  (if l1 = (0 : Int32) then
  qX9_grammar_22 (qX9_grammar_7  fu) xs l1
  else
  (if (m_lettered xs) ≤ (m_at xs) then
  some (l1, xs)
  else
  qX9_grammar_22 (qX9_grammar_7  fu) xs l1))
def fX9_grammar (xs : SX9) : Option (Int32 × SX9) :=
  ltt ((m_at_s xs (0 : Int32))) fun xs1 =>
  qX9_grammar_7 FU xs1 (0 : Int32)
set_option maxHeartbeats 4000000 in
set_option maxRecDepth 100000 in
theorem pX9_grammar_22 {p : Program} {l : Launch} {e : Env} {s : State} {m : MethodId} {args : Array Value} {below : List Frame} {meth : Method} {c : Code} {g : GG} {w0 : va_W} {a : Nat → Nat} {i : Nat}  {o : (Int32 × SX9)} (X : mX g yX9_grammar cX9_grammar 2 (some .int) p s m args meth c w0)
  {k7 : SX9 → Int32 → Option (Int32 × SX9)} (K7 : ∀ (xs : SX9) (l1 : Int32) (H : Heap) (locs : List Loc) (ls : Array Slot), k7 xs l1 = some o → mH g s w0 (wX9 g a i xs) H locs → lv_has ls 2 [(0, .ref (a i)), (1, .int l1)] → W p l e (rM 3 67) s m args below meth c H locs 0 0 (mZ g below args s w0 (wX9 g a i o.2) (some (.int o.1))) (F0 m 7 ls [])) :
  ∀ (xs : SX9) (l1 : Int32) (H : Heap) (locs : List Loc) (ls : Array Slot), qX9_grammar_22 k7 xs l1 = some o → mH g s w0 (wX9 g a i xs) H locs → lv_has ls 2 [(0, .ref (a i)), (1, .int l1)] → W p l e (rM 3 67) s m args below meth c H locs 0 0 (mZ g below args s w0 (wX9 g a i o.2) (some (.int o.1))) (F0 m 22 ls []) := by
  have hx := X.1
  have hb := X.2.1
  intro xs l1 H locs ls h hH hl
  unfold qX9_grammar_22 at h
  refine lv_aload_n hx hb dX9_grammar_22 rfl (lv_at hl 0 rfl) ?_
  obtain ⟨o1, ho1, h⟩ := bd_x h
  refine r_V X hH (ws1 := (wX9 g a i o1.2)) (As := []) (rest := []) (st1 := [.int o1.1]) (uX9_statement (a := a) (i := i) ho1) kX9_statement mX9_198 iX9_statement vX9_statement zX9 okX9_statement ⟨Nat.le_of_ble_eq_true rfl, Nat.le_of_ble_eq_true rfl⟩ rfl rfl (q0 := 0) rfl rfl (pm_all _) (pm_all _) rfl hl.1 rfl (Nat.le_of_ble_eq_true rfl) ⟨Nat.le_refl 0, Nat.le_refl 0⟩ rfl dX9_grammar_23 (fun H locs hH => ?_)
  refine lv_if_ge (tgt := 38) hx hb dX9_grammar_26 (by decide) (fun c2 => ?_) (fun c2 => ?_)
  · have h := it_x h c2
    obtain ⟨v1, ev1, h⟩ := ltt_x h
    refine s_inc X (k := 1) (lv' := [(1, .int v1), (0, .ref (a i))]) hl rfl (by rw [ev1]; rfl) dX9_grammar_38 (by decide) rfl (fun ls hl => ?_)
    refine lv_goto (tgt := 7) hx hb dX9_grammar_41 (by decide) ?_
    exact K7 o1.2 v1 H locs ls h hH (lv_sub hl [1, 0] rfl)
  · have h := ie_x h c2
    refine lv_sipush (v := (-1000 : Int32)) hx hb dX9_grammar_29 (by decide) ?_
    refine lv_aload_n hx hb dX9_grammar_32 rfl (lv_at hl 0 rfl) ?_
    refine f_get X hH 0 rfl rfl 11 (by decide) inX9 fX9_180 rfl dX9_grammar_33 ?_
    refine lv_isub hx hb dX9_grammar_36 ?_
    have h := Option.some.inj h
    subst h
    exact e_i X hH dX9_grammar_37
set_option maxHeartbeats 4000000 in
set_option maxRecDepth 100000 in
theorem pX9_grammar_7 {p : Program} {l : Launch} {e : Env} {s : State} {m : MethodId} {args : Array Value} {below : List Frame} {meth : Method} {c : Code} {g : GG} {w0 : va_W} {a : Nat → Nat} {i : Nat}  {o : (Int32 × SX9)} (X : mX g yX9_grammar cX9_grammar 2 (some .int) p s m args meth c w0) :
  ∀ (fu : Nat) (xs : SX9) (l1 : Int32) (H : Heap) (locs : List Loc) (ls : Array Slot), qX9_grammar_7 fu xs l1 = some o → mH g s w0 (wX9 g a i xs) H locs → lv_has ls 2 [(0, .ref (a i)), (1, .int l1)] → W p l e (rM 3 67) s m args below meth c H locs 0 0 (mZ g below args s w0 (wX9 g a i o.2) (some (.int o.1))) (F0 m 7 ls []) := by
  have hx := X.1
  have hb := X.2.1
  intro fu
  induction fu with
  | zero =>
    intro xs l1 H locs ls h
    unfold qX9_grammar_7 at h
    cases h
  | succ fu ih =>
    intro xs l1 H locs ls h hH hl
    unfold qX9_grammar_7 at h
    refine lv_iload_n hx hb dX9_grammar_7 rfl (lv_at hl 1 rfl) ?_
    refine lv_if_eq (tgt := 22) hx hb dX9_grammar_8 (by decide) (fun c1 => ?_) (fun c1 => ?_)
    · have h := it_x h c1
      exact pX9_grammar_22 X ih xs l1 H locs ls h hH (lv_sub hl [0, 1] rfl)
    · have h := ie_x h c1
      refine lv_aload_n hx hb dX9_grammar_11 rfl (lv_at hl 0 rfl) ?_
      refine f_get X hH 0 rfl rfl 11 (by decide) inX9 fX9_180 rfl dX9_grammar_12 ?_
      refine lv_aload_n hx hb dX9_grammar_15 rfl (lv_at hl 0 rfl) ?_
      refine f_get X hH 0 rfl rfl 10 (by decide) inX9 fX9_177 rfl dX9_grammar_16 ?_
      refine lv_icmp_ge (tgt := 44) hx hb dX9_grammar_19 (by decide) (fun c3 => ?_) (fun c3 => ?_)
      · have h := it_x h c3
        refine lv_iload_n hx hb dX9_grammar_44 rfl (lv_at hl 1 rfl) ?_
        have h := Option.some.inj h
        subst h
        exact e_i X hH dX9_grammar_45
      · have h := ie_x h c3
        exact pX9_grammar_22 X ih xs l1 H locs ls h hH (lv_sub hl [0, 1] rfl)
set_option maxHeartbeats 4000000 in
set_option maxRecDepth 100000 in
theorem uX9_grammar {l : Launch} {g : GG} {a : Nat → Nat} {i : Nat} {xs : SX9} {o : (Int32 × SX9)} (h : fX9_grammar xs = some o) : mC l g yX9_grammar cX9_grammar 2 (some .int) (rM 3 67) [.ref (a i)] (wX9 g a i xs) (wX9 g a i o.2) (some (.int o.1)) := by
  refine mC.ofW (by decide) (fun p e s m below meth c X hH ls _ hl => ?_) (Nat.le_of_ble_eq_true rfl)
  have hx := X.1
  have hb := X.2.1
  have hl : lv_has ls 2 [(0, .ref (a i))] := hl
  unfold fX9_grammar at h
  suffices HH : ∀ (H : Heap) (locs : List Loc), mH g s (wX9 g a i xs) (wX9 g a i xs) H locs → W p l e (rM 3 67) s m _ below meth c H locs 0 0 (mZ g below _ s (wX9 g a i xs) (wX9 g a i o.2) (some (.int o.1))) (F0 m 0 ls []) from HH _ _ hH
  clear hH
  intro H locs hH
  refine lv_aload_n hx hb dX9_grammar_0 rfl (lv_at hl 0 rfl) ?_
  refine lv_iconst (v := (0 : Int32)) hx hb dX9_grammar_1 (by decide) ?_
  obtain ⟨xs1, exs1, h⟩ := ltt_x h
  refine f_put X hH (ws1 := (wX9 g a i xs1)) 0 rfl rfl 11 (by decide) inX9 tyX9 tyX9_ok nmX9 fX9_180 rfl rfl rfl (Nat.le_of_ble_eq_true rfl) (by rw [exs1]; rfl) dX9_grammar_2 (fun H locs hH => ?_)
  refine lv_iconst (v := (0 : Int32)) hx hb dX9_grammar_5 (by decide) ?_
  refine s_in X (lv' := [(1, .int (0 : Int32)), (0, .ref (a i))]) hl rfl dX9_grammar_6 rfl (by decide) rfl (fun ls hl => ?_)
  exact pX9_grammar_7 X FU xs1 (0 : Int32) H locs ls h hH (lv_sub hl [1, 0] rfl)

def qX9_allDone_5   : Nat → SX9 → Option (Int32 × SX9)
  | 0, _ => none
  | fu + 1, xs =>
  (if (m_lettered xs) ≤ (m_at xs) then
  some ((0 : Int32), xs)
  else
  ltt ((m_at xs)) fun v1 =>
  (fX9_statement xs).bind fun o1 =>
  (fX9_notSo o1.2 o1.1).bind fun o2 =>
  (if o2 = (0 : Int32) then
  (fX9_does o1.2 o1.1).bind fun o3 =>
  qX9_allDone_5  fu o3
  else
  some (((-2000 : Int32) - v1), o1.2)))
def fX9_allDone (xs : SX9) : Option (Int32 × SX9) :=
  ltt ((m_at_s xs (0 : Int32))) fun xs1 =>
  qX9_allDone_5 FU xs1
set_option maxHeartbeats 4000000 in
set_option maxRecDepth 100000 in
theorem pX9_allDone_5 {p : Program} {l : Launch} {e : Env} {s : State} {m : MethodId} {args : Array Value} {below : List Frame} {meth : Method} {c : Code} {g : GG} {w0 : va_W} {a : Nat → Nat} {i : Nat}  {o : (Int32 × SX9)} (X : mX g yX9_allDone cX9_allDone 3 (some .int) p s m args meth c w0) :
  ∀ (fu : Nat) (xs : SX9) (H : Heap) (locs : List Loc) (ls : Array Slot), qX9_allDone_5 fu xs = some o → mH g s w0 (wX9 g a i xs) H locs → lv_has ls 3 [(0, .ref (a i))] → W p l e (rM 4 91) s m args below meth c H locs 0 0 (mZ g below args s w0 (wX9 g a i o.2) (some (.int o.1))) (F0 m 5 ls []) := by
  have hx := X.1
  have hb := X.2.1
  intro fu
  induction fu with
  | zero =>
    intro xs H locs ls h
    unfold qX9_allDone_5 at h
    cases h
  | succ fu ih =>
    intro xs H locs ls h hH hl
    unfold qX9_allDone_5 at h
    refine lv_aload_n hx hb dX9_allDone_5 rfl (lv_at hl 0 rfl) ?_
    refine f_get X hH 0 rfl rfl 11 (by decide) inX9 fX9_180 rfl dX9_allDone_6 ?_
    refine lv_aload_n hx hb dX9_allDone_9 rfl (lv_at hl 0 rfl) ?_
    refine f_get X hH 0 rfl rfl 10 (by decide) inX9 fX9_177 rfl dX9_allDone_10 ?_
    refine lv_icmp_ge (tgt := 48) hx hb dX9_allDone_13 (by decide) (fun c1 => ?_) (fun c1 => ?_)
    · have h := it_x h c1
      refine lv_iconst (v := (0 : Int32)) hx hb dX9_allDone_48 (by decide) ?_
      have h := Option.some.inj h
      subst h
      exact e_i X hH dX9_allDone_49
    · have h := ie_x h c1
      refine lv_aload_n hx hb dX9_allDone_16 rfl (lv_at hl 0 rfl) ?_
      refine f_get X hH 0 rfl rfl 11 (by decide) inX9 fX9_180 rfl dX9_allDone_17 ?_
      obtain ⟨v1, ev1, h⟩ := ltt_x h
      refine s_in X (lv' := [(1, .int v1), (0, .ref (a i))]) hl ev1 dX9_allDone_20 rfl (by decide) rfl (fun ls hl => ?_)
      refine lv_aload_n hx hb dX9_allDone_21 rfl (lv_at hl 1 rfl) ?_
      obtain ⟨o1, ho1, h⟩ := bd_x h
      refine r_V X hH (ws1 := (wX9 g a i o1.2)) (As := []) (rest := []) (st1 := [.int o1.1]) (uX9_statement (a := a) (i := i) ho1) kX9_statement mX9_198 iX9_statement vX9_statement zX9 okX9_statement ⟨Nat.le_of_ble_eq_true rfl, Nat.le_of_ble_eq_true rfl⟩ rfl rfl (q0 := 0) rfl rfl (pm_all _) (pm_all _) rfl hl.1 rfl (Nat.le_of_ble_eq_true rfl) ⟨Nat.le_refl 0, Nat.le_refl 0⟩ rfl dX9_allDone_22 (fun H locs hH => ?_)
      refine s_in X (lv' := [(2, .int o1.1), (1, .int v1), (0, .ref (a i))]) hl rfl dX9_allDone_25 rfl (by decide) rfl (fun ls hl => ?_)
      refine lv_aload_n hx hb dX9_allDone_26 rfl (lv_at hl 2 rfl) ?_
      refine lv_iload_n hx hb dX9_allDone_27 rfl (lv_at hl 0 rfl) ?_
      obtain ⟨o2, ho2, h⟩ := bd_x h
      refine r_V X hH (ws1 := (wX9 g a i o1.2)) (As := [.int o1.1]) (rest := []) (st1 := [.int o2]) (uX9_notSo (a := a) (i := i) ho2) kX9_notSo mX9_201 iX9_notSo vX9_notSo zX9 okX9_notSo ⟨Nat.le_of_ble_eq_true rfl, Nat.le_of_ble_eq_true rfl⟩ rfl rfl (q0 := 0) rfl rfl (pm_all _) (pm_all _) rfl hl.1 rfl (Nat.le_of_ble_eq_true rfl) ⟨Nat.le_refl 0, Nat.le_refl 0⟩ rfl dX9_allDone_28 (fun H locs hH => ?_)
      refine lv_if_eq (tgt := 40) hx hb dX9_allDone_31 (by decide) (fun c2 => ?_) (fun c2 => ?_)
      · have h := it_x h c2
        refine lv_aload_n hx hb dX9_allDone_40 rfl (lv_at hl 2 rfl) ?_
        refine lv_iload_n hx hb dX9_allDone_41 rfl (lv_at hl 0 rfl) ?_
        obtain ⟨o3, ho3, h⟩ := bd_x h
        refine r_V X hH (ws1 := (wX9 g a i o3)) (As := [.int o1.1]) (rest := []) (st1 := []) (uX9_does (a := a) (i := i) ho3) kX9_does mX9_204 iX9_does vX9_does zX9 okX9_does ⟨Nat.le_of_ble_eq_true rfl, Nat.le_of_ble_eq_true rfl⟩ rfl rfl (q0 := 0) rfl rfl (pm_all _) (pm_all _) rfl hl.1 rfl (Nat.le_of_ble_eq_true rfl) ⟨Nat.le_refl 0, Nat.le_refl 0⟩ rfl dX9_allDone_42 (fun H locs hH => ?_)
        refine lv_goto (tgt := 5) hx hb dX9_allDone_45 (by decide) ?_
        exact ih o3 H locs ls h hH (lv_sub hl [2] rfl)
      · have h := ie_x h c2
        refine lv_sipush (v := (-2000 : Int32)) hx hb dX9_allDone_34 (by decide) ?_
        refine lv_iload_n hx hb dX9_allDone_37 rfl (lv_at hl 1 rfl) ?_
        refine lv_isub hx hb dX9_allDone_38 ?_
        have h := Option.some.inj h
        subst h
        exact e_i X hH dX9_allDone_39
set_option maxHeartbeats 4000000 in
set_option maxRecDepth 100000 in
theorem uX9_allDone {l : Launch} {g : GG} {a : Nat → Nat} {i : Nat} {xs : SX9} {o : (Int32 × SX9)} (h : fX9_allDone xs = some o) : mC l g yX9_allDone cX9_allDone 3 (some .int) (rM 4 91) [.ref (a i)] (wX9 g a i xs) (wX9 g a i o.2) (some (.int o.1)) := by
  refine mC.ofW (by decide) (fun p e s m below meth c X hH ls _ hl => ?_) (Nat.le_of_ble_eq_true rfl)
  have hx := X.1
  have hb := X.2.1
  have hl : lv_has ls 3 [(0, .ref (a i))] := hl
  unfold fX9_allDone at h
  suffices HH : ∀ (H : Heap) (locs : List Loc), mH g s (wX9 g a i xs) (wX9 g a i xs) H locs → W p l e (rM 4 91) s m _ below meth c H locs 0 0 (mZ g below _ s (wX9 g a i xs) (wX9 g a i o.2) (some (.int o.1))) (F0 m 0 ls []) from HH _ _ hH
  clear hH
  intro H locs hH
  refine lv_aload_n hx hb dX9_allDone_0 rfl (lv_at hl 0 rfl) ?_
  refine lv_iconst (v := (0 : Int32)) hx hb dX9_allDone_1 (by decide) ?_
  obtain ⟨xs1, exs1, h⟩ := ltt_x h
  refine f_put X hH (ws1 := (wX9 g a i xs1)) 0 rfl rfl 11 (by decide) inX9 tyX9 tyX9_ok nmX9 fX9_180 rfl rfl rfl (Nat.le_of_ble_eq_true rfl) (by rw [exs1]; rfl) dX9_allDone_2 (fun H locs hH => ?_)
  exact pX9_allDone_5 X FU xs1 H locs ls h hH (lv_sub hl [0] rfl)

def qX9_keeps_13_16   : Nat → SX9 → Int32 → Option SX9
  | 0, _, _ => none
  | fu + 1, xs, l2 =>
  (if (10 : Int32) ≤ l2 then
  some xs
  else
  ga 11 l2 fun j3 =>
  ltt (((m_first xs) j3)) fun v3 =>
  ga 62 ((2 : Int32) + ((6 : Int32) * l2)) fun j4 =>
  ltt ((m_was_s xs (upd (m_was xs) j4 v3))) fun xs3 =>
  ga 11 l2 fun j5 =>
  ltt (((m_second xs3) j5)) fun v4 =>
  ga 62 ((3 : Int32) + ((6 : Int32) * l2)) fun j6 =>
  ltt ((m_was_s xs3 (upd (m_was xs3) j6 v4))) fun xs4 =>
  ga 11 l2 fun j7 =>
  ltt (((m_kind xs4) j7)) fun v5 =>
  ga 62 ((4 : Int32) + ((6 : Int32) * l2)) fun j8 =>
  ltt ((m_was_s xs4 (upd (m_was xs4) j8 v5))) fun xs5 =>
  ga 11 l2 fun j9 =>
  ltt (((m_figure xs5) j9)) fun v6 =>
  ga 62 ((5 : Int32) + ((6 : Int32) * l2)) fun j10 =>
  ltt ((m_was_s xs5 (upd (m_was xs5) j10 v6))) fun xs6 =>
  ga 11 l2 fun j11 =>
  ltt (((m_load xs6) j11)) fun v7 =>
  ga 62 ((6 : Int32) + ((6 : Int32) * l2)) fun j12 =>
  ltt ((m_was_s xs6 (upd (m_was xs6) j12 v7))) fun xs7 =>
  ga 11 l2 fun j13 =>
  ltt (((m_length xs7) j13)) fun v8 =>
  ga 62 ((7 : Int32) + ((6 : Int32) * l2)) fun j14 =>
  ltt ((m_was_s xs7 (upd (m_was xs7) j14 v8))) fun xs8 =>
  ltt (l2 + (1 : Int32)) fun v9 =>
  qX9_keeps_13_16  fu xs8 v9)
def fX9_keeps_13 (xs : SX9) : Option SX9 :=
  ltt ((m_points xs)) fun v1 =>
  ga 62 (0 : Int32) fun j1 =>
  ltt ((m_was_s xs (upd (m_was xs) j1 v1))) fun xs1 =>
  ltt ((m_many xs1)) fun v2 =>
  ga 62 (1 : Int32) fun j2 =>
  ltt ((m_was_s xs1 (upd (m_was xs1) j2 v2))) fun xs2 =>
  qX9_keeps_13_16 FU xs2 (0 : Int32)
set_option maxHeartbeats 4000000 in
set_option maxRecDepth 100000 in
theorem pX9_keeps_13_16 {p : Program} {l : Launch} {e : Env} {s : State} {m : MethodId} {args : Array Value} {below : List Frame} {meth : Method} {c : Code} {g : GG} {w0 : va_W} {a : Nat → Nat} {i : Nat}  {o : SX9} (X : mX g yX9_keeps cX9_keeps 3 none p s m args meth c w0) :
  ∀ (fu : Nat) (xs : SX9) (l2 : Int32) (H : Heap) (locs : List Loc) (ls : Array Slot), qX9_keeps_13_16 fu xs l2 = some o → mH g s w0 (wX9 g a i xs) H locs → lv_has ls 3 [(0, .ref (a i)), (1, .ref (a (i + 13))), (2, .int l2)] → W p l e (rM 0 0) s m args below meth c H locs 0 0 (mZ g below args s w0 (wX9 g a i o) none) (F0 m 16 ls []) := by
  have hx := X.1
  have hb := X.2.1
  intro fu
  induction fu with
  | zero =>
    intro xs l2 H locs ls h
    unfold qX9_keeps_13_16 at h
    cases h
  | succ fu ih =>
    intro xs l2 H locs ls h hH hl
    unfold qX9_keeps_13_16 at h
    refine lv_iload_n hx hb dX9_keeps_16 rfl (lv_at hl 2 rfl) ?_
    refine lv_bipush (v := (10 : Int32)) hx hb dX9_keeps_17 (by decide) ?_
    refine lv_icmp_ge (tgt := 114) hx hb dX9_keeps_19 (by decide) (fun c1 => ?_) (fun c1 => ?_)
    · have h := it_x h c1
      have h := Option.some.inj h
      subst h
      exact e_v X hH dX9_keeps_114
    · have h := ie_x h c1
      refine lv_aload_n hx hb dX9_keeps_22 rfl (lv_at hl 1 rfl) ?_
      refine lv_iconst (v := (2 : Int32)) hx hb dX9_keeps_23 (by decide) ?_
      refine lv_bipush (v := (6 : Int32)) hx hb dX9_keeps_24 (by decide) ?_
      refine lv_iload_n hx hb dX9_keeps_26 rfl (lv_at hl 2 rfl) ?_
      refine lv_imul hx hb dX9_keeps_27 ?_
      refine lv_iadd hx hb dX9_keeps_28 ?_
      refine lv_aload_n hx hb dX9_keeps_29 rfl (lv_at hl 0 rfl) ?_
      refine f_get X hH 0 rfl rfl 2 (by decide) inX9 fX9_13 rfl dX9_keeps_30 ?_
      refine lv_iload_n hx hb dX9_keeps_33 rfl (lv_at hl 2 rfl) ?_
      obtain ⟨j3, ej3, hinj3, h⟩ := ga_x h
      refine a_il X hH 1 rfl hinj3 ej3 dX9_keeps_34 ?_
      obtain ⟨v3, ev3, h⟩ := ltt_x h
      refine lv_topi (fun y0 e0 => ?_)
      rw [← ev3] at e0
      subst y0
      obtain ⟨j4, ej4, hinj4, h⟩ := ga_x h
      obtain ⟨xs3, exs3, h⟩ := ltt_x h
      refine a_is X hH (ws1 := (wX9 g a i xs3)) 13 rfl hinj4 ej4 (by rw [exs3]; rfl) dX9_keeps_35 (fun H locs hH => ?_)
      refine lv_aload_n hx hb dX9_keeps_36 rfl (lv_at hl 1 rfl) ?_
      refine lv_iconst (v := (3 : Int32)) hx hb dX9_keeps_37 (by decide) ?_
      refine lv_bipush (v := (6 : Int32)) hx hb dX9_keeps_38 (by decide) ?_
      refine lv_iload_n hx hb dX9_keeps_40 rfl (lv_at hl 2 rfl) ?_
      refine lv_imul hx hb dX9_keeps_41 ?_
      refine lv_iadd hx hb dX9_keeps_42 ?_
      refine lv_aload_n hx hb dX9_keeps_43 rfl (lv_at hl 0 rfl) ?_
      refine f_get X hH 0 rfl rfl 3 (by decide) inX9 fX9_17 rfl dX9_keeps_44 ?_
      refine lv_iload_n hx hb dX9_keeps_47 rfl (lv_at hl 2 rfl) ?_
      obtain ⟨j5, ej5, hinj5, h⟩ := ga_x h
      refine a_il X hH 2 rfl hinj5 ej5 dX9_keeps_48 ?_
      obtain ⟨v4, ev4, h⟩ := ltt_x h
      refine lv_topi (fun y0 e0 => ?_)
      rw [← ev4] at e0
      subst y0
      obtain ⟨j6, ej6, hinj6, h⟩ := ga_x h
      obtain ⟨xs4, exs4, h⟩ := ltt_x h
      refine a_is X hH (ws1 := (wX9 g a i xs4)) 13 rfl hinj6 ej6 (by rw [exs4]; rfl) dX9_keeps_49 (fun H locs hH => ?_)
      refine lv_aload_n hx hb dX9_keeps_50 rfl (lv_at hl 1 rfl) ?_
      refine lv_iconst (v := (4 : Int32)) hx hb dX9_keeps_51 (by decide) ?_
      refine lv_bipush (v := (6 : Int32)) hx hb dX9_keeps_52 (by decide) ?_
      refine lv_iload_n hx hb dX9_keeps_54 rfl (lv_at hl 2 rfl) ?_
      refine lv_imul hx hb dX9_keeps_55 ?_
      refine lv_iadd hx hb dX9_keeps_56 ?_
      refine lv_aload_n hx hb dX9_keeps_57 rfl (lv_at hl 0 rfl) ?_
      refine f_get X hH 0 rfl rfl 4 (by decide) inX9 fX9_20 rfl dX9_keeps_58 ?_
      refine lv_iload_n hx hb dX9_keeps_61 rfl (lv_at hl 2 rfl) ?_
      obtain ⟨j7, ej7, hinj7, h⟩ := ga_x h
      refine a_il X hH 3 rfl hinj7 ej7 dX9_keeps_62 ?_
      obtain ⟨v5, ev5, h⟩ := ltt_x h
      refine lv_topi (fun y0 e0 => ?_)
      rw [← ev5] at e0
      subst y0
      obtain ⟨j8, ej8, hinj8, h⟩ := ga_x h
      obtain ⟨xs5, exs5, h⟩ := ltt_x h
      refine a_is X hH (ws1 := (wX9 g a i xs5)) 13 rfl hinj8 ej8 (by rw [exs5]; rfl) dX9_keeps_63 (fun H locs hH => ?_)
      refine lv_aload_n hx hb dX9_keeps_64 rfl (lv_at hl 1 rfl) ?_
      refine lv_iconst (v := (5 : Int32)) hx hb dX9_keeps_65 (by decide) ?_
      refine lv_bipush (v := (6 : Int32)) hx hb dX9_keeps_66 (by decide) ?_
      refine lv_iload_n hx hb dX9_keeps_68 rfl (lv_at hl 2 rfl) ?_
      refine lv_imul hx hb dX9_keeps_69 ?_
      refine lv_iadd hx hb dX9_keeps_70 ?_
      refine lv_aload_n hx hb dX9_keeps_71 rfl (lv_at hl 0 rfl) ?_
      refine f_get X hH 0 rfl rfl 5 (by decide) inX9 fX9_23 rfl dX9_keeps_72 ?_
      refine lv_iload_n hx hb dX9_keeps_75 rfl (lv_at hl 2 rfl) ?_
      obtain ⟨j9, ej9, hinj9, h⟩ := ga_x h
      refine a_il X hH 4 rfl hinj9 ej9 dX9_keeps_76 ?_
      obtain ⟨v6, ev6, h⟩ := ltt_x h
      refine lv_topi (fun y0 e0 => ?_)
      rw [← ev6] at e0
      subst y0
      obtain ⟨j10, ej10, hinj10, h⟩ := ga_x h
      obtain ⟨xs6, exs6, h⟩ := ltt_x h
      refine a_is X hH (ws1 := (wX9 g a i xs6)) 13 rfl hinj10 ej10 (by rw [exs6]; rfl) dX9_keeps_77 (fun H locs hH => ?_)
      refine lv_aload_n hx hb dX9_keeps_78 rfl (lv_at hl 1 rfl) ?_
      refine lv_bipush (v := (6 : Int32)) hx hb dX9_keeps_79 (by decide) ?_
      refine lv_bipush (v := (6 : Int32)) hx hb dX9_keeps_81 (by decide) ?_
      refine lv_iload_n hx hb dX9_keeps_83 rfl (lv_at hl 2 rfl) ?_
      refine lv_imul hx hb dX9_keeps_84 ?_
      refine lv_iadd hx hb dX9_keeps_85 ?_
      refine lv_aload_n hx hb dX9_keeps_86 rfl (lv_at hl 0 rfl) ?_
      refine f_get X hH 0 rfl rfl 6 (by decide) inX9 fX9_26 rfl dX9_keeps_87 ?_
      refine lv_iload_n hx hb dX9_keeps_90 rfl (lv_at hl 2 rfl) ?_
      obtain ⟨j11, ej11, hinj11, h⟩ := ga_x h
      refine a_il X hH 5 rfl hinj11 ej11 dX9_keeps_91 ?_
      obtain ⟨v7, ev7, h⟩ := ltt_x h
      refine lv_topi (fun y0 e0 => ?_)
      rw [← ev7] at e0
      subst y0
      obtain ⟨j12, ej12, hinj12, h⟩ := ga_x h
      obtain ⟨xs7, exs7, h⟩ := ltt_x h
      refine a_is X hH (ws1 := (wX9 g a i xs7)) 13 rfl hinj12 ej12 (by rw [exs7]; rfl) dX9_keeps_92 (fun H locs hH => ?_)
      refine lv_aload_n hx hb dX9_keeps_93 rfl (lv_at hl 1 rfl) ?_
      refine lv_bipush (v := (7 : Int32)) hx hb dX9_keeps_94 (by decide) ?_
      refine lv_bipush (v := (6 : Int32)) hx hb dX9_keeps_96 (by decide) ?_
      refine lv_iload_n hx hb dX9_keeps_98 rfl (lv_at hl 2 rfl) ?_
      refine lv_imul hx hb dX9_keeps_99 ?_
      refine lv_iadd hx hb dX9_keeps_100 ?_
      refine lv_aload_n hx hb dX9_keeps_101 rfl (lv_at hl 0 rfl) ?_
      refine f_get X hH 0 rfl rfl 7 (by decide) inX9 fX9_29 rfl dX9_keeps_102 ?_
      refine lv_iload_n hx hb dX9_keeps_105 rfl (lv_at hl 2 rfl) ?_
      obtain ⟨j13, ej13, hinj13, h⟩ := ga_x h
      refine a_il X hH 6 rfl hinj13 ej13 dX9_keeps_106 ?_
      obtain ⟨v8, ev8, h⟩ := ltt_x h
      refine lv_topi (fun y0 e0 => ?_)
      rw [← ev8] at e0
      subst y0
      obtain ⟨j14, ej14, hinj14, h⟩ := ga_x h
      obtain ⟨xs8, exs8, h⟩ := ltt_x h
      refine a_is X hH (ws1 := (wX9 g a i xs8)) 13 rfl hinj14 ej14 (by rw [exs8]; rfl) dX9_keeps_107 (fun H locs hH => ?_)
      obtain ⟨v9, ev9, h⟩ := ltt_x h
      refine s_inc X (k := 2) (lv' := [(2, .int v9), (0, .ref (a i)), (1, .ref (a (i + 13)))]) hl rfl (by rw [ev9]; rfl) dX9_keeps_108 (by decide) rfl (fun ls hl => ?_)
      refine lv_goto (tgt := 16) hx hb dX9_keeps_111 (by decide) ?_
      exact ih xs8 v9 H locs ls h hH (lv_sub hl [1, 2, 0] rfl)
set_option maxHeartbeats 4000000 in
set_option maxRecDepth 100000 in
theorem uX9_keeps_13 {l : Launch} {g : GG} {a : Nat → Nat} {i : Nat} {xs : SX9} {o : SX9} (h : fX9_keeps_13 xs = some o) : mC l g yX9_keeps cX9_keeps 3 none (rM 0 0) [.ref (a i), .ref (a (i + 13))] (wX9 g a i xs) (wX9 g a i o) none := by
  refine mC.ofW (by decide) (fun p e s m below meth c X hH ls _ hl => ?_) (Nat.le_of_ble_eq_true rfl)
  have hx := X.1
  have hb := X.2.1
  have hl : lv_has ls 3 [(0, .ref (a i)), (1, .ref (a (i + 13)))] := hl
  unfold fX9_keeps_13 at h
  suffices HH : ∀ (H : Heap) (locs : List Loc), mH g s (wX9 g a i xs) (wX9 g a i xs) H locs → W p l e (rM 0 0) s m _ below meth c H locs 0 0 (mZ g below _ s (wX9 g a i xs) (wX9 g a i o) none) (F0 m 0 ls []) from HH _ _ hH
  clear hH
  intro H locs hH
  refine lv_aload_n hx hb dX9_keeps_0 rfl (lv_at hl 1 rfl) ?_
  refine lv_iconst (v := (0 : Int32)) hx hb dX9_keeps_1 (by decide) ?_
  refine lv_aload_n hx hb dX9_keeps_2 rfl (lv_at hl 0 rfl) ?_
  refine f_get X hH 0 rfl rfl 0 (by decide) inX9 fX9_7 rfl dX9_keeps_3 ?_
  obtain ⟨v1, ev1, h⟩ := ltt_x h
  refine lv_topi (fun y0 e0 => ?_)
  rw [← ev1] at e0
  subst y0
  obtain ⟨j1, ej1, hinj1, h⟩ := ga_x h
  obtain ⟨xs1, exs1, h⟩ := ltt_x h
  refine a_is X hH (ws1 := (wX9 g a i xs1)) 13 rfl hinj1 ej1 (by rw [exs1]; rfl) dX9_keeps_6 (fun H locs hH => ?_)
  refine lv_aload_n hx hb dX9_keeps_7 rfl (lv_at hl 1 rfl) ?_
  refine lv_iconst (v := (1 : Int32)) hx hb dX9_keeps_8 (by decide) ?_
  refine lv_aload_n hx hb dX9_keeps_9 rfl (lv_at hl 0 rfl) ?_
  refine f_get X hH 0 rfl rfl 1 (by decide) inX9 fX9_120 rfl dX9_keeps_10 ?_
  obtain ⟨v2, ev2, h⟩ := ltt_x h
  refine lv_topi (fun y0 e0 => ?_)
  rw [← ev2] at e0
  subst y0
  obtain ⟨j2, ej2, hinj2, h⟩ := ga_x h
  obtain ⟨xs2, exs2, h⟩ := ltt_x h
  refine a_is X hH (ws1 := (wX9 g a i xs2)) 13 rfl hinj2 ej2 (by rw [exs2]; rfl) dX9_keeps_13 (fun H locs hH => ?_)
  refine lv_iconst (v := (0 : Int32)) hx hb dX9_keeps_14 (by decide) ?_
  refine s_in X (lv' := [(2, .int (0 : Int32)), (0, .ref (a i)), (1, .ref (a (i + 13)))]) hl rfl dX9_keeps_15 rfl (by decide) rfl (fun ls hl => ?_)
  exact pX9_keeps_13_16 X FU xs2 (0 : Int32) H locs ls h hH (lv_sub hl [1, 2, 0] rfl)
