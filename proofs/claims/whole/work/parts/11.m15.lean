def fX9_findTold (xs : SX9) (pa : Int32) (pb : Int32) : Option SX9 :=
  (fX9_findTime xs pa pb (0 : Int32)).bind fun o1 =>
  (if o1.1 = (0 : Int32) then
  ltt ((m_up_s o1.2 (1 : Int64))) fun xs3 =>
  ltt ((m_down_s xs3 (0 : Int64))) fun xs4 =>
  some xs4
  else
  (fX9_common (m_up o1.2) (m_down o1.2)).bind fun o2 =>
  gzl (o2) <|
  ltt (((m_up o1.2) / o2)) fun v1 =>
  ltt ((m_up_s o1.2 v1)) fun xs1 =>
  gzl (o2) <|
  ltt (((m_down xs1) / o2)) fun v2 =>
  ltt ((m_down_s xs1 v2)) fun xs2 =>
  some xs2)
set_option maxHeartbeats 4000000 in
set_option maxRecDepth 100000 in
theorem uX9_findTold {l : Launch} {g : GG} {a : Nat → Nat} {i : Nat} {xs : SX9} {pa : Int32} {pb : Int32} {o : SX9} (h : fX9_findTold xs pa pb = some o) : mC l g yX9_findTold cX9_findTold 5 none (rM 5 117) [.ref (a i), .int pa, .int pb] (wX9 g a i xs) (wX9 g a i o) none := by
  refine mC.ofW (by decide) (fun p e s m below meth c X hH ls _ hl => ?_) (Nat.le_of_ble_eq_true rfl)
  have hx := X.1
  have hb := X.2.1
  have hl : lv_has ls 5 [(0, .ref (a i)), (1, .int pa), (2, .int pb)] := hl
  unfold fX9_findTold at h
  suffices HH : ∀ (H : Heap) (locs : List Loc), mH g s (wX9 g a i xs) (wX9 g a i xs) H locs → W p l e (rM 5 117) s m _ below meth c H locs 0 0 (mZ g below _ s (wX9 g a i xs) (wX9 g a i o) none) (F0 m 0 ls []) from HH _ _ hH
  clear hH
  intro H locs hH
  refine lv_aload_n hx hb dX9_findTold_0 rfl (lv_at hl 0 rfl) ?_
  refine lv_iload_n hx hb dX9_findTold_1 rfl (lv_at hl 1 rfl) ?_
  refine lv_iload_n hx hb dX9_findTold_2 rfl (lv_at hl 2 rfl) ?_
  refine lv_iconst (v := (0 : Int32)) hx hb dX9_findTold_3 (by decide) ?_
  obtain ⟨o1, ho1, h⟩ := bd_x h
  refine r_V X hH (ws1 := (wX9 g a i o1.2)) (As := [.int pa, .int pb, .int (0 : Int32)]) (rest := []) (st1 := [.int o1.1]) (uX9_findTime (a := a) (i := i) ho1) kX9_findTime mX9_275 iX9_findTime vX9_findTime zX9 okX9_findTime ⟨Nat.le_of_ble_eq_true rfl, Nat.le_of_ble_eq_true rfl⟩ rfl rfl (q0 := 0) rfl rfl (pm_all _) (pm_all _) rfl hl.1 rfl (Nat.le_of_ble_eq_true rfl) ⟨Nat.le_refl 0, Nat.le_refl 0⟩ rfl dX9_findTold_4 (fun H locs hH => ?_)
  refine lv_if_ne (tgt := 21) hx hb dX9_findTold_7 (by decide) (fun c1 => ?_) (fun c1 => ?_)
  · have h := ie_x h c1
    refine lv_aload_n hx hb dX9_findTold_21 rfl (lv_at hl 0 rfl) ?_
    refine f_get X hH 0 rfl rfl 26 (by decide) inX9 fX9_248 rfl dX9_findTold_22 ?_
    refine lv_aload_n hx hb dX9_findTold_25 rfl (lv_at hl 0 rfl) ?_
    refine f_get X hH 0 rfl rfl 27 (by decide) inX9 fX9_252 rfl dX9_findTold_26 ?_
    obtain ⟨o2, ho2, h⟩ := bd_x h
    refine r_S X hH (ws1 := (wX9 g a i o1.2)) (As := [.long (m_up o1.2), .long (m_down o1.2)]) (rest := []) (st1 := [.long o2]) (uX9_common  ho2) kX9_common mX9_265 sX9_common zX9 okX9_common ⟨Nat.le_of_ble_eq_true rfl, Nat.le_of_ble_eq_true rfl⟩ rfl rfl (pm_none _) (pm_none _) rfl hl.1 rfl (Nat.le_of_ble_eq_true rfl) ⟨Nat.le_refl 0, Nat.le_refl 0⟩ rfl dX9_findTold_29 (fun H locs hH => ?_)
    refine s_ln X (lv' := [(3, .long o2), (0, .ref (a i)), (1, .int pa), (2, .int pb)]) hl rfl dX9_findTold_32 rfl (by decide) rfl (fun ls hl => ?_)
    refine lv_aload_n hx hb dX9_findTold_33 rfl (lv_at hl 1 rfl) ?_
    refine lv_dup hx hb dX9_findTold_34 rfl ?_
    refine f_get X hH 0 rfl rfl 26 (by decide) inX9 fX9_248 rfl dX9_findTold_35 ?_
    refine lv_lload_n hx hb dX9_findTold_38 rfl (lv_at hl 0 rfl) ?_
    obtain ⟨z1, h⟩ := gzl_x h
    refine lv_ldiv hx hb dX9_findTold_39 z1 ?_
    obtain ⟨v1, ev1, h⟩ := ltt_x h
    refine lv_topl (fun y0 e0 => ?_)
    rw [← ev1] at e0
    subst y0
    obtain ⟨xs1, exs1, h⟩ := ltt_x h
    refine f_put X hH (ws1 := (wX9 g a i xs1)) 0 rfl rfl 26 (by decide) inX9 tyX9 tyX9_ok nmX9 fX9_248 rfl rfl rfl (Nat.le_of_ble_eq_true rfl) (by rw [exs1]; rfl) dX9_findTold_40 (fun H locs hH => ?_)
    refine lv_aload_n hx hb dX9_findTold_43 rfl (lv_at hl 1 rfl) ?_
    refine lv_dup hx hb dX9_findTold_44 rfl ?_
    refine f_get X hH 0 rfl rfl 27 (by decide) inX9 fX9_252 rfl dX9_findTold_45 ?_
    refine lv_lload_n hx hb dX9_findTold_48 rfl (lv_at hl 0 rfl) ?_
    obtain ⟨z2, h⟩ := gzl_x h
    refine lv_ldiv hx hb dX9_findTold_49 z2 ?_
    obtain ⟨v2, ev2, h⟩ := ltt_x h
    refine lv_topl (fun y0 e0 => ?_)
    rw [← ev2] at e0
    subst y0
    obtain ⟨xs2, exs2, h⟩ := ltt_x h
    refine f_put X hH (ws1 := (wX9 g a i xs2)) 0 rfl rfl 27 (by decide) inX9 tyX9 tyX9_ok nmX9 fX9_252 rfl rfl rfl (Nat.le_of_ble_eq_true rfl) (by rw [exs2]; rfl) dX9_findTold_50 (fun H locs hH => ?_)
    have h := Option.some.inj h
    subst h
    exact e_v X hH dX9_findTold_53
  · have h := it_x h c1
    refine lv_aload_n hx hb dX9_findTold_10 rfl (lv_at hl 0 rfl) ?_
    refine lv_lconst (v := (1 : Int64)) hx hb dX9_findTold_11 (by decide) ?_
    obtain ⟨xs3, exs3, h⟩ := ltt_x h
    refine f_put X hH (ws1 := (wX9 g a i xs3)) 0 rfl rfl 26 (by decide) inX9 tyX9 tyX9_ok nmX9 fX9_248 rfl rfl rfl (Nat.le_of_ble_eq_true rfl) (by rw [exs3]; rfl) dX9_findTold_12 (fun H locs hH => ?_)
    refine lv_aload_n hx hb dX9_findTold_15 rfl (lv_at hl 0 rfl) ?_
    refine lv_lconst (v := (0 : Int64)) hx hb dX9_findTold_16 (by decide) ?_
    obtain ⟨xs4, exs4, h⟩ := ltt_x h
    refine f_put X hH (ws1 := (wX9 g a i xs4)) 0 rfl rfl 27 (by decide) inX9 tyX9 tyX9_ok nmX9 fX9_252 rfl rfl rfl (Nat.le_of_ble_eq_true rfl) (by rw [exs4]; rfl) dX9_findTold_17 (fun H locs hH => ?_)
    have h := Option.some.inj h
    subst h
    exact e_v X hH dX9_findTold_20

def qX9_lays_15 (pa : Int32) (pb : Int32) (pc_ : Int32)  (xs : SX9) : Option (Int32 × SX9) :=
  (fX9_no xs (-1 : Int32)).bind fun o2 =>
  some (o2.1, o2.2)
def qX9_lays_40 (pa : Int32) (pb : Int32) (pc_ : Int32)  : Nat → SX9 → Int32 → Option (Int32 × SX9)
  | 0, _, _ => none
  | fu + 1, xs, l4 =>
  (if (m_points xs) ≤ l4 then
  some ((m_points xs), xs)
  else
  (fX9_findTold xs l4 pb).bind fun o5 =>
  (fX9_isLaid o5 pa ((pc_.toInt64) + (((2 : Int32) * l4).toInt64)) (m_up o5)).bind fun o6 =>
  (if o6.1 = (0 : Int32) then
  some ((-13 : Int32), o6.2)
  else
  (fX9_isLaid o6.2 pa (((pc_.toInt64) + (((2 : Int32) * l4).toInt64)) + (1 : Int64)) (m_down o6.2)).bind fun o7 =>
  (if o7.1 = (0 : Int32) then
  some ((-13 : Int32), o7.2)
  else
  ltt (l4 + (1 : Int32)) fun v1 =>
  qX9_lays_40 pa pb pc_  fu o7.2 v1)))
def fX9_lays (xs : SX9) (pa : Int32) (pb : Int32) (pc_ : Int32) : Option (Int32 × SX9) :=
  (fX9_isList pa).bind fun o1 =>
  (if o1 = (0 : Int32) then
  qX9_lays_15 pa pb pc_ xs
  else
  (fX9_isPoint xs pb).bind fun o3 =>
  (if o3 = (0 : Int32) then
  qX9_lays_15 pa pb pc_ xs
  else
  ga 3 pa fun j1 =>
  (if (0 : Int32) ≤ ((m_listMany xs) j1) then
  (fX9_allThere xs).bind fun o4 =>
  qX9_lays_40 pa pb pc_ FU o4 (0 : Int32)
  else
  some ((-11 : Int32), xs))))
set_option maxHeartbeats 4000000 in
set_option maxRecDepth 100000 in
theorem pX9_lays_15 {p : Program} {l : Launch} {e : Env} {s : State} {m : MethodId} {args : Array Value} {below : List Frame} {meth : Method} {c : Code} {g : GG} {w0 : va_W} {a : Nat → Nat} {i : Nat} {pa : Int32} {pb : Int32} {pc_ : Int32} {o : (Int32 × SX9)} (X : mX g yX9_lays cX9_lays 5 (some .int) p s m args meth c w0) :
  ∀ (xs : SX9) (H : Heap) (locs : List Loc) (ls : Array Slot), qX9_lays_15 pa pb pc_ xs = some o → mH g s w0 (wX9 g a i xs) H locs → lv_has ls 5 [(0, .ref (a i)), (1, .int pa), (2, .int pb), (3, .int pc_)] → W p l e (rM 6 141) s m args below meth c H locs 0 0 (mZ g below args s w0 (wX9 g a i o.2) (some (.int o.1))) (F0 m 15 ls []) := by
  have hx := X.1
  have hb := X.2.1
  intro xs H locs ls h hH hl
  unfold qX9_lays_15 at h
  refine lv_aload_n hx hb dX9_lays_15 rfl (lv_at hl 0 rfl) ?_
  refine lv_iconst (v := (-1 : Int32)) hx hb dX9_lays_16 (by decide) ?_
  obtain ⟨o2, ho2, h⟩ := bd_x h
  refine r_V X hH (ws1 := (wX9 g a i o2.2)) (As := [.int (-1 : Int32)]) (rest := []) (st1 := [.int o2.1]) (uX9_no (a := a) (i := i) ho2) kX9_no mX9_125 iX9_no vX9_no zX9 okX9_no ⟨Nat.le_of_ble_eq_true rfl, Nat.le_of_ble_eq_true rfl⟩ rfl rfl (q0 := 0) rfl rfl (pm_all _) (pm_all _) rfl hl.1 rfl (Nat.le_of_ble_eq_true rfl) ⟨Nat.le_refl 0, Nat.le_refl 0⟩ rfl dX9_lays_17 (fun H locs hH => ?_)
  have h := Option.some.inj h
  subst h
  exact e_i X hH dX9_lays_20
set_option maxHeartbeats 4000000 in
set_option maxRecDepth 100000 in
theorem pX9_lays_40 {p : Program} {l : Launch} {e : Env} {s : State} {m : MethodId} {args : Array Value} {below : List Frame} {meth : Method} {c : Code} {g : GG} {w0 : va_W} {a : Nat → Nat} {i : Nat} {pa : Int32} {pb : Int32} {pc_ : Int32} {o : (Int32 × SX9)} (X : mX g yX9_lays cX9_lays 5 (some .int) p s m args meth c w0) :
  ∀ (fu : Nat) (xs : SX9) (l4 : Int32) (H : Heap) (locs : List Loc) (ls : Array Slot), qX9_lays_40 pa pb pc_ fu xs l4 = some o → mH g s w0 (wX9 g a i xs) H locs → lv_has ls 5 [(0, .ref (a i)), (1, .int pa), (2, .int pb), (3, .int pc_), (4, .int l4)] → W p l e (rM 6 141) s m args below meth c H locs 0 0 (mZ g below args s w0 (wX9 g a i o.2) (some (.int o.1))) (F0 m 40 ls []) := by
  have hx := X.1
  have hb := X.2.1
  intro fu
  induction fu with
  | zero =>
    intro xs l4 H locs ls h
    unfold qX9_lays_40 at h
    cases h
  | succ fu ih =>
    intro xs l4 H locs ls h hH hl
    unfold qX9_lays_40 at h
    refine lv_iload hx hb dX9_lays_40 (lv_at hl 4 rfl) ?_
    refine lv_aload_n hx hb dX9_lays_42 rfl (lv_at hl 0 rfl) ?_
    refine f_get X hH 0 rfl rfl 0 (by decide) inX9 fX9_7 rfl dX9_lays_43 ?_
    refine lv_icmp_ge (tgt := 107) hx hb dX9_lays_46 (by decide) (fun c4 => ?_) (fun c4 => ?_)
    · have h := it_x h c4
      refine lv_aload_n hx hb dX9_lays_107 rfl (lv_at hl 0 rfl) ?_
      refine f_get X hH 0 rfl rfl 0 (by decide) inX9 fX9_7 rfl dX9_lays_108 ?_
      have h := Option.some.inj h
      subst h
      exact e_i X hH dX9_lays_111
    · have h := ie_x h c4
      refine lv_aload_n hx hb dX9_lays_49 rfl (lv_at hl 0 rfl) ?_
      refine lv_iload hx hb dX9_lays_50 (lv_at hl 4 rfl) ?_
      refine lv_iload_n hx hb dX9_lays_52 rfl (lv_at hl 2 rfl) ?_
      obtain ⟨o5, ho5, h⟩ := bd_x h
      refine r_V X hH (ws1 := (wX9 g a i o5)) (As := [.int l4, .int pb]) (rest := []) (st1 := []) (uX9_findTold (a := a) (i := i) ho5) kX9_findTold mX9_372 iX9_findTold vX9_findTold zX9 okX9_findTold ⟨Nat.le_of_ble_eq_true rfl, Nat.le_of_ble_eq_true rfl⟩ rfl rfl (q0 := 0) rfl rfl (pm_all _) (pm_all _) rfl hl.1 rfl (Nat.le_of_ble_eq_true rfl) ⟨Nat.le_refl 0, Nat.le_refl 0⟩ rfl dX9_lays_53 (fun H locs hH => ?_)
      refine lv_aload_n hx hb dX9_lays_56 rfl (lv_at hl 0 rfl) ?_
      refine lv_iload_n hx hb dX9_lays_57 rfl (lv_at hl 1 rfl) ?_
      refine lv_iload_n hx hb dX9_lays_58 rfl (lv_at hl 3 rfl) ?_
      refine lv_i2l hx hb dX9_lays_59 rfl ?_
      refine lv_iconst (v := (2 : Int32)) hx hb dX9_lays_60 (by decide) ?_
      refine lv_iload hx hb dX9_lays_61 (lv_at hl 4 rfl) ?_
      refine lv_imul hx hb dX9_lays_63 ?_
      refine lv_i2l hx hb dX9_lays_64 rfl ?_
      refine lv_ladd hx hb dX9_lays_65 ?_
      refine lv_aload_n hx hb dX9_lays_66 rfl (lv_at hl 0 rfl) ?_
      refine f_get X hH 0 rfl rfl 26 (by decide) inX9 fX9_248 rfl dX9_lays_67 ?_
      obtain ⟨o6, ho6, h⟩ := bd_x h
      refine r_V X hH (ws1 := (wX9 g a i o6.2)) (As := [.int pa, .long ((pc_.toInt64) + (((2 : Int32) * l4).toInt64)), .long (m_up o5)]) (rest := []) (st1 := [.int o6.1]) (uX9_isLaid (a := a) (i := i) ho6) kX9_isLaid mX9_375 iX9_isLaid vX9_isLaid zX9 okX9_isLaid ⟨Nat.le_of_ble_eq_true rfl, Nat.le_of_ble_eq_true rfl⟩ rfl rfl (q0 := 0) rfl rfl (pm_all _) (pm_all _) rfl hl.1 rfl (Nat.le_of_ble_eq_true rfl) ⟨Nat.le_refl 0, Nat.le_refl 0⟩ rfl dX9_lays_70 (fun H locs hH => ?_)
      refine lv_if_eq (tgt := 98) hx hb dX9_lays_73 (by decide) (fun c5 => ?_) (fun c5 => ?_)
      · have h := it_x h c5
        refine lv_bipush (v := (-13 : Int32)) hx hb dX9_lays_98 (by decide) ?_
        have h := Option.some.inj h
        subst h
        exact e_i X hH dX9_lays_100
      · have h := ie_x h c5
        refine lv_aload_n hx hb dX9_lays_76 rfl (lv_at hl 0 rfl) ?_
        refine lv_iload_n hx hb dX9_lays_77 rfl (lv_at hl 1 rfl) ?_
        refine lv_iload_n hx hb dX9_lays_78 rfl (lv_at hl 3 rfl) ?_
        refine lv_i2l hx hb dX9_lays_79 rfl ?_
        refine lv_iconst (v := (2 : Int32)) hx hb dX9_lays_80 (by decide) ?_
        refine lv_iload hx hb dX9_lays_81 (lv_at hl 4 rfl) ?_
        refine lv_imul hx hb dX9_lays_83 ?_
        refine lv_i2l hx hb dX9_lays_84 rfl ?_
        refine lv_ladd hx hb dX9_lays_85 ?_
        refine lv_lconst (v := (1 : Int64)) hx hb dX9_lays_86 (by decide) ?_
        refine lv_ladd hx hb dX9_lays_87 ?_
        refine lv_aload_n hx hb dX9_lays_88 rfl (lv_at hl 0 rfl) ?_
        refine f_get X hH 0 rfl rfl 27 (by decide) inX9 fX9_252 rfl dX9_lays_89 ?_
        obtain ⟨o7, ho7, h⟩ := bd_x h
        refine r_V X hH (ws1 := (wX9 g a i o7.2)) (As := [.int pa, .long (((pc_.toInt64) + (((2 : Int32) * l4).toInt64)) + (1 : Int64)), .long (m_down o6.2)]) (rest := []) (st1 := [.int o7.1]) (uX9_isLaid (a := a) (i := i) ho7) kX9_isLaid mX9_375 iX9_isLaid vX9_isLaid zX9 okX9_isLaid ⟨Nat.le_of_ble_eq_true rfl, Nat.le_of_ble_eq_true rfl⟩ rfl rfl (q0 := 0) rfl rfl (pm_all _) (pm_all _) rfl hl.1 rfl (Nat.le_of_ble_eq_true rfl) ⟨Nat.le_refl 0, Nat.le_refl 0⟩ rfl dX9_lays_92 (fun H locs hH => ?_)
        refine lv_if_ne (tgt := 101) hx hb dX9_lays_95 (by decide) (fun c6 => ?_) (fun c6 => ?_)
        · have h := ie_x h c6
          obtain ⟨v1, ev1, h⟩ := ltt_x h
          refine s_inc X (k := 4) (lv' := [(4, .int v1), (0, .ref (a i)), (1, .int pa), (2, .int pb), (3, .int pc_)]) hl rfl (by rw [ev1]; rfl) dX9_lays_101 (by decide) rfl (fun ls hl => ?_)
          refine lv_goto (tgt := 40) hx hb dX9_lays_104 (by decide) ?_
          exact ih o7.2 v1 H locs ls h hH (lv_sub hl [1, 2, 3, 4, 0] rfl)
        · have h := it_x h c6
          refine lv_bipush (v := (-13 : Int32)) hx hb dX9_lays_98 (by decide) ?_
          have h := Option.some.inj h
          subst h
          exact e_i X hH dX9_lays_100
set_option maxHeartbeats 4000000 in
set_option maxRecDepth 100000 in
theorem uX9_lays {l : Launch} {g : GG} {a : Nat → Nat} {i : Nat} {xs : SX9} {pa : Int32} {pb : Int32} {pc_ : Int32} {o : (Int32 × SX9)} (h : fX9_lays xs pa pb pc_ = some o) : mC l g yX9_lays cX9_lays 5 (some .int) (rM 6 141) [.ref (a i), .int pa, .int pb, .int pc_] (wX9 g a i xs) (wX9 g a i o.2) (some (.int o.1)) := by
  refine mC.ofW (by decide) (fun p e s m below meth c X hH ls _ hl => ?_) (Nat.le_of_ble_eq_true rfl)
  have hx := X.1
  have hb := X.2.1
  have hl : lv_has ls 5 [(0, .ref (a i)), (1, .int pa), (2, .int pb), (3, .int pc_)] := hl
  unfold fX9_lays at h
  suffices HH : ∀ (H : Heap) (locs : List Loc), mH g s (wX9 g a i xs) (wX9 g a i xs) H locs → W p l e (rM 6 141) s m _ below meth c H locs 0 0 (mZ g below _ s (wX9 g a i xs) (wX9 g a i o.2) (some (.int o.1))) (F0 m 0 ls []) from HH _ _ hH
  clear hH
  intro H locs hH
  refine lv_iload_n hx hb dX9_lays_0 rfl (lv_at hl 1 rfl) ?_
  obtain ⟨o1, ho1, h⟩ := bd_x h
  refine r_S X hH (ws1 := (wX9 g a i xs)) (As := [.int pa]) (rest := []) (st1 := [.int o1]) (uX9_isList  ho1) kX9_isList mX9_366 sX9_isList zX9 okX9_isList ⟨Nat.le_of_ble_eq_true rfl, Nat.le_of_ble_eq_true rfl⟩ rfl rfl (pm_none _) (pm_none _) rfl hl.1 rfl (Nat.le_of_ble_eq_true rfl) ⟨Nat.le_refl 0, Nat.le_refl 0⟩ rfl dX9_lays_1 (fun H locs hH => ?_)
  refine lv_if_eq (tgt := 15) hx hb dX9_lays_4 (by decide) (fun c1 => ?_) (fun c1 => ?_)
  · have h := it_x h c1
    exact pX9_lays_15 X  xs H locs ls h hH (lv_sub hl [0, 1, 2, 3] rfl)
  · have h := ie_x h c1
    refine lv_aload_n hx hb dX9_lays_7 rfl (lv_at hl 0 rfl) ?_
    refine lv_iload_n hx hb dX9_lays_8 rfl (lv_at hl 2 rfl) ?_
    obtain ⟨o3, ho3, h⟩ := bd_x h
    refine r_V X hH (ws1 := (wX9 g a i xs)) (As := [.int pb]) (rest := []) (st1 := [.int o3]) (uX9_isPoint (a := a) (i := i) ho3) kX9_isPoint mX9_141 iX9_isPoint vX9_isPoint zX9 okX9_isPoint ⟨Nat.le_of_ble_eq_true rfl, Nat.le_of_ble_eq_true rfl⟩ rfl rfl (q0 := 0) rfl rfl (pm_all _) (pm_all _) rfl hl.1 rfl (Nat.le_of_ble_eq_true rfl) ⟨Nat.le_refl 0, Nat.le_refl 0⟩ rfl dX9_lays_9 (fun H locs hH => ?_)
    refine lv_if_ne (tgt := 21) hx hb dX9_lays_12 (by decide) (fun c2 => ?_) (fun c2 => ?_)
    · have h := ie_x h c2
      refine lv_aload_n hx hb dX9_lays_21 rfl (lv_at hl 0 rfl) ?_
      refine f_get X hH 0 rfl rfl 43 (by decide) inX9 fX9_101 rfl dX9_lays_22 ?_
      refine lv_iload_n hx hb dX9_lays_25 rfl (lv_at hl 1 rfl) ?_
      obtain ⟨j1, ej1, hinj1, h⟩ := ga_x h
      refine a_il X hH 29 rfl hinj1 ej1 dX9_lays_26 ?_
      refine lv_if_ge (tgt := 33) hx hb dX9_lays_27 (by decide) (fun c3 => ?_) (fun c3 => ?_)
      · have h := it_x h c3
        refine lv_aload_n hx hb dX9_lays_33 rfl (lv_at hl 0 rfl) ?_
        obtain ⟨o4, ho4, h⟩ := bd_x h
        refine r_V X hH (ws1 := (wX9 g a i o4)) (As := []) (rest := []) (st1 := []) (uX9_allThere (a := a) (i := i) ho4) kX9_allThere mX9_230 iX9_allThere vX9_allThere zX9 okX9_allThere ⟨Nat.le_of_ble_eq_true rfl, Nat.le_of_ble_eq_true rfl⟩ rfl rfl (q0 := 0) rfl rfl (pm_all _) (pm_all _) rfl hl.1 rfl (Nat.le_of_ble_eq_true rfl) ⟨Nat.le_refl 0, Nat.le_refl 0⟩ rfl dX9_lays_34 (fun H locs hH => ?_)
        refine lv_iconst (v := (0 : Int32)) hx hb dX9_lays_37 (by decide) ?_
        refine s_i X (lv' := [(4, .int (0 : Int32)), (0, .ref (a i)), (1, .int pa), (2, .int pb), (3, .int pc_)]) hl rfl dX9_lays_38 (by decide) rfl (fun ls hl => ?_)
        exact pX9_lays_40 X FU o4 (0 : Int32) H locs ls h hH (lv_sub hl [1, 2, 3, 4, 0] rfl)
      · have h := ie_x h c3
        refine lv_bipush (v := (-11 : Int32)) hx hb dX9_lays_30 (by decide) ?_
        have h := Option.some.inj h
        subst h
        exact e_i X hH dX9_lays_32
    · have h := it_x h c2
      exact pX9_lays_15 X  xs H locs ls h hH (lv_sub hl [0, 1, 2, 3] rfl)

def qX9_judge_15 (pa : Int32) (pb : Int32)  (xs : SX9) : Option (Int32 × SX9) :=
  (fX9_no xs (-1 : Int32)).bind fun o2 =>
  some (o2.1, o2.2)
def qX9_judge_114 (pa : Int32) (pb : Int32) (k56 : SX9 → Int32 → Int32 → Option (Int32 × SX9)) (xs : SX9) (l3 : Int32) (l4 : Int32) (t0 : Int64) (t1 : Int64) : Option (Int32 × SX9) :=
  (if t0 = t1 then
  ltt (l4 + (1 : Int32)) fun v2 =>
  k56 xs l3 v2
  else
  some (l3, xs))
def qX9_judge_56 (pa : Int32) (pb : Int32) (k39 : SX9 → Int32 → Option (Int32 × SX9)) : Nat → SX9 → Int32 → Int32 → Option (Int32 × SX9)
  | 0, _, _, _ => none
  | fu + 1, xs, l3, l4 =>
  (if (2 : Int32) ≤ l4 then
  ltt (l3 + (1 : Int32)) fun v1 =>
  k39 xs v1
  else
  ga 3 pa fun j2 =>
  (if (((2 : Int32) * l3) + l4) < ((m_listMany xs) j2) then
  ga 60 ((((20 : Int32) * pa) + ((2 : Int32) * l3)) + l4) fun j3 =>
  (if l4 = (0 : Int32) then
  qX9_judge_114 pa pb (qX9_judge_56 pa pb k39 fu) xs l3 l4 ((m_items xs) j3) (m_up xs)
  else
  qX9_judge_114 pa pb (qX9_judge_56 pa pb k39 fu) xs l3 l4 ((m_items xs) j3) (m_down xs))
  else
  some (((100 : Int32) + l3), xs)))
def qX9_judge_39 (pa : Int32) (pb : Int32)  : Nat → SX9 → Int32 → Option (Int32 × SX9)
  | 0, _, _ => none
  | fu + 1, xs, l3 =>
  (if (m_points xs) ≤ l3 then
  some ((-9 : Int32), xs)
  else
  (fX9_findTold xs l3 pb).bind fun o5 =>
  qX9_judge_56 pa pb (qX9_judge_39 pa pb  fu) FU o5 l3 (0 : Int32))
def fX9_judge (xs : SX9) (pa : Int32) (pb : Int32) : Option (Int32 × SX9) :=
  (fX9_isList pa).bind fun o1 =>
  (if o1 = (0 : Int32) then
  qX9_judge_15 pa pb xs
  else
  (fX9_isPoint xs pb).bind fun o3 =>
  (if o3 = (0 : Int32) then
  qX9_judge_15 pa pb xs
  else
  ga 3 pa fun j1 =>
  (if (0 : Int32) ≤ ((m_listMany xs) j1) then
  (fX9_allThere xs).bind fun o4 =>
  qX9_judge_39 pa pb FU o4 (0 : Int32)
  else
  some ((-11 : Int32), xs))))
set_option maxHeartbeats 4000000 in
set_option maxRecDepth 100000 in
theorem pX9_judge_15 {p : Program} {l : Launch} {e : Env} {s : State} {m : MethodId} {args : Array Value} {below : List Frame} {meth : Method} {c : Code} {g : GG} {w0 : va_W} {a : Nat → Nat} {i : Nat} {pa : Int32} {pb : Int32} {o : (Int32 × SX9)} (X : mX g yX9_judge cX9_judge 5 (some .int) p s m args meth c w0) :
  ∀ (xs : SX9) (H : Heap) (locs : List Loc) (ls : Array Slot), qX9_judge_15 pa pb xs = some o → mH g s w0 (wX9 g a i xs) H locs → lv_has ls 5 [(0, .ref (a i)), (1, .int pa), (2, .int pb)] → W p l e (rM 6 141) s m args below meth c H locs 0 0 (mZ g below args s w0 (wX9 g a i o.2) (some (.int o.1))) (F0 m 15 ls []) := by
  have hx := X.1
  have hb := X.2.1
  intro xs H locs ls h hH hl
  unfold qX9_judge_15 at h
  refine lv_aload_n hx hb dX9_judge_15 rfl (lv_at hl 0 rfl) ?_
  refine lv_iconst (v := (-1 : Int32)) hx hb dX9_judge_16 (by decide) ?_
  obtain ⟨o2, ho2, h⟩ := bd_x h
  refine r_V X hH (ws1 := (wX9 g a i o2.2)) (As := [.int (-1 : Int32)]) (rest := []) (st1 := [.int o2.1]) (uX9_no (a := a) (i := i) ho2) kX9_no mX9_125 iX9_no vX9_no zX9 okX9_no ⟨Nat.le_of_ble_eq_true rfl, Nat.le_of_ble_eq_true rfl⟩ rfl rfl (q0 := 0) rfl rfl (pm_all _) (pm_all _) rfl hl.1 rfl (Nat.le_of_ble_eq_true rfl) ⟨Nat.le_refl 0, Nat.le_refl 0⟩ rfl dX9_judge_17 (fun H locs hH => ?_)
  have h := Option.some.inj h
  subst h
  exact e_i X hH dX9_judge_20
set_option maxHeartbeats 4000000 in
set_option maxRecDepth 100000 in
theorem pX9_judge_114 {p : Program} {l : Launch} {e : Env} {s : State} {m : MethodId} {args : Array Value} {below : List Frame} {meth : Method} {c : Code} {g : GG} {w0 : va_W} {a : Nat → Nat} {i : Nat} {pa : Int32} {pb : Int32} {o : (Int32 × SX9)} (X : mX g yX9_judge cX9_judge 5 (some .int) p s m args meth c w0)
  {k56 : SX9 → Int32 → Int32 → Option (Int32 × SX9)} (K56 : ∀ (xs : SX9) (l3 : Int32) (l4 : Int32) (H : Heap) (locs : List Loc) (ls : Array Slot), k56 xs l3 l4 = some o → mH g s w0 (wX9 g a i xs) H locs → lv_has ls 5 [(0, .ref (a i)), (1, .int pa), (2, .int pb), (3, .int l3), (4, .int l4)] → W p l e (rM 6 141) s m args below meth c H locs 0 0 (mZ g below args s w0 (wX9 g a i o.2) (some (.int o.1))) (F0 m 56 ls [])) :
  ∀ (xs : SX9) (l3 : Int32) (l4 : Int32) (t0 : Int64) (t1 : Int64) (H : Heap) (locs : List Loc) (ls : Array Slot), qX9_judge_114 pa pb k56 xs l3 l4 t0 t1 = some o → mH g s w0 (wX9 g a i xs) H locs → lv_has ls 5 [(0, .ref (a i)), (1, .int pa), (2, .int pb), (3, .int l3), (4, .int l4)] → W p l e (rM 6 141) s m args below meth c H locs 0 0 (mZ g below args s w0 (wX9 g a i o.2) (some (.int o.1))) (F0 m 114 ls [.long t1, .long t0]) := by
  have hx := X.1
  have hb := X.2.1
  intro xs l3 l4 t0 t1 H locs ls h hH hl
  unfold qX9_judge_114 at h
  refine W.lcmp hx hb dX9_judge_114 ?_
  refine lv_if_eq (tgt := 120) hx hb dX9_judge_115 (by decide) (fun c8 => ?_) (fun c8 => ?_)
  · have h := it_x h ((lg_cmp_eq t0 t1).mp c8)
    obtain ⟨v2, ev2, h⟩ := ltt_x h
    refine s_inc X (k := 4) (lv' := [(4, .int v2), (0, .ref (a i)), (1, .int pa), (2, .int pb), (3, .int l3)]) hl rfl (by rw [ev2]; rfl) dX9_judge_120 (by decide) rfl (fun ls hl => ?_)
    refine lv_goto (tgt := 56) hx hb dX9_judge_123 (by decide) ?_
    exact K56 xs l3 v2 H locs ls h hH (lv_sub hl [1, 2, 3, 4, 0] rfl)
  · have h := ie_x h (mt (lg_cmp_eq t0 t1).mpr c8)
    refine lv_iload_n hx hb dX9_judge_118 rfl (lv_at hl 3 rfl) ?_
    have h := Option.some.inj h
    subst h
    exact e_i X hH dX9_judge_119
set_option maxHeartbeats 4000000 in
set_option maxRecDepth 100000 in
theorem pX9_judge_56 {p : Program} {l : Launch} {e : Env} {s : State} {m : MethodId} {args : Array Value} {below : List Frame} {meth : Method} {c : Code} {g : GG} {w0 : va_W} {a : Nat → Nat} {i : Nat} {pa : Int32} {pb : Int32} {o : (Int32 × SX9)} (X : mX g yX9_judge cX9_judge 5 (some .int) p s m args meth c w0)
  {k39 : SX9 → Int32 → Option (Int32 × SX9)} (K39 : ∀ (xs : SX9) (l3 : Int32) (H : Heap) (locs : List Loc) (ls : Array Slot), k39 xs l3 = some o → mH g s w0 (wX9 g a i xs) H locs → lv_has ls 5 [(0, .ref (a i)), (1, .int pa), (2, .int pb), (3, .int l3)] → W p l e (rM 6 141) s m args below meth c H locs 0 0 (mZ g below args s w0 (wX9 g a i o.2) (some (.int o.1))) (F0 m 39 ls [])) :
  ∀ (fu : Nat) (xs : SX9) (l3 : Int32) (l4 : Int32) (H : Heap) (locs : List Loc) (ls : Array Slot), qX9_judge_56 pa pb k39 fu xs l3 l4 = some o → mH g s w0 (wX9 g a i xs) H locs → lv_has ls 5 [(0, .ref (a i)), (1, .int pa), (2, .int pb), (3, .int l3), (4, .int l4)] → W p l e (rM 6 141) s m args below meth c H locs 0 0 (mZ g below args s w0 (wX9 g a i o.2) (some (.int o.1))) (F0 m 56 ls []) := by
  have hx := X.1
  have hb := X.2.1
  intro fu
  induction fu with
  | zero =>
    intro xs l3 l4 H locs ls h
    unfold qX9_judge_56 at h
    cases h
  | succ fu ih =>
    intro xs l3 l4 H locs ls h hH hl
    unfold qX9_judge_56 at h
    refine lv_iload hx hb dX9_judge_56 (lv_at hl 4 rfl) ?_
    refine lv_iconst (v := (2 : Int32)) hx hb dX9_judge_58 (by decide) ?_
    refine lv_icmp_ge (tgt := 126) hx hb dX9_judge_59 (by decide) (fun c5 => ?_) (fun c5 => ?_)
    · have h := it_x h c5
      obtain ⟨v1, ev1, h⟩ := ltt_x h
      refine s_inc X (k := 3) (lv' := [(3, .int v1), (0, .ref (a i)), (1, .int pa), (2, .int pb), (4, .int l4)]) hl rfl (by rw [ev1]; rfl) dX9_judge_126 (by decide) rfl (fun ls hl => ?_)
      refine lv_goto (tgt := 39) hx hb dX9_judge_129 (by decide) ?_
      exact K39 xs v1 H locs ls h hH (lv_sub hl [1, 2, 3, 0] rfl)
    · have h := ie_x h c5
      refine lv_iconst (v := (2 : Int32)) hx hb dX9_judge_62 (by decide) ?_
      refine lv_iload_n hx hb dX9_judge_63 rfl (lv_at hl 3 rfl) ?_
      refine lv_imul hx hb dX9_judge_64 ?_
      refine lv_iload hx hb dX9_judge_65 (lv_at hl 4 rfl) ?_
      refine lv_iadd hx hb dX9_judge_67 ?_
      refine lv_aload_n hx hb dX9_judge_68 rfl (lv_at hl 0 rfl) ?_
      refine f_get X hH 0 rfl rfl 43 (by decide) inX9 fX9_101 rfl dX9_judge_69 ?_
      refine lv_iload_n hx hb dX9_judge_72 rfl (lv_at hl 1 rfl) ?_
      obtain ⟨j2, ej2, hinj2, h⟩ := ga_x h
      refine a_il X hH 29 rfl hinj2 ej2 dX9_judge_73 ?_
      refine lv_icmp_lt (tgt := 82) hx hb dX9_judge_74 (by decide) (fun c6 => ?_) (fun c6 => ?_)
      · have h := it_x h c6
        refine lv_aload_n hx hb dX9_judge_82 rfl (lv_at hl 0 rfl) ?_
        refine f_get X hH 0 rfl rfl 42 (by decide) inX9 fX9_98 rfl dX9_judge_83 ?_
        refine lv_bipush (v := (20 : Int32)) hx hb dX9_judge_86 (by decide) ?_
        refine lv_iload_n hx hb dX9_judge_88 rfl (lv_at hl 1 rfl) ?_
        refine lv_imul hx hb dX9_judge_89 ?_
        refine lv_iconst (v := (2 : Int32)) hx hb dX9_judge_90 (by decide) ?_
        refine lv_iload_n hx hb dX9_judge_91 rfl (lv_at hl 3 rfl) ?_
        refine lv_imul hx hb dX9_judge_92 ?_
        refine lv_iadd hx hb dX9_judge_93 ?_
        refine lv_iload hx hb dX9_judge_94 (lv_at hl 4 rfl) ?_
        refine lv_iadd hx hb dX9_judge_96 ?_
        obtain ⟨j3, ej3, hinj3, h⟩ := ga_x h
        refine a_ll X hH 28 rfl hinj3 ej3 dX9_judge_97 ?_
        refine lv_iload hx hb dX9_judge_98 (lv_at hl 4 rfl) ?_
        refine lv_if_ne (tgt := 110) hx hb dX9_judge_100 (by decide) (fun c7 => ?_) (fun c7 => ?_)
        · have h := ie_x h c7
          refine lv_aload_n hx hb dX9_judge_110 rfl (lv_at hl 0 rfl) ?_
          refine f_get X hH 0 rfl rfl 27 (by decide) inX9 fX9_252 rfl dX9_judge_111 ?_
          exact pX9_judge_114 X ih xs l3 l4 ((m_items xs) j3) (m_down xs) H locs ls h hH (lv_sub hl [0, 1, 2, 3, 4] rfl)
        · have h := it_x h c7
          refine lv_aload_n hx hb dX9_judge_103 rfl (lv_at hl 0 rfl) ?_
          refine f_get X hH 0 rfl rfl 26 (by decide) inX9 fX9_248 rfl dX9_judge_104 ?_
          refine lv_goto (tgt := 114) hx hb dX9_judge_107 (by decide) ?_
          exact pX9_judge_114 X ih xs l3 l4 ((m_items xs) j3) (m_up xs) H locs ls h hH (lv_sub hl [0, 1, 2, 3, 4] rfl)
      · have h := ie_x h c6
        refine lv_bipush (v := (100 : Int32)) hx hb dX9_judge_77 (by decide) ?_
        refine lv_iload_n hx hb dX9_judge_79 rfl (lv_at hl 3 rfl) ?_
        refine lv_iadd hx hb dX9_judge_80 ?_
        have h := Option.some.inj h
        subst h
        exact e_i X hH dX9_judge_81
set_option maxHeartbeats 4000000 in
set_option maxRecDepth 100000 in
theorem pX9_judge_39 {p : Program} {l : Launch} {e : Env} {s : State} {m : MethodId} {args : Array Value} {below : List Frame} {meth : Method} {c : Code} {g : GG} {w0 : va_W} {a : Nat → Nat} {i : Nat} {pa : Int32} {pb : Int32} {o : (Int32 × SX9)} (X : mX g yX9_judge cX9_judge 5 (some .int) p s m args meth c w0) :
  ∀ (fu : Nat) (xs : SX9) (l3 : Int32) (H : Heap) (locs : List Loc) (ls : Array Slot), qX9_judge_39 pa pb fu xs l3 = some o → mH g s w0 (wX9 g a i xs) H locs → lv_has ls 5 [(0, .ref (a i)), (1, .int pa), (2, .int pb), (3, .int l3)] → W p l e (rM 6 141) s m args below meth c H locs 0 0 (mZ g below args s w0 (wX9 g a i o.2) (some (.int o.1))) (F0 m 39 ls []) := by
  have hx := X.1
  have hb := X.2.1
  intro fu
  induction fu with
  | zero =>
    intro xs l3 H locs ls h
    unfold qX9_judge_39 at h
    cases h
  | succ fu ih =>
    intro xs l3 H locs ls h hH hl
    unfold qX9_judge_39 at h
    refine lv_iload_n hx hb dX9_judge_39 rfl (lv_at hl 3 rfl) ?_
    refine lv_aload_n hx hb dX9_judge_40 rfl (lv_at hl 0 rfl) ?_
    refine f_get X hH 0 rfl rfl 0 (by decide) inX9 fX9_7 rfl dX9_judge_41 ?_
    refine lv_icmp_ge (tgt := 132) hx hb dX9_judge_44 (by decide) (fun c4 => ?_) (fun c4 => ?_)
    · have h := it_x h c4
      refine lv_bipush (v := (-9 : Int32)) hx hb dX9_judge_132 (by decide) ?_
      have h := Option.some.inj h
      subst h
      exact e_i X hH dX9_judge_134
    · have h := ie_x h c4
      refine lv_aload_n hx hb dX9_judge_47 rfl (lv_at hl 0 rfl) ?_
      refine lv_iload_n hx hb dX9_judge_48 rfl (lv_at hl 3 rfl) ?_
      refine lv_iload_n hx hb dX9_judge_49 rfl (lv_at hl 2 rfl) ?_
      obtain ⟨o5, ho5, h⟩ := bd_x h
      refine r_V X hH (ws1 := (wX9 g a i o5)) (As := [.int l3, .int pb]) (rest := []) (st1 := []) (uX9_findTold (a := a) (i := i) ho5) kX9_findTold mX9_372 iX9_findTold vX9_findTold zX9 okX9_findTold ⟨Nat.le_of_ble_eq_true rfl, Nat.le_of_ble_eq_true rfl⟩ rfl rfl (q0 := 0) rfl rfl (pm_all _) (pm_all _) rfl hl.1 rfl (Nat.le_of_ble_eq_true rfl) ⟨Nat.le_refl 0, Nat.le_refl 0⟩ rfl dX9_judge_50 (fun H locs hH => ?_)
      refine lv_iconst (v := (0 : Int32)) hx hb dX9_judge_53 (by decide) ?_
      refine s_i X (lv' := [(4, .int (0 : Int32)), (0, .ref (a i)), (1, .int pa), (2, .int pb), (3, .int l3)]) hl rfl dX9_judge_54 (by decide) rfl (fun ls hl => ?_)
      exact pX9_judge_56 X ih FU o5 l3 (0 : Int32) H locs ls h hH (lv_sub hl [1, 2, 3, 4, 0] rfl)
set_option maxHeartbeats 4000000 in
set_option maxRecDepth 100000 in
theorem uX9_judge {l : Launch} {g : GG} {a : Nat → Nat} {i : Nat} {xs : SX9} {pa : Int32} {pb : Int32} {o : (Int32 × SX9)} (h : fX9_judge xs pa pb = some o) : mC l g yX9_judge cX9_judge 5 (some .int) (rM 6 141) [.ref (a i), .int pa, .int pb] (wX9 g a i xs) (wX9 g a i o.2) (some (.int o.1)) := by
  refine mC.ofW (by decide) (fun p e s m below meth c X hH ls _ hl => ?_) (Nat.le_of_ble_eq_true rfl)
  have hx := X.1
  have hb := X.2.1
  have hl : lv_has ls 5 [(0, .ref (a i)), (1, .int pa), (2, .int pb)] := hl
  unfold fX9_judge at h
  suffices HH : ∀ (H : Heap) (locs : List Loc), mH g s (wX9 g a i xs) (wX9 g a i xs) H locs → W p l e (rM 6 141) s m _ below meth c H locs 0 0 (mZ g below _ s (wX9 g a i xs) (wX9 g a i o.2) (some (.int o.1))) (F0 m 0 ls []) from HH _ _ hH
  clear hH
  intro H locs hH
  refine lv_iload_n hx hb dX9_judge_0 rfl (lv_at hl 1 rfl) ?_
  obtain ⟨o1, ho1, h⟩ := bd_x h
  refine r_S X hH (ws1 := (wX9 g a i xs)) (As := [.int pa]) (rest := []) (st1 := [.int o1]) (uX9_isList  ho1) kX9_isList mX9_366 sX9_isList zX9 okX9_isList ⟨Nat.le_of_ble_eq_true rfl, Nat.le_of_ble_eq_true rfl⟩ rfl rfl (pm_none _) (pm_none _) rfl hl.1 rfl (Nat.le_of_ble_eq_true rfl) ⟨Nat.le_refl 0, Nat.le_refl 0⟩ rfl dX9_judge_1 (fun H locs hH => ?_)
  refine lv_if_eq (tgt := 15) hx hb dX9_judge_4 (by decide) (fun c1 => ?_) (fun c1 => ?_)
  · have h := it_x h c1
    exact pX9_judge_15 X  xs H locs ls h hH (lv_sub hl [0, 1, 2] rfl)
  · have h := ie_x h c1
    refine lv_aload_n hx hb dX9_judge_7 rfl (lv_at hl 0 rfl) ?_
    refine lv_iload_n hx hb dX9_judge_8 rfl (lv_at hl 2 rfl) ?_
    obtain ⟨o3, ho3, h⟩ := bd_x h
    refine r_V X hH (ws1 := (wX9 g a i xs)) (As := [.int pb]) (rest := []) (st1 := [.int o3]) (uX9_isPoint (a := a) (i := i) ho3) kX9_isPoint mX9_141 iX9_isPoint vX9_isPoint zX9 okX9_isPoint ⟨Nat.le_of_ble_eq_true rfl, Nat.le_of_ble_eq_true rfl⟩ rfl rfl (q0 := 0) rfl rfl (pm_all _) (pm_all _) rfl hl.1 rfl (Nat.le_of_ble_eq_true rfl) ⟨Nat.le_refl 0, Nat.le_refl 0⟩ rfl dX9_judge_9 (fun H locs hH => ?_)
    refine lv_if_ne (tgt := 21) hx hb dX9_judge_12 (by decide) (fun c2 => ?_) (fun c2 => ?_)
    · have h := ie_x h c2
      refine lv_aload_n hx hb dX9_judge_21 rfl (lv_at hl 0 rfl) ?_
      refine f_get X hH 0 rfl rfl 43 (by decide) inX9 fX9_101 rfl dX9_judge_22 ?_
      refine lv_iload_n hx hb dX9_judge_25 rfl (lv_at hl 1 rfl) ?_
      obtain ⟨j1, ej1, hinj1, h⟩ := ga_x h
      refine a_il X hH 29 rfl hinj1 ej1 dX9_judge_26 ?_
      refine lv_if_ge (tgt := 33) hx hb dX9_judge_27 (by decide) (fun c3 => ?_) (fun c3 => ?_)
      · have h := it_x h c3
        refine lv_aload_n hx hb dX9_judge_33 rfl (lv_at hl 0 rfl) ?_
        obtain ⟨o4, ho4, h⟩ := bd_x h
        refine r_V X hH (ws1 := (wX9 g a i o4)) (As := []) (rest := []) (st1 := []) (uX9_allThere (a := a) (i := i) ho4) kX9_allThere mX9_230 iX9_allThere vX9_allThere zX9 okX9_allThere ⟨Nat.le_of_ble_eq_true rfl, Nat.le_of_ble_eq_true rfl⟩ rfl rfl (q0 := 0) rfl rfl (pm_all _) (pm_all _) rfl hl.1 rfl (Nat.le_of_ble_eq_true rfl) ⟨Nat.le_refl 0, Nat.le_refl 0⟩ rfl dX9_judge_34 (fun H locs hH => ?_)
        refine lv_iconst (v := (0 : Int32)) hx hb dX9_judge_37 (by decide) ?_
        refine s_in X (lv' := [(3, .int (0 : Int32)), (0, .ref (a i)), (1, .int pa), (2, .int pb)]) hl rfl dX9_judge_38 rfl (by decide) rfl (fun ls hl => ?_)
        exact pX9_judge_39 X FU o4 (0 : Int32) H locs ls h hH (lv_sub hl [1, 2, 3, 0] rfl)
      · have h := ie_x h c3
        refine lv_bipush (v := (-11 : Int32)) hx hb dX9_judge_30 (by decide) ?_
        have h := Option.some.inj h
        subst h
        exact e_i X hH dX9_judge_32
    · have h := it_x h c2
      exact pX9_judge_15 X  xs H locs ls h hH (lv_sub hl [0, 1, 2] rfl)

def fX9_isSlot (pa : Int32) : Option Int32 :=
  (fX9_isIn (pa.toInt64) (0 : Int64) (2 : Int64)).bind fun o1 =>
  gb o1 (some o1)
set_option maxHeartbeats 4000000 in
set_option maxRecDepth 100000 in
theorem uX9_isSlot {l : Launch} {g : GG}  {pa : Int32} {o : Int32} (h : fX9_isSlot pa = some o) : mC l g yX9_isSlot cX9_isSlot 1 (some .boolean) (rM 1 25) [.int pa] [] [] (some (.int o)) := by
  refine mC.ofW (by decide) (fun p e s m below meth c X hH ls _ hl => ?_) (Nat.le_of_ble_eq_true rfl)
  have hx := X.1
  have hb := X.2.1
  have hl : lv_has ls 1 [(0, .int pa)] := hl
  unfold fX9_isSlot at h
  suffices HH : ∀ (H : Heap) (locs : List Loc), mH g s [] [] H locs → W p l e (rM 1 25) s m _ below meth c H locs 0 0 (mZ g below _ s [] [] (some (.int o))) (F0 m 0 ls []) from HH _ _ hH
  clear hH
  intro H locs hH
  refine lv_iload_n hx hb dX9_isSlot_0 rfl (lv_at hl 0 rfl) ?_
  refine lv_i2l hx hb dX9_isSlot_1 rfl ?_
  refine lv_lconst (v := (0 : Int64)) hx hb dX9_isSlot_2 (by decide) ?_
  refine lv_ldc2 hx hb X.2.2.2.2.1 (X.2.2.2.2.2.1 _ nX9_364) dX9_isSlot_3 ?_
  obtain ⟨o1, ho1, h⟩ := bd_x h
  refine r_S X hH (ws1 := []) (As := [.long (pa.toInt64), .long (0 : Int64), .long (2 : Int64)]) (rest := []) (st1 := [.int o1]) (uX9_isIn  ho1) kX9_isIn mX9_116 sX9_isIn zX9 okX9_isIn ⟨Nat.le_of_ble_eq_true rfl, Nat.le_of_ble_eq_true rfl⟩ rfl rfl (pm_none _) (pm_none _) rfl hl.1 rfl (Nat.le_of_ble_eq_true rfl) ⟨Nat.le_refl 0, Nat.le_refl 0⟩ rfl dX9_isSlot_6 (fun H locs hH => ?_)
  obtain ⟨z1, h⟩ := gb_x h
  have h := Option.some.inj h
  subst h
  exact e_z X hH z1 dX9_isSlot_9

def qX9_slot_69 (pa : Int32) (pb : Int32) (pc_ : Int32)  : Nat → SX9 → Int32 → Option (Int32 × SX9)
  | 0, _, _ => none
  | fu + 1, xs, l4 =>
  (if (9 : Int32) ≤ l4 then
  some ((1 : Int32), xs)
  else
  ga 27 (((9 : Int32) * pa) + l4) fun j3 =>
  ltt ((m_lies_s xs (upd (m_lies xs) j3 (-1 : Int32)))) fun xs3 =>
  ltt (l4 + (1 : Int32)) fun v1 =>
  qX9_slot_69 pa pb pc_  fu xs3 v1)
def fX9_slot (xs : SX9) (pa : Int32) (pb : Int32) (pc_ : Int32) : Option (Int32 × SX9) :=
  (fX9_isSlot pa).bind fun o1 =>
  (if o1 = (0 : Int32) then
  (fX9_no xs (-1 : Int32)).bind fun o5 =>
  some (o5.1, o5.2)
  else
  (fX9_isIn (pb.toInt64) (0 : Int64) (5 : Int64)).bind fun o2 =>
  (if o2 = (0 : Int32) then
  (fX9_no xs (-2 : Int32)).bind fun o4 =>
  some (o4.1, o4.2)
  else
  (if pc_ ≤ (9 : Int32) then
  (if (0 : Int32) ≤ pc_ then
  ga 3 pa fun j1 =>
  ltt ((m_slotKind_s xs (upd (m_slotKind xs) j1 pb))) fun xs1 =>
  ga 3 pa fun j2 =>
  ltt ((m_slotMany_s xs1 (upd (m_slotMany xs1) j2 pc_))) fun xs2 =>
  qX9_slot_69 pa pb pc_ FU xs2 (0 : Int32)
  else
  some ((-14 : Int32), xs))
  else
  (fX9_no xs (-6 : Int32)).bind fun o3 =>
  some (o3.1, o3.2))))
set_option maxHeartbeats 4000000 in
set_option maxRecDepth 100000 in
theorem pX9_slot_69 {p : Program} {l : Launch} {e : Env} {s : State} {m : MethodId} {args : Array Value} {below : List Frame} {meth : Method} {c : Code} {g : GG} {w0 : va_W} {a : Nat → Nat} {i : Nat} {pa : Int32} {pb : Int32} {pc_ : Int32} {o : (Int32 × SX9)} (X : mX g yX9_slot cX9_slot 5 (some .int) p s m args meth c w0) :
  ∀ (fu : Nat) (xs : SX9) (l4 : Int32) (H : Heap) (locs : List Loc) (ls : Array Slot), qX9_slot_69 pa pb pc_ fu xs l4 = some o → mH g s w0 (wX9 g a i xs) H locs → lv_has ls 5 [(0, .ref (a i)), (1, .int pa), (2, .int pb), (3, .int pc_), (4, .int l4)] → W p l e (rM 2 45) s m args below meth c H locs 0 0 (mZ g below args s w0 (wX9 g a i o.2) (some (.int o.1))) (F0 m 69 ls []) := by
  have hx := X.1
  have hb := X.2.1
  intro fu
  induction fu with
  | zero =>
    intro xs l4 H locs ls h
    unfold qX9_slot_69 at h
    cases h
  | succ fu ih =>
    intro xs l4 H locs ls h hH hl
    unfold qX9_slot_69 at h
    refine lv_iload hx hb dX9_slot_69 (lv_at hl 4 rfl) ?_
    refine lv_bipush (v := (9 : Int32)) hx hb dX9_slot_71 (by decide) ?_
    refine lv_icmp_ge (tgt := 95) hx hb dX9_slot_73 (by decide) (fun c5 => ?_) (fun c5 => ?_)
    · have h := it_x h c5
      refine lv_iconst (v := (1 : Int32)) hx hb dX9_slot_95 (by decide) ?_
      have h := Option.some.inj h
      subst h
      exact e_i X hH dX9_slot_96
    · have h := ie_x h c5
      refine lv_aload_n hx hb dX9_slot_76 rfl (lv_at hl 0 rfl) ?_
      refine f_get X hH 0 rfl rfl 46 (by decide) inX9 fX9_110 rfl dX9_slot_77 ?_
      refine lv_bipush (v := (9 : Int32)) hx hb dX9_slot_80 (by decide) ?_
      refine lv_iload_n hx hb dX9_slot_82 rfl (lv_at hl 1 rfl) ?_
      refine lv_imul hx hb dX9_slot_83 ?_
      refine lv_iload hx hb dX9_slot_84 (lv_at hl 4 rfl) ?_
      refine lv_iadd hx hb dX9_slot_86 ?_
      refine lv_iconst (v := (-1 : Int32)) hx hb dX9_slot_87 (by decide) ?_
      obtain ⟨j3, ej3, hinj3, h⟩ := ga_x h
      obtain ⟨xs3, exs3, h⟩ := ltt_x h
      refine a_is X hH (ws1 := (wX9 g a i xs3)) 32 rfl hinj3 ej3 (by rw [exs3]; rfl) dX9_slot_88 (fun H locs hH => ?_)
      obtain ⟨v1, ev1, h⟩ := ltt_x h
      refine s_inc X (k := 4) (lv' := [(4, .int v1), (0, .ref (a i)), (1, .int pa), (2, .int pb), (3, .int pc_)]) hl rfl (by rw [ev1]; rfl) dX9_slot_89 (by decide) rfl (fun ls hl => ?_)
      refine lv_goto (tgt := 69) hx hb dX9_slot_92 (by decide) ?_
      exact ih xs3 v1 H locs ls h hH (lv_sub hl [1, 2, 3, 4, 0] rfl)
set_option maxHeartbeats 4000000 in
set_option maxRecDepth 100000 in
theorem uX9_slot {l : Launch} {g : GG} {a : Nat → Nat} {i : Nat} {xs : SX9} {pa : Int32} {pb : Int32} {pc_ : Int32} {o : (Int32 × SX9)} (h : fX9_slot xs pa pb pc_ = some o) : mC l g yX9_slot cX9_slot 5 (some .int) (rM 2 45) [.ref (a i), .int pa, .int pb, .int pc_] (wX9 g a i xs) (wX9 g a i o.2) (some (.int o.1)) := by
  refine mC.ofW (by decide) (fun p e s m below meth c X hH ls _ hl => ?_) (Nat.le_of_ble_eq_true rfl)
  have hx := X.1
  have hb := X.2.1
  have hl : lv_has ls 5 [(0, .ref (a i)), (1, .int pa), (2, .int pb), (3, .int pc_)] := hl
  unfold fX9_slot at h
  suffices HH : ∀ (H : Heap) (locs : List Loc), mH g s (wX9 g a i xs) (wX9 g a i xs) H locs → W p l e (rM 2 45) s m _ below meth c H locs 0 0 (mZ g below _ s (wX9 g a i xs) (wX9 g a i o.2) (some (.int o.1))) (F0 m 0 ls []) from HH _ _ hH
  clear hH
  intro H locs hH
  refine lv_iload_n hx hb dX9_slot_0 rfl (lv_at hl 1 rfl) ?_
  obtain ⟨o1, ho1, h⟩ := bd_x h
  refine r_S X hH (ws1 := (wX9 g a i xs)) (As := [.int pa]) (rest := []) (st1 := [.int o1]) (uX9_isSlot  ho1) kX9_isSlot mX9_379 sX9_isSlot zX9 okX9_isSlot ⟨Nat.le_of_ble_eq_true rfl, Nat.le_of_ble_eq_true rfl⟩ rfl rfl (pm_none _) (pm_none _) rfl hl.1 rfl (Nat.le_of_ble_eq_true rfl) ⟨Nat.le_refl 0, Nat.le_refl 0⟩ rfl dX9_slot_1 (fun H locs hH => ?_)
  refine lv_if_ne (tgt := 13) hx hb dX9_slot_4 (by decide) (fun c1 => ?_) (fun c1 => ?_)
  · have h := ie_x h c1
    refine lv_iload_n hx hb dX9_slot_13 rfl (lv_at hl 2 rfl) ?_
    refine lv_i2l hx hb dX9_slot_14 rfl ?_
    refine lv_lconst (v := (0 : Int64)) hx hb dX9_slot_15 (by decide) ?_
    refine lv_ldc2 hx hb X.2.2.2.2.1 (X.2.2.2.2.2.1 _ nX9_148) dX9_slot_16 ?_
    obtain ⟨o2, ho2, h⟩ := bd_x h
    refine r_S X hH (ws1 := (wX9 g a i xs)) (As := [.long (pb.toInt64), .long (0 : Int64), .long (5 : Int64)]) (rest := []) (st1 := [.int o2]) (uX9_isIn  ho2) kX9_isIn mX9_116 sX9_isIn zX9 okX9_isIn ⟨Nat.le_of_ble_eq_true rfl, Nat.le_of_ble_eq_true rfl⟩ rfl rfl (pm_none _) (pm_none _) rfl hl.1 rfl (Nat.le_of_ble_eq_true rfl) ⟨Nat.le_refl 0, Nat.le_refl 0⟩ rfl dX9_slot_19 (fun H locs hH => ?_)
    refine lv_if_ne (tgt := 32) hx hb dX9_slot_22 (by decide) (fun c2 => ?_) (fun c2 => ?_)
    · have h := ie_x h c2
      refine lv_iload_n hx hb dX9_slot_32 rfl (lv_at hl 3 rfl) ?_
      refine lv_bipush (v := (9 : Int32)) hx hb dX9_slot_33 (by decide) ?_
      refine lv_icmp_le (tgt := 45) hx hb dX9_slot_35 (by decide) (fun c3 => ?_) (fun c3 => ?_)
      · have h := it_x h c3
        refine lv_iload_n hx hb dX9_slot_45 rfl (lv_at hl 3 rfl) ?_
        refine lv_if_ge (tgt := 52) hx hb dX9_slot_46 (by decide) (fun c4 => ?_) (fun c4 => ?_)
        · have h := it_x h c4
          refine lv_aload_n hx hb dX9_slot_52 rfl (lv_at hl 0 rfl) ?_
          refine f_get X hH 0 rfl rfl 44 (by decide) inX9 fX9_104 rfl dX9_slot_53 ?_
          refine lv_iload_n hx hb dX9_slot_56 rfl (lv_at hl 1 rfl) ?_
          refine lv_iload_n hx hb dX9_slot_57 rfl (lv_at hl 2 rfl) ?_
          obtain ⟨j1, ej1, hinj1, h⟩ := ga_x h
          obtain ⟨xs1, exs1, h⟩ := ltt_x h
          refine a_is X hH (ws1 := (wX9 g a i xs1)) 30 rfl hinj1 ej1 (by rw [exs1]; rfl) dX9_slot_58 (fun H locs hH => ?_)
          refine lv_aload_n hx hb dX9_slot_59 rfl (lv_at hl 0 rfl) ?_
          refine f_get X hH 0 rfl rfl 45 (by decide) inX9 fX9_107 rfl dX9_slot_60 ?_
          refine lv_iload_n hx hb dX9_slot_63 rfl (lv_at hl 1 rfl) ?_
          refine lv_iload_n hx hb dX9_slot_64 rfl (lv_at hl 3 rfl) ?_
          obtain ⟨j2, ej2, hinj2, h⟩ := ga_x h
          obtain ⟨xs2, exs2, h⟩ := ltt_x h
          refine a_is X hH (ws1 := (wX9 g a i xs2)) 31 rfl hinj2 ej2 (by rw [exs2]; rfl) dX9_slot_65 (fun H locs hH => ?_)
          refine lv_iconst (v := (0 : Int32)) hx hb dX9_slot_66 (by decide) ?_
          refine s_i X (lv' := [(4, .int (0 : Int32)), (0, .ref (a i)), (1, .int pa), (2, .int pb), (3, .int pc_)]) hl rfl dX9_slot_67 (by decide) rfl (fun ls hl => ?_)
          exact pX9_slot_69 X FU xs2 (0 : Int32) H locs ls h hH (lv_sub hl [1, 2, 3, 4, 0] rfl)
        · have h := ie_x h c4
          refine lv_bipush (v := (-14 : Int32)) hx hb dX9_slot_49 (by decide) ?_
          have h := Option.some.inj h
          subst h
          exact e_i X hH dX9_slot_51
      · have h := ie_x h c3
        refine lv_aload_n hx hb dX9_slot_38 rfl (lv_at hl 0 rfl) ?_
        refine lv_bipush (v := (-6 : Int32)) hx hb dX9_slot_39 (by decide) ?_
        obtain ⟨o3, ho3, h⟩ := bd_x h
        refine r_V X hH (ws1 := (wX9 g a i o3.2)) (As := [.int (-6 : Int32)]) (rest := []) (st1 := [.int o3.1]) (uX9_no (a := a) (i := i) ho3) kX9_no mX9_125 iX9_no vX9_no zX9 okX9_no ⟨Nat.le_of_ble_eq_true rfl, Nat.le_of_ble_eq_true rfl⟩ rfl rfl (q0 := 0) rfl rfl (pm_all _) (pm_all _) rfl hl.1 rfl (Nat.le_of_ble_eq_true rfl) ⟨Nat.le_refl 0, Nat.le_refl 0⟩ rfl dX9_slot_41 (fun H locs hH => ?_)
        have h := Option.some.inj h
        subst h
        exact e_i X hH dX9_slot_44
    · have h := it_x h c2
      refine lv_aload_n hx hb dX9_slot_25 rfl (lv_at hl 0 rfl) ?_
      refine lv_bipush (v := (-2 : Int32)) hx hb dX9_slot_26 (by decide) ?_
      obtain ⟨o4, ho4, h⟩ := bd_x h
      refine r_V X hH (ws1 := (wX9 g a i o4.2)) (As := [.int (-2 : Int32)]) (rest := []) (st1 := [.int o4.1]) (uX9_no (a := a) (i := i) ho4) kX9_no mX9_125 iX9_no vX9_no zX9 okX9_no ⟨Nat.le_of_ble_eq_true rfl, Nat.le_of_ble_eq_true rfl⟩ rfl rfl (q0 := 0) rfl rfl (pm_all _) (pm_all _) rfl hl.1 rfl (Nat.le_of_ble_eq_true rfl) ⟨Nat.le_refl 0, Nat.le_refl 0⟩ rfl dX9_slot_28 (fun H locs hH => ?_)
      have h := Option.some.inj h
      subst h
      exact e_i X hH dX9_slot_31
  · have h := it_x h c1
    refine lv_aload_n hx hb dX9_slot_7 rfl (lv_at hl 0 rfl) ?_
    refine lv_iconst (v := (-1 : Int32)) hx hb dX9_slot_8 (by decide) ?_
    obtain ⟨o5, ho5, h⟩ := bd_x h
    refine r_V X hH (ws1 := (wX9 g a i o5.2)) (As := [.int (-1 : Int32)]) (rest := []) (st1 := [.int o5.1]) (uX9_no (a := a) (i := i) ho5) kX9_no mX9_125 iX9_no vX9_no zX9 okX9_no ⟨Nat.le_of_ble_eq_true rfl, Nat.le_of_ble_eq_true rfl⟩ rfl rfl (q0 := 0) rfl rfl (pm_all _) (pm_all _) rfl hl.1 rfl (Nat.le_of_ble_eq_true rfl) ⟨Nat.le_refl 0, Nat.le_refl 0⟩ rfl dX9_slot_9 (fun H locs hH => ?_)
    have h := Option.some.inj h
    subst h
    exact e_i X hH dX9_slot_12

def qX9_isUnder_29 (pa : Int32) (pb : Int32)   : Option Int32 :=
  some (1 : Int32)
def qX9_isUnder_19 (pa : Int32) (pb : Int32) (k29 : Option Int32)  : Option Int32 :=
  (if pb = (2 : Int32) then
  (if pa = (3 : Int32) then
  k29
  else
  some (0 : Int32))
  else
  some (0 : Int32))
def fX9_isUnder (pa : Int32) (pb : Int32) : Option Int32 :=
  (if pb = (0 : Int32) then
  qX9_isUnder_29 pa pb 
  else
  (if pa = pb then
  qX9_isUnder_29 pa pb 
  else
  (if pb = (1 : Int32) then
  (if pa = (4 : Int32) then
  qX9_isUnder_29 pa pb 
  else
  qX9_isUnder_19 pa pb (qX9_isUnder_29 pa pb) )
  else
  qX9_isUnder_19 pa pb (qX9_isUnder_29 pa pb) )))
set_option maxHeartbeats 4000000 in
set_option maxRecDepth 100000 in
theorem pX9_isUnder_29 {p : Program} {l : Launch} {e : Env} {s : State} {m : MethodId} {args : Array Value} {below : List Frame} {meth : Method} {c : Code} {g : GG} {w0 : va_W}  {pa : Int32} {pb : Int32} {o : Int32} (X : mX g yX9_isUnder cX9_isUnder 2 (some .boolean) p s m args meth c w0) :
  ∀  (H : Heap) (locs : List Loc) (ls : Array Slot), qX9_isUnder_29 pa pb = some o → mH g s w0 [] H locs → lv_has ls 2 [(0, .int pa), (1, .int pb)] → W p l e (rM 0 0) s m args below meth c H locs 0 0 (mZ g below args s w0 [] (some (.int o))) (F0 m 29 ls []) := by
  have hx := X.1
  have hb := X.2.1
  intro  H locs ls h hH hl
  unfold qX9_isUnder_29 at h
  refine lv_iconst (v := (1 : Int32)) hx hb dX9_isUnder_29 (by decide) ?_
  refine lv_goto (tgt := 34) hx hb dX9_isUnder_30 (by decide) ?_
  have h := Option.some.inj h
  subst h
  exact e_z X hH (Or.inr rfl) dX9_isUnder_34
set_option maxHeartbeats 4000000 in
set_option maxRecDepth 100000 in
theorem pX9_isUnder_19 {p : Program} {l : Launch} {e : Env} {s : State} {m : MethodId} {args : Array Value} {below : List Frame} {meth : Method} {c : Code} {g : GG} {w0 : va_W}  {pa : Int32} {pb : Int32} {o : Int32} (X : mX g yX9_isUnder cX9_isUnder 2 (some .boolean) p s m args meth c w0)
  {k29 : Option Int32} (K29 : ∀  (H : Heap) (locs : List Loc) (ls : Array Slot), k29  = some o → mH g s w0 [] H locs → lv_has ls 2 [(0, .int pa), (1, .int pb)] → W p l e (rM 0 0) s m args below meth c H locs 0 0 (mZ g below args s w0 [] (some (.int o))) (F0 m 29 ls [])) :
  ∀  (H : Heap) (locs : List Loc) (ls : Array Slot), qX9_isUnder_19 pa pb k29 = some o → mH g s w0 [] H locs → lv_has ls 2 [(0, .int pa), (1, .int pb)] → W p l e (rM 0 0) s m args below meth c H locs 0 0 (mZ g below args s w0 [] (some (.int o))) (F0 m 19 ls []) := by
  have hx := X.1
  have hb := X.2.1
  intro  H locs ls h hH hl
  unfold qX9_isUnder_19 at h
  refine lv_iload_n hx hb dX9_isUnder_19 rfl (lv_at hl 1 rfl) ?_
  refine lv_iconst (v := (2 : Int32)) hx hb dX9_isUnder_20 (by decide) ?_
  refine lv_icmp_ne (tgt := 33) hx hb dX9_isUnder_21 (by decide) (fun c4 => ?_) (fun c4 => ?_)
  · have h := ie_x h c4
    refine lv_iconst (v := (0 : Int32)) hx hb dX9_isUnder_33 (by decide) ?_
    have h := Option.some.inj h
    subst h
    exact e_z X hH (Or.inl rfl) dX9_isUnder_34
  · have h := it_x h c4
    refine lv_iload_n hx hb dX9_isUnder_24 rfl (lv_at hl 0 rfl) ?_
    refine lv_iconst (v := (3 : Int32)) hx hb dX9_isUnder_25 (by decide) ?_
    refine lv_icmp_ne (tgt := 33) hx hb dX9_isUnder_26 (by decide) (fun c5 => ?_) (fun c5 => ?_)
    · have h := ie_x h c5
      refine lv_iconst (v := (0 : Int32)) hx hb dX9_isUnder_33 (by decide) ?_
      have h := Option.some.inj h
      subst h
      exact e_z X hH (Or.inl rfl) dX9_isUnder_34
    · have h := it_x h c5
      exact K29  H locs ls h hH (lv_sub hl [0, 1] rfl)
set_option maxHeartbeats 4000000 in
set_option maxRecDepth 100000 in
theorem uX9_isUnder {l : Launch} {g : GG}  {pa : Int32} {pb : Int32} {o : Int32} (h : fX9_isUnder pa pb = some o) : mC l g yX9_isUnder cX9_isUnder 2 (some .boolean) (rM 0 0) [.int pa, .int pb] [] [] (some (.int o)) := by
  refine mC.ofW (by decide) (fun p e s m below meth c X hH ls _ hl => ?_) (Nat.le_of_ble_eq_true rfl)
  have hx := X.1
  have hb := X.2.1
  have hl : lv_has ls 2 [(0, .int pa), (1, .int pb)] := hl
  unfold fX9_isUnder at h
  suffices HH : ∀ (H : Heap) (locs : List Loc), mH g s [] [] H locs → W p l e (rM 0 0) s m _ below meth c H locs 0 0 (mZ g below _ s [] [] (some (.int o))) (F0 m 0 ls []) from HH _ _ hH
  clear hH
  intro H locs hH
  refine lv_iload_n hx hb dX9_isUnder_0 rfl (lv_at hl 1 rfl) ?_
  refine lv_if_eq (tgt := 29) hx hb dX9_isUnder_1 (by decide) (fun c1 => ?_) (fun c1 => ?_)
  · have h := it_x h c1
    exact pX9_isUnder_29 X   H locs ls h hH (lv_sub hl [0, 1] rfl)
  · have h := ie_x h c1
    refine lv_iload_n hx hb dX9_isUnder_4 rfl (lv_at hl 0 rfl) ?_
    refine lv_iload_n hx hb dX9_isUnder_5 rfl (lv_at hl 1 rfl) ?_
    refine lv_icmp_eq (tgt := 29) hx hb dX9_isUnder_6 (by decide) (fun c2 => ?_) (fun c2 => ?_)
    · have h := it_x h c2
      exact pX9_isUnder_29 X   H locs ls h hH (lv_sub hl [0, 1] rfl)
    · have h := ie_x h c2
      refine lv_iload_n hx hb dX9_isUnder_9 rfl (lv_at hl 1 rfl) ?_
      refine lv_iconst (v := (1 : Int32)) hx hb dX9_isUnder_10 (by decide) ?_
      refine lv_icmp_ne (tgt := 19) hx hb dX9_isUnder_11 (by decide) (fun c3 => ?_) (fun c3 => ?_)
      · have h := ie_x h c3
        exact pX9_isUnder_19 X (pX9_isUnder_29 X )  H locs ls h hH (lv_sub hl [0, 1] rfl)
      · have h := it_x h c3
        refine lv_iload_n hx hb dX9_isUnder_14 rfl (lv_at hl 0 rfl) ?_
        refine lv_iconst (v := (4 : Int32)) hx hb dX9_isUnder_15 (by decide) ?_
        refine lv_icmp_eq (tgt := 29) hx hb dX9_isUnder_16 (by decide) (fun c6 => ?_) (fun c6 => ?_)
        · have h := it_x h c6
          exact pX9_isUnder_29 X   H locs ls h hH (lv_sub hl [0, 1] rfl)
        · have h := ie_x h c6
          exact pX9_isUnder_19 X (pX9_isUnder_29 X )  H locs ls h hH (lv_sub hl [0, 1] rfl)

def fX9_notSlotted (xs : SX9) (pa : Int32) (pb : Int32) : Option Int32 :=
  ga 3 pa fun j1 =>
  (if (0 : Int32) ≤ ((m_slotMany xs) j1) then
  ga 3 pa fun j2 =>
  (fX9_isIn (pb.toInt64) (0 : Int64) ((((m_slotMany xs) j2) - (1 : Int32)).toInt64)).bind fun o1 =>
  (if o1 = (0 : Int32) then
  some (-13 : Int32)
  else
  some (0 : Int32))
  else
  some (-11 : Int32))
set_option maxHeartbeats 4000000 in
set_option maxRecDepth 100000 in
theorem uX9_notSlotted {l : Launch} {g : GG} {a : Nat → Nat} {i : Nat} {xs : SX9} {pa : Int32} {pb : Int32} {o : Int32} (h : fX9_notSlotted xs pa pb = some o) : mC l g yX9_notSlotted cX9_notSlotted 3 (some .int) (rM 1 25) [.ref (a i), .int pa, .int pb] (wX9 g a i xs) (wX9 g a i xs) (some (.int o)) := by
  refine mC.ofW (by decide) (fun p e s m below meth c X hH ls _ hl => ?_) (Nat.le_of_ble_eq_true rfl)
  have hx := X.1
  have hb := X.2.1
  have hl : lv_has ls 3 [(0, .ref (a i)), (1, .int pa), (2, .int pb)] := hl
  unfold fX9_notSlotted at h
  suffices HH : ∀ (H : Heap) (locs : List Loc), mH g s (wX9 g a i xs) (wX9 g a i xs) H locs → W p l e (rM 1 25) s m _ below meth c H locs 0 0 (mZ g below _ s (wX9 g a i xs) (wX9 g a i xs) (some (.int o))) (F0 m 0 ls []) from HH _ _ hH
  clear hH
  intro H locs hH
  refine lv_aload_n hx hb dX9_notSlotted_0 rfl (lv_at hl 0 rfl) ?_
  refine f_get X hH 0 rfl rfl 45 (by decide) inX9 fX9_107 rfl dX9_notSlotted_1 ?_
  refine lv_iload_n hx hb dX9_notSlotted_4 rfl (lv_at hl 1 rfl) ?_
  obtain ⟨j1, ej1, hinj1, h⟩ := ga_x h
  refine a_il X hH 31 rfl hinj1 ej1 dX9_notSlotted_5 ?_
  refine lv_if_ge (tgt := 14) hx hb dX9_notSlotted_6 (by decide) (fun c1 => ?_) (fun c1 => ?_)
  · have h := it_x h c1
    refine lv_iload_n hx hb dX9_notSlotted_14 rfl (lv_at hl 2 rfl) ?_
    refine lv_i2l hx hb dX9_notSlotted_15 rfl ?_
    refine lv_lconst (v := (0 : Int64)) hx hb dX9_notSlotted_16 (by decide) ?_
    refine lv_aload_n hx hb dX9_notSlotted_17 rfl (lv_at hl 0 rfl) ?_
    refine f_get X hH 0 rfl rfl 45 (by decide) inX9 fX9_107 rfl dX9_notSlotted_18 ?_
    refine lv_iload_n hx hb dX9_notSlotted_21 rfl (lv_at hl 1 rfl) ?_
    obtain ⟨j2, ej2, hinj2, h⟩ := ga_x h
    refine a_il X hH 31 rfl hinj2 ej2 dX9_notSlotted_22 ?_
    refine lv_iconst (v := (1 : Int32)) hx hb dX9_notSlotted_23 (by decide) ?_
    refine lv_isub hx hb dX9_notSlotted_24 ?_
    refine lv_i2l hx hb dX9_notSlotted_25 rfl ?_
    obtain ⟨o1, ho1, h⟩ := bd_x h
    refine r_S X hH (ws1 := (wX9 g a i xs)) (As := [.long (pb.toInt64), .long (0 : Int64), .long ((((m_slotMany xs) j2) - (1 : Int32)).toInt64)]) (rest := []) (st1 := [.int o1]) (uX9_isIn  ho1) kX9_isIn mX9_116 sX9_isIn zX9 okX9_isIn ⟨Nat.le_of_ble_eq_true rfl, Nat.le_of_ble_eq_true rfl⟩ rfl rfl (pm_none _) (pm_none _) rfl hl.1 rfl (Nat.le_of_ble_eq_true rfl) ⟨Nat.le_refl 0, Nat.le_refl 0⟩ rfl dX9_notSlotted_26 (fun H locs hH => ?_)
    refine lv_if_eq (tgt := 36) hx hb dX9_notSlotted_29 (by decide) (fun c2 => ?_) (fun c2 => ?_)
    · have h := it_x h c2
      refine lv_bipush (v := (-13 : Int32)) hx hb dX9_notSlotted_36 (by decide) ?_
      have h := Option.some.inj h
      subst h
      exact e_i X hH dX9_notSlotted_38
    · have h := ie_x h c2
      refine lv_iconst (v := (0 : Int32)) hx hb dX9_notSlotted_32 (by decide) ?_
      refine lv_goto (tgt := 38) hx hb dX9_notSlotted_33 (by decide) ?_
      have h := Option.some.inj h
      subst h
      exact e_i X hH dX9_notSlotted_38
  · have h := ie_x h c1
    refine lv_bipush (v := (-11 : Int32)) hx hb dX9_notSlotted_9 (by decide) ?_
    refine lv_goto (tgt := 38) hx hb dX9_notSlotted_11 (by decide) ?_
    have h := Option.some.inj h
    subst h
    exact e_i X hH dX9_notSlotted_38

def qX9_slots_20 (pa : Int32) (pb : Int32) (pc_ : Int32)  (xs : SX9) : Option (Int32 × SX9) :=
  (fX9_no xs (-1 : Int32)).bind fun o2 =>
  some (o2.1, o2.2)
def qX9_slots_116 (pa : Int32) (pb : Int32) (pc_ : Int32)  (xs : SX9) (t1 : Int32) (t2 : Int32) : Option (Int32 × SX9) :=
  ga 27 t1 fun j4 =>
  ltt ((m_liesFigure_s xs (upd (m_liesFigure xs) j4 t2))) fun xs2 =>
  some ((1 : Int32), xs2)
def qX9_slots_91 (pa : Int32) (pb : Int32) (pc_ : Int32)  (xs : SX9) (t1 : Int32) (t2 : Int32) : Option (Int32 × SX9) :=
  ga 27 t1 fun j2 =>
  ltt ((m_lies_s xs (upd (m_lies xs) j2 t2))) fun xs1 =>
  (if (0 : Int32) ≤ pc_ then
  ga 11 pc_ fun j3 =>
  qX9_slots_116 pa pb pc_ xs1 (((9 : Int32) * pa) + pb) ((m_figure xs1) j3)
  else
  qX9_slots_116 pa pb pc_ xs1 (((9 : Int32) * pa) + pb) (0 : Int32))
def qX9_slots_67 (pa : Int32) (pb : Int32) (pc_ : Int32)  (xs : SX9) : Option (Int32 × SX9) :=
  (if (0 : Int32) ≤ pc_ then
  ga 11 pc_ fun j1 =>
  qX9_slots_91 pa pb pc_ xs (((9 : Int32) * pa) + pb) ((m_kind xs) j1)
  else
  qX9_slots_91 pa pb pc_ xs (((9 : Int32) * pa) + pb) (-1 : Int32))
def qX9_slots_26 (pa : Int32) (pb : Int32) (pc_ : Int32)  (xs : SX9) : Option (Int32 × SX9) :=
  (fX9_notSlotted xs pa pb).bind fun o3 =>
  (if o3 = (0 : Int32) then
  (if pc_ < (0 : Int32) then
  qX9_slots_67 pa pb pc_ xs
  else
  ga 11 pc_ fun j5 =>
  ga 3 pa fun j6 =>
  (fX9_isUnder ((m_kind xs) j5) ((m_slotKind xs) j6)).bind fun o4 =>
  (if o4 = (0 : Int32) then
  some ((-16 : Int32), xs)
  else
  qX9_slots_67 pa pb pc_ xs))
  else
  some (o3, xs))
def fX9_slots (xs : SX9) (pa : Int32) (pb : Int32) (pc_ : Int32) : Option (Int32 × SX9) :=
  (fX9_isSlot pa).bind fun o1 =>
  (if o1 = (0 : Int32) then
  qX9_slots_20 pa pb pc_ xs
  else
  (if pc_ = (-1 : Int32) then
  qX9_slots_26 pa pb pc_ xs
  else
  (fX9_isWay xs pc_).bind fun o5 =>
  (if o5 = (0 : Int32) then
  qX9_slots_20 pa pb pc_ xs
  else
  qX9_slots_26 pa pb pc_ xs)))
set_option maxHeartbeats 4000000 in
set_option maxRecDepth 100000 in
theorem pX9_slots_20 {p : Program} {l : Launch} {e : Env} {s : State} {m : MethodId} {args : Array Value} {below : List Frame} {meth : Method} {c : Code} {g : GG} {w0 : va_W} {a : Nat → Nat} {i : Nat} {pa : Int32} {pb : Int32} {pc_ : Int32} {o : (Int32 × SX9)} (X : mX g yX9_slots cX9_slots 5 (some .int) p s m args meth c w0) :
  ∀ (xs : SX9) (H : Heap) (locs : List Loc) (ls : Array Slot), qX9_slots_20 pa pb pc_ xs = some o → mH g s w0 (wX9 g a i xs) H locs → lv_has ls 5 [(0, .ref (a i)), (1, .int pa), (2, .int pb), (3, .int pc_)] → W p l e (rM 2 47) s m args below meth c H locs 0 0 (mZ g below args s w0 (wX9 g a i o.2) (some (.int o.1))) (F0 m 20 ls []) := by
  have hx := X.1
  have hb := X.2.1
  intro xs H locs ls h hH hl
  unfold qX9_slots_20 at h
  refine lv_aload_n hx hb dX9_slots_20 rfl (lv_at hl 0 rfl) ?_
  refine lv_iconst (v := (-1 : Int32)) hx hb dX9_slots_21 (by decide) ?_
  obtain ⟨o2, ho2, h⟩ := bd_x h
  refine r_V X hH (ws1 := (wX9 g a i o2.2)) (As := [.int (-1 : Int32)]) (rest := []) (st1 := [.int o2.1]) (uX9_no (a := a) (i := i) ho2) kX9_no mX9_125 iX9_no vX9_no zX9 okX9_no ⟨Nat.le_of_ble_eq_true rfl, Nat.le_of_ble_eq_true rfl⟩ rfl rfl (q0 := 0) rfl rfl (pm_all _) (pm_all _) rfl hl.1 rfl (Nat.le_of_ble_eq_true rfl) ⟨Nat.le_refl 0, Nat.le_refl 0⟩ rfl dX9_slots_22 (fun H locs hH => ?_)
  have h := Option.some.inj h
  subst h
  exact e_i X hH dX9_slots_25
set_option maxHeartbeats 4000000 in
set_option maxRecDepth 100000 in
theorem pX9_slots_116 {p : Program} {l : Launch} {e : Env} {s : State} {m : MethodId} {args : Array Value} {below : List Frame} {meth : Method} {c : Code} {g : GG} {w0 : va_W} {a : Nat → Nat} {i : Nat} {pa : Int32} {pb : Int32} {pc_ : Int32} {o : (Int32 × SX9)} (X : mX g yX9_slots cX9_slots 5 (some .int) p s m args meth c w0) :
  ∀ (xs : SX9) (t1 : Int32) (t2 : Int32) (H : Heap) (locs : List Loc) (ls : Array Slot), qX9_slots_116 pa pb pc_ xs t1 t2 = some o → mH g s w0 (wX9 g a i xs) H locs → lv_has ls 5 [(0, .ref (a i)), (1, .int pa), (2, .int pb), (3, .int pc_)] → W p l e (rM 2 47) s m args below meth c H locs 0 0 (mZ g below args s w0 (wX9 g a i o.2) (some (.int o.1))) (F0 m 116 ls [.int t2, .int t1, .ref (a (i + 33))]) := by
  have hx := X.1
  have hb := X.2.1
  intro xs t1 t2 H locs ls h hH hl
  unfold qX9_slots_116 at h
  obtain ⟨j4, ej4, hinj4, h⟩ := ga_x h
  obtain ⟨xs2, exs2, h⟩ := ltt_x h
  refine a_is X hH (ws1 := (wX9 g a i xs2)) 33 rfl hinj4 ej4 (by rw [exs2]; rfl) dX9_slots_116 (fun H locs hH => ?_)
  refine lv_iconst (v := (1 : Int32)) hx hb dX9_slots_117 (by decide) ?_
  have h := Option.some.inj h
  subst h
  exact e_i X hH dX9_slots_118
set_option maxHeartbeats 4000000 in
set_option maxRecDepth 100000 in
theorem pX9_slots_91 {p : Program} {l : Launch} {e : Env} {s : State} {m : MethodId} {args : Array Value} {below : List Frame} {meth : Method} {c : Code} {g : GG} {w0 : va_W} {a : Nat → Nat} {i : Nat} {pa : Int32} {pb : Int32} {pc_ : Int32} {o : (Int32 × SX9)} (X : mX g yX9_slots cX9_slots 5 (some .int) p s m args meth c w0) :
  ∀ (xs : SX9) (t1 : Int32) (t2 : Int32) (H : Heap) (locs : List Loc) (ls : Array Slot), qX9_slots_91 pa pb pc_ xs t1 t2 = some o → mH g s w0 (wX9 g a i xs) H locs → lv_has ls 5 [(0, .ref (a i)), (1, .int pa), (2, .int pb), (3, .int pc_)] → W p l e (rM 2 47) s m args below meth c H locs 0 0 (mZ g below args s w0 (wX9 g a i o.2) (some (.int o.1))) (F0 m 91 ls [.int t2, .int t1, .ref (a (i + 32))]) := by
  have hx := X.1
  have hb := X.2.1
  intro xs t1 t2 H locs ls h hH hl
  unfold qX9_slots_91 at h
  obtain ⟨j2, ej2, hinj2, h⟩ := ga_x h
  obtain ⟨xs1, exs1, h⟩ := ltt_x h
  refine a_is X hH (ws1 := (wX9 g a i xs1)) 32 rfl hinj2 ej2 (by rw [exs1]; rfl) dX9_slots_91 (fun H locs hH => ?_)
  refine lv_aload_n hx hb dX9_slots_92 rfl (lv_at hl 0 rfl) ?_
  refine f_get X hH 0 rfl rfl 47 (by decide) inX9 fX9_113 rfl dX9_slots_93 ?_
  refine lv_bipush (v := (9 : Int32)) hx hb dX9_slots_96 (by decide) ?_
  refine lv_iload_n hx hb dX9_slots_98 rfl (lv_at hl 1 rfl) ?_
  refine lv_imul hx hb dX9_slots_99 ?_
  refine lv_iload_n hx hb dX9_slots_100 rfl (lv_at hl 2 rfl) ?_
  refine lv_iadd hx hb dX9_slots_101 ?_
  refine lv_iload_n hx hb dX9_slots_102 rfl (lv_at hl 3 rfl) ?_
  refine lv_if_ge (tgt := 110) hx hb dX9_slots_103 (by decide) (fun c6 => ?_) (fun c6 => ?_)
  · have h := it_x h c6
    refine lv_aload_n hx hb dX9_slots_110 rfl (lv_at hl 0 rfl) ?_
    refine f_get X hH 0 rfl rfl 5 (by decide) inX9 fX9_23 rfl dX9_slots_111 ?_
    refine lv_iload_n hx hb dX9_slots_114 rfl (lv_at hl 3 rfl) ?_
    obtain ⟨j3, ej3, hinj3, h⟩ := ga_x h
    refine a_il X hH 4 rfl hinj3 ej3 dX9_slots_115 ?_
    exact pX9_slots_116 X  xs1 (((9 : Int32) * pa) + pb) ((m_figure xs1) j3) H locs ls h hH (lv_sub hl [0, 1, 2, 3] rfl)
  · have h := ie_x h c6
    refine lv_iconst (v := (0 : Int32)) hx hb dX9_slots_106 (by decide) ?_
    refine lv_goto (tgt := 116) hx hb dX9_slots_107 (by decide) ?_
    exact pX9_slots_116 X  xs1 (((9 : Int32) * pa) + pb) (0 : Int32) H locs ls h hH (lv_sub hl [0, 1, 2, 3] rfl)
set_option maxHeartbeats 4000000 in
set_option maxRecDepth 100000 in
theorem pX9_slots_67 {p : Program} {l : Launch} {e : Env} {s : State} {m : MethodId} {args : Array Value} {below : List Frame} {meth : Method} {c : Code} {g : GG} {w0 : va_W} {a : Nat → Nat} {i : Nat} {pa : Int32} {pb : Int32} {pc_ : Int32} {o : (Int32 × SX9)} (X : mX g yX9_slots cX9_slots 5 (some .int) p s m args meth c w0) :
  ∀ (xs : SX9) (H : Heap) (locs : List Loc) (ls : Array Slot), qX9_slots_67 pa pb pc_ xs = some o → mH g s w0 (wX9 g a i xs) H locs → lv_has ls 5 [(0, .ref (a i)), (1, .int pa), (2, .int pb), (3, .int pc_)] → W p l e (rM 2 47) s m args below meth c H locs 0 0 (mZ g below args s w0 (wX9 g a i o.2) (some (.int o.1))) (F0 m 67 ls []) := by
  have hx := X.1
  have hb := X.2.1
  intro xs H locs ls h hH hl
  unfold qX9_slots_67 at h
  refine lv_aload_n hx hb dX9_slots_67 rfl (lv_at hl 0 rfl) ?_
  refine f_get X hH 0 rfl rfl 46 (by decide) inX9 fX9_110 rfl dX9_slots_68 ?_
  refine lv_bipush (v := (9 : Int32)) hx hb dX9_slots_71 (by decide) ?_
  refine lv_iload_n hx hb dX9_slots_73 rfl (lv_at hl 1 rfl) ?_
  refine lv_imul hx hb dX9_slots_74 ?_
  refine lv_iload_n hx hb dX9_slots_75 rfl (lv_at hl 2 rfl) ?_
  refine lv_iadd hx hb dX9_slots_76 ?_
  refine lv_iload_n hx hb dX9_slots_77 rfl (lv_at hl 3 rfl) ?_
  refine lv_if_ge (tgt := 85) hx hb dX9_slots_78 (by decide) (fun c5 => ?_) (fun c5 => ?_)
  · have h := it_x h c5
    refine lv_aload_n hx hb dX9_slots_85 rfl (lv_at hl 0 rfl) ?_
    refine f_get X hH 0 rfl rfl 4 (by decide) inX9 fX9_20 rfl dX9_slots_86 ?_
    refine lv_iload_n hx hb dX9_slots_89 rfl (lv_at hl 3 rfl) ?_
    obtain ⟨j1, ej1, hinj1, h⟩ := ga_x h
    refine a_il X hH 3 rfl hinj1 ej1 dX9_slots_90 ?_
    exact pX9_slots_91 X  xs (((9 : Int32) * pa) + pb) ((m_kind xs) j1) H locs ls h hH (lv_sub hl [0, 1, 2, 3] rfl)
  · have h := ie_x h c5
    refine lv_iconst (v := (-1 : Int32)) hx hb dX9_slots_81 (by decide) ?_
    refine lv_goto (tgt := 91) hx hb dX9_slots_82 (by decide) ?_
    exact pX9_slots_91 X  xs (((9 : Int32) * pa) + pb) (-1 : Int32) H locs ls h hH (lv_sub hl [0, 1, 2, 3] rfl)
set_option maxHeartbeats 4000000 in
set_option maxRecDepth 100000 in
theorem pX9_slots_26 {p : Program} {l : Launch} {e : Env} {s : State} {m : MethodId} {args : Array Value} {below : List Frame} {meth : Method} {c : Code} {g : GG} {w0 : va_W} {a : Nat → Nat} {i : Nat} {pa : Int32} {pb : Int32} {pc_ : Int32} {o : (Int32 × SX9)} (X : mX g yX9_slots cX9_slots 5 (some .int) p s m args meth c w0) :
  ∀ (xs : SX9) (H : Heap) (locs : List Loc) (ls : Array Slot), qX9_slots_26 pa pb pc_ xs = some o → mH g s w0 (wX9 g a i xs) H locs → lv_has ls 5 [(0, .ref (a i)), (1, .int pa), (2, .int pb), (3, .int pc_)] → W p l e (rM 2 47) s m args below meth c H locs 0 0 (mZ g below args s w0 (wX9 g a i o.2) (some (.int o.1))) (F0 m 26 ls []) := by
  have hx := X.1
  have hb := X.2.1
  intro xs H locs ls h hH hl
  unfold qX9_slots_26 at h
  refine lv_aload_n hx hb dX9_slots_26 rfl (lv_at hl 0 rfl) ?_
  refine lv_iload_n hx hb dX9_slots_27 rfl (lv_at hl 1 rfl) ?_
  refine lv_iload_n hx hb dX9_slots_28 rfl (lv_at hl 2 rfl) ?_
  obtain ⟨o3, ho3, h⟩ := bd_x h
  refine r_V X hH (ws1 := (wX9 g a i xs)) (As := [.int pa, .int pb]) (rest := []) (st1 := [.int o3]) (uX9_notSlotted (a := a) (i := i) ho3) kX9_notSlotted mX9_382 iX9_notSlotted vX9_notSlotted zX9 okX9_notSlotted ⟨Nat.le_of_ble_eq_true rfl, Nat.le_of_ble_eq_true rfl⟩ rfl rfl (q0 := 0) rfl rfl (pm_all _) (pm_all _) rfl hl.1 rfl (Nat.le_of_ble_eq_true rfl) ⟨Nat.le_refl 0, Nat.le_refl 0⟩ rfl dX9_slots_29 (fun H locs hH => ?_)
  refine s_i X (lv' := [(4, .int o3), (0, .ref (a i)), (1, .int pa), (2, .int pb), (3, .int pc_)]) hl rfl dX9_slots_32 (by decide) rfl (fun ls hl => ?_)
  refine lv_iload hx hb dX9_slots_34 (lv_at hl 0 rfl) ?_
  refine lv_if_eq (tgt := 42) hx hb dX9_slots_36 (by decide) (fun c3 => ?_) (fun c3 => ?_)
  · have h := it_x h c3
    refine lv_iload_n hx hb dX9_slots_42 rfl (lv_at hl 4 rfl) ?_
    refine lv_if_lt (tgt := 67) hx hb dX9_slots_43 (by decide) (fun c4 => ?_) (fun c4 => ?_)
    · have h := it_x h c4
      exact pX9_slots_67 X  xs H locs ls h hH (lv_sub hl [1, 2, 3, 4] rfl)
    · have h := ie_x h c4
      refine lv_aload_n hx hb dX9_slots_46 rfl (lv_at hl 1 rfl) ?_
      refine f_get X hH 0 rfl rfl 4 (by decide) inX9 fX9_20 rfl dX9_slots_47 ?_
      refine lv_iload_n hx hb dX9_slots_50 rfl (lv_at hl 4 rfl) ?_
      obtain ⟨j5, ej5, hinj5, h⟩ := ga_x h
      refine a_il X hH 3 rfl hinj5 ej5 dX9_slots_51 ?_
      refine lv_aload_n hx hb dX9_slots_52 rfl (lv_at hl 1 rfl) ?_
      refine f_get X hH 0 rfl rfl 44 (by decide) inX9 fX9_104 rfl dX9_slots_53 ?_
      refine lv_iload_n hx hb dX9_slots_56 rfl (lv_at hl 2 rfl) ?_
      obtain ⟨j6, ej6, hinj6, h⟩ := ga_x h
      refine a_il X hH 30 rfl hinj6 ej6 dX9_slots_57 ?_
      obtain ⟨o4, ho4, h⟩ := bd_x h
      refine r_S X hH (ws1 := (wX9 g a i xs)) (As := [.int ((m_kind xs) j5), .int ((m_slotKind xs) j6)]) (rest := []) (st1 := [.int o4]) (uX9_isUnder  ho4) kX9_isUnder mX9_385 sX9_isUnder zX9 okX9_isUnder ⟨Nat.le_of_ble_eq_true rfl, Nat.le_of_ble_eq_true rfl⟩ rfl rfl (pm_none _) (pm_none _) rfl hl.1 rfl (Nat.le_of_ble_eq_true rfl) ⟨Nat.le_refl 0, Nat.le_refl 0⟩ rfl dX9_slots_58 (fun H locs hH => ?_)
      refine lv_if_ne (tgt := 67) hx hb dX9_slots_61 (by decide) (fun c7 => ?_) (fun c7 => ?_)
      · have h := ie_x h c7
        exact pX9_slots_67 X  xs H locs ls h hH (lv_sub hl [1, 2, 3, 4] rfl)
      · have h := it_x h c7
        refine lv_bipush (v := (-16 : Int32)) hx hb dX9_slots_64 (by decide) ?_
        have h := Option.some.inj h
        subst h
        exact e_i X hH dX9_slots_66
  · have h := ie_x h c3
    refine lv_iload hx hb dX9_slots_39 (lv_at hl 0 rfl) ?_
    have h := Option.some.inj h
    subst h
    exact e_i X hH dX9_slots_41
set_option maxHeartbeats 4000000 in
set_option maxRecDepth 100000 in
theorem uX9_slots {l : Launch} {g : GG} {a : Nat → Nat} {i : Nat} {xs : SX9} {pa : Int32} {pb : Int32} {pc_ : Int32} {o : (Int32 × SX9)} (h : fX9_slots xs pa pb pc_ = some o) : mC l g yX9_slots cX9_slots 5 (some .int) (rM 2 47) [.ref (a i), .int pa, .int pb, .int pc_] (wX9 g a i xs) (wX9 g a i o.2) (some (.int o.1)) := by
  refine mC.ofW (by decide) (fun p e s m below meth c X hH ls _ hl => ?_) (Nat.le_of_ble_eq_true rfl)
  have hx := X.1
  have hb := X.2.1
  have hl : lv_has ls 5 [(0, .ref (a i)), (1, .int pa), (2, .int pb), (3, .int pc_)] := hl
  unfold fX9_slots at h
  suffices HH : ∀ (H : Heap) (locs : List Loc), mH g s (wX9 g a i xs) (wX9 g a i xs) H locs → W p l e (rM 2 47) s m _ below meth c H locs 0 0 (mZ g below _ s (wX9 g a i xs) (wX9 g a i o.2) (some (.int o.1))) (F0 m 0 ls []) from HH _ _ hH
  clear hH
  intro H locs hH
  refine lv_iload_n hx hb dX9_slots_0 rfl (lv_at hl 1 rfl) ?_
  obtain ⟨o1, ho1, h⟩ := bd_x h
  refine r_S X hH (ws1 := (wX9 g a i xs)) (As := [.int pa]) (rest := []) (st1 := [.int o1]) (uX9_isSlot  ho1) kX9_isSlot mX9_379 sX9_isSlot zX9 okX9_isSlot ⟨Nat.le_of_ble_eq_true rfl, Nat.le_of_ble_eq_true rfl⟩ rfl rfl (pm_none _) (pm_none _) rfl hl.1 rfl (Nat.le_of_ble_eq_true rfl) ⟨Nat.le_refl 0, Nat.le_refl 0⟩ rfl dX9_slots_1 (fun H locs hH => ?_)
  refine lv_if_eq (tgt := 20) hx hb dX9_slots_4 (by decide) (fun c1 => ?_) (fun c1 => ?_)
  · have h := it_x h c1
    exact pX9_slots_20 X  xs H locs ls h hH (lv_sub hl [0, 1, 2, 3] rfl)
  · have h := ie_x h c1
    refine lv_iload_n hx hb dX9_slots_7 rfl (lv_at hl 3 rfl) ?_
    refine lv_iconst (v := (-1 : Int32)) hx hb dX9_slots_8 (by decide) ?_
    refine lv_icmp_eq (tgt := 26) hx hb dX9_slots_9 (by decide) (fun c2 => ?_) (fun c2 => ?_)
    · have h := it_x h c2
      exact pX9_slots_26 X  xs H locs ls h hH (lv_sub hl [0, 1, 2, 3] rfl)
    · have h := ie_x h c2
      refine lv_aload_n hx hb dX9_slots_12 rfl (lv_at hl 0 rfl) ?_
      refine lv_iload_n hx hb dX9_slots_13 rfl (lv_at hl 3 rfl) ?_
      obtain ⟨o5, ho5, h⟩ := bd_x h
      refine r_V X hH (ws1 := (wX9 g a i xs)) (As := [.int pc_]) (rest := []) (st1 := [.int o5]) (uX9_isWay (a := a) (i := i) ho5) kX9_isWay mX9_145 iX9_isWay vX9_isWay zX9 okX9_isWay ⟨Nat.le_of_ble_eq_true rfl, Nat.le_of_ble_eq_true rfl⟩ rfl rfl (q0 := 0) rfl rfl (pm_all _) (pm_all _) rfl hl.1 rfl (Nat.le_of_ble_eq_true rfl) ⟨Nat.le_refl 0, Nat.le_refl 0⟩ rfl dX9_slots_14 (fun H locs hH => ?_)
      refine lv_if_ne (tgt := 26) hx hb dX9_slots_17 (by decide) (fun c8 => ?_) (fun c8 => ?_)
      · have h := ie_x h c8
        exact pX9_slots_26 X  xs H locs ls h hH (lv_sub hl [0, 1, 2, 3] rfl)
      · have h := it_x h c8
        exact pX9_slots_20 X  xs H locs ls h hH (lv_sub hl [0, 1, 2, 3] rfl)

def fX9_slotted (xs : SX9) (pa : Int32) (pb : Int32) (pc_ : Int32) : Option (Int32 × SX9) :=
  (fX9_isSlot pa).bind fun o1 =>
  (if o1 = (0 : Int32) then
  (fX9_no xs (-1 : Int32)).bind fun o6 =>
  some (o6.1, o6.2)
  else
  (if (1 : Int32) ≤ pc_ then
  (if pc_ ≤ (9 : Int32) then
  (fX9_notSlotted xs pa pb).bind fun o2 =>
  (if o2 = (0 : Int32) then
  ga 27 (((9 : Int32) * pa) + pb) fun j1 =>
  ltt (((m_lies xs) j1)) fun v1 =>
  (if (0 : Int32) ≤ v1 then
  ga 27 (((9 : Int32) * pa) + pb) fun j2 =>
  (fX9_weightBy v1 ((m_liesFigure xs) j2) pc_).bind fun o3 =>
  some (o3, xs)
  else
  some ((-9 : Int32), xs))
  else
  some (o2, xs))
  else
  (fX9_no xs (-6 : Int32)).bind fun o4 =>
  some (o4.1, o4.2))
  else
  (fX9_no xs (-4 : Int32)).bind fun o5 =>
  some (o5.1, o5.2)))
set_option maxHeartbeats 4000000 in
set_option maxRecDepth 100000 in
theorem uX9_slotted {l : Launch} {g : GG} {a : Nat → Nat} {i : Nat} {xs : SX9} {pa : Int32} {pb : Int32} {pc_ : Int32} {o : (Int32 × SX9)} (h : fX9_slotted xs pa pb pc_ = some o) : mC l g yX9_slotted cX9_slotted 6 (some .int) (rM 2 47) [.ref (a i), .int pa, .int pb, .int pc_] (wX9 g a i xs) (wX9 g a i o.2) (some (.int o.1)) := by
  refine mC.ofW (by decide) (fun p e s m below meth c X hH ls _ hl => ?_) (Nat.le_of_ble_eq_true rfl)
  have hx := X.1
  have hb := X.2.1
  have hl : lv_has ls 6 [(0, .ref (a i)), (1, .int pa), (2, .int pb), (3, .int pc_)] := hl
  unfold fX9_slotted at h
  suffices HH : ∀ (H : Heap) (locs : List Loc), mH g s (wX9 g a i xs) (wX9 g a i xs) H locs → W p l e (rM 2 47) s m _ below meth c H locs 0 0 (mZ g below _ s (wX9 g a i xs) (wX9 g a i o.2) (some (.int o.1))) (F0 m 0 ls []) from HH _ _ hH
  clear hH
  intro H locs hH
  refine lv_iload_n hx hb dX9_slotted_0 rfl (lv_at hl 1 rfl) ?_
  obtain ⟨o1, ho1, h⟩ := bd_x h
  refine r_S X hH (ws1 := (wX9 g a i xs)) (As := [.int pa]) (rest := []) (st1 := [.int o1]) (uX9_isSlot  ho1) kX9_isSlot mX9_379 sX9_isSlot zX9 okX9_isSlot ⟨Nat.le_of_ble_eq_true rfl, Nat.le_of_ble_eq_true rfl⟩ rfl rfl (pm_none _) (pm_none _) rfl hl.1 rfl (Nat.le_of_ble_eq_true rfl) ⟨Nat.le_refl 0, Nat.le_refl 0⟩ rfl dX9_slotted_1 (fun H locs hH => ?_)
  refine lv_if_ne (tgt := 13) hx hb dX9_slotted_4 (by decide) (fun c1 => ?_) (fun c1 => ?_)
  · have h := ie_x h c1
    refine lv_iload_n hx hb dX9_slotted_13 rfl (lv_at hl 3 rfl) ?_
    refine lv_iconst (v := (1 : Int32)) hx hb dX9_slotted_14 (by decide) ?_
    refine lv_icmp_ge (tgt := 25) hx hb dX9_slotted_15 (by decide) (fun c2 => ?_) (fun c2 => ?_)
    · have h := it_x h c2
      refine lv_iload_n hx hb dX9_slotted_25 rfl (lv_at hl 3 rfl) ?_
      refine lv_bipush (v := (9 : Int32)) hx hb dX9_slotted_26 (by decide) ?_
      refine lv_icmp_le (tgt := 38) hx hb dX9_slotted_28 (by decide) (fun c3 => ?_) (fun c3 => ?_)
      · have h := it_x h c3
        refine lv_aload_n hx hb dX9_slotted_38 rfl (lv_at hl 0 rfl) ?_
        refine lv_iload_n hx hb dX9_slotted_39 rfl (lv_at hl 1 rfl) ?_
        refine lv_iload_n hx hb dX9_slotted_40 rfl (lv_at hl 2 rfl) ?_
        obtain ⟨o2, ho2, h⟩ := bd_x h
        refine r_V X hH (ws1 := (wX9 g a i xs)) (As := [.int pa, .int pb]) (rest := []) (st1 := [.int o2]) (uX9_notSlotted (a := a) (i := i) ho2) kX9_notSlotted mX9_382 iX9_notSlotted vX9_notSlotted zX9 okX9_notSlotted ⟨Nat.le_of_ble_eq_true rfl, Nat.le_of_ble_eq_true rfl⟩ rfl rfl (q0 := 0) rfl rfl (pm_all _) (pm_all _) rfl hl.1 rfl (Nat.le_of_ble_eq_true rfl) ⟨Nat.le_refl 0, Nat.le_refl 0⟩ rfl dX9_slotted_41 (fun H locs hH => ?_)
        refine s_i X (lv' := [(4, .int o2), (0, .ref (a i)), (1, .int pa), (2, .int pb), (3, .int pc_)]) hl rfl dX9_slotted_44 (by decide) rfl (fun ls hl => ?_)
        refine lv_iload hx hb dX9_slotted_46 (lv_at hl 0 rfl) ?_
        refine lv_if_eq (tgt := 54) hx hb dX9_slotted_48 (by decide) (fun c4 => ?_) (fun c4 => ?_)
        · have h := it_x h c4
          refine lv_aload_n hx hb dX9_slotted_54 rfl (lv_at hl 1 rfl) ?_
          refine f_get X hH 0 rfl rfl 46 (by decide) inX9 fX9_110 rfl dX9_slotted_55 ?_
          refine lv_bipush (v := (9 : Int32)) hx hb dX9_slotted_58 (by decide) ?_
          refine lv_iload_n hx hb dX9_slotted_60 rfl (lv_at hl 2 rfl) ?_
          refine lv_imul hx hb dX9_slotted_61 ?_
          refine lv_iload_n hx hb dX9_slotted_62 rfl (lv_at hl 3 rfl) ?_
          refine lv_iadd hx hb dX9_slotted_63 ?_
          obtain ⟨j1, ej1, hinj1, h⟩ := ga_x h
          refine a_il X hH 32 rfl hinj1 ej1 dX9_slotted_64 ?_
          obtain ⟨v1, ev1, h⟩ := ltt_x h
          refine s_i X (lv' := [(5, .int v1), (4, .int o2), (0, .ref (a i)), (1, .int pa), (2, .int pb), (3, .int pc_)]) hl ev1 dX9_slotted_65 (by decide) rfl (fun ls hl => ?_)
          refine lv_iload hx hb dX9_slotted_67 (lv_at hl 0 rfl) ?_
          refine lv_if_ge (tgt := 77) hx hb dX9_slotted_69 (by decide) (fun c5 => ?_) (fun c5 => ?_)
          · have h := it_x h c5
            refine lv_iload hx hb dX9_slotted_77 (lv_at hl 0 rfl) ?_
            refine lv_aload_n hx hb dX9_slotted_79 rfl (lv_at hl 2 rfl) ?_
            refine f_get X hH 0 rfl rfl 47 (by decide) inX9 fX9_113 rfl dX9_slotted_80 ?_
            refine lv_bipush (v := (9 : Int32)) hx hb dX9_slotted_83 (by decide) ?_
            refine lv_iload_n hx hb dX9_slotted_85 rfl (lv_at hl 3 rfl) ?_
            refine lv_imul hx hb dX9_slotted_86 ?_
            refine lv_iload_n hx hb dX9_slotted_87 rfl (lv_at hl 4 rfl) ?_
            refine lv_iadd hx hb dX9_slotted_88 ?_
            obtain ⟨j2, ej2, hinj2, h⟩ := ga_x h
            refine a_il X hH 33 rfl hinj2 ej2 dX9_slotted_89 ?_
            refine lv_iload_n hx hb dX9_slotted_90 rfl (lv_at hl 5 rfl) ?_
            obtain ⟨o3, ho3, h⟩ := bd_x h
            refine r_S X hH (ws1 := (wX9 g a i xs)) (As := [.int v1, .int ((m_liesFigure xs) j2), .int pc_]) (rest := []) (st1 := [.int o3]) (uX9_weightBy  ho3) kX9_weightBy mX9_129 sX9_weightBy zX9 okX9_weightBy ⟨Nat.le_of_ble_eq_true rfl, Nat.le_of_ble_eq_true rfl⟩ rfl rfl (pm_none _) (pm_none _) rfl hl.1 rfl (Nat.le_of_ble_eq_true rfl) ⟨Nat.le_refl 0, Nat.le_refl 0⟩ rfl dX9_slotted_91 (fun H locs hH => ?_)
            have h := Option.some.inj h
            subst h
            exact e_i X hH dX9_slotted_94
          · have h := ie_x h c5
            refine lv_bipush (v := (-9 : Int32)) hx hb dX9_slotted_72 (by decide) ?_
            refine lv_goto (tgt := 94) hx hb dX9_slotted_74 (by decide) ?_
            have h := Option.some.inj h
            subst h
            exact e_i X hH dX9_slotted_94
        · have h := ie_x h c4
          refine lv_iload hx hb dX9_slotted_51 (lv_at hl 0 rfl) ?_
          have h := Option.some.inj h
          subst h
          exact e_i X hH dX9_slotted_53
      · have h := ie_x h c3
        refine lv_aload_n hx hb dX9_slotted_31 rfl (lv_at hl 0 rfl) ?_
        refine lv_bipush (v := (-6 : Int32)) hx hb dX9_slotted_32 (by decide) ?_
        obtain ⟨o4, ho4, h⟩ := bd_x h
        refine r_V X hH (ws1 := (wX9 g a i o4.2)) (As := [.int (-6 : Int32)]) (rest := []) (st1 := [.int o4.1]) (uX9_no (a := a) (i := i) ho4) kX9_no mX9_125 iX9_no vX9_no zX9 okX9_no ⟨Nat.le_of_ble_eq_true rfl, Nat.le_of_ble_eq_true rfl⟩ rfl rfl (q0 := 0) rfl rfl (pm_all _) (pm_all _) rfl hl.1 rfl (Nat.le_of_ble_eq_true rfl) ⟨Nat.le_refl 0, Nat.le_refl 0⟩ rfl dX9_slotted_34 (fun H locs hH => ?_)
        have h := Option.some.inj h
        subst h
        exact e_i X hH dX9_slotted_37
    · have h := ie_x h c2
      refine lv_aload_n hx hb dX9_slotted_18 rfl (lv_at hl 0 rfl) ?_
      refine lv_bipush (v := (-4 : Int32)) hx hb dX9_slotted_19 (by decide) ?_
      obtain ⟨o5, ho5, h⟩ := bd_x h
      refine r_V X hH (ws1 := (wX9 g a i o5.2)) (As := [.int (-4 : Int32)]) (rest := []) (st1 := [.int o5.1]) (uX9_no (a := a) (i := i) ho5) kX9_no mX9_125 iX9_no vX9_no zX9 okX9_no ⟨Nat.le_of_ble_eq_true rfl, Nat.le_of_ble_eq_true rfl⟩ rfl rfl (q0 := 0) rfl rfl (pm_all _) (pm_all _) rfl hl.1 rfl (Nat.le_of_ble_eq_true rfl) ⟨Nat.le_refl 0, Nat.le_refl 0⟩ rfl dX9_slotted_21 (fun H locs hH => ?_)
      have h := Option.some.inj h
      subst h
      exact e_i X hH dX9_slotted_24
  · have h := it_x h c1
    refine lv_aload_n hx hb dX9_slotted_7 rfl (lv_at hl 0 rfl) ?_
    refine lv_iconst (v := (-1 : Int32)) hx hb dX9_slotted_8 (by decide) ?_
    obtain ⟨o6, ho6, h⟩ := bd_x h
    refine r_V X hH (ws1 := (wX9 g a i o6.2)) (As := [.int (-1 : Int32)]) (rest := []) (st1 := [.int o6.1]) (uX9_no (a := a) (i := i) ho6) kX9_no mX9_125 iX9_no vX9_no zX9 okX9_no ⟨Nat.le_of_ble_eq_true rfl, Nat.le_of_ble_eq_true rfl⟩ rfl rfl (q0 := 0) rfl rfl (pm_all _) (pm_all _) rfl hl.1 rfl (Nat.le_of_ble_eq_true rfl) ⟨Nat.le_refl 0, Nat.le_refl 0⟩ rfl dX9_slotted_9 (fun H locs hH => ?_)
    have h := Option.some.inj h
    subst h
    exact e_i X hH dX9_slotted_12

def qX9_like_14 (pa : Int32) (pb : Int32)  (xs : SX9) : Option (Int32 × SX9) :=
  (fX9_no xs (-1 : Int32)).bind fun o2 =>
  some (o2.1, o2.2)
def qX9_like_58 (pa : Int32) (pb : Int32)  : Nat → SX9 → Int32 → Option (Int32 × SX9)
  | 0, _, _ => none
  | fu + 1, xs, l3 =>
  (if (9 : Int32) ≤ l3 then
  ga 3 pa fun j6 =>
  some (((m_slotMany xs) j6), xs)
  else
  ga 27 (((9 : Int32) * pb) + l3) fun j7 =>
  ltt (((m_lies xs) j7)) fun v3 =>
  ga 27 (((9 : Int32) * pa) + l3) fun j8 =>
  ltt ((m_lies_s xs (upd (m_lies xs) j8 v3))) fun xs3 =>
  ga 27 (((9 : Int32) * pb) + l3) fun j9 =>
  ltt (((m_liesFigure xs3) j9)) fun v4 =>
  ga 27 (((9 : Int32) * pa) + l3) fun j10 =>
  ltt ((m_liesFigure_s xs3 (upd (m_liesFigure xs3) j10 v4))) fun xs4 =>
  ltt (l3 + (1 : Int32)) fun v5 =>
  qX9_like_58 pa pb  fu xs4 v5)
def fX9_like (xs : SX9) (pa : Int32) (pb : Int32) : Option (Int32 × SX9) :=
  (fX9_isSlot pa).bind fun o1 =>
  (if o1 = (0 : Int32) then
  qX9_like_14 pa pb xs
  else
  (fX9_isSlot pb).bind fun o3 =>
  (if o3 = (0 : Int32) then
  qX9_like_14 pa pb xs
  else
  ga 3 pb fun j1 =>
  (if (0 : Int32) ≤ ((m_slotMany xs) j1) then
  ga 3 pb fun j2 =>
  ltt (((m_slotKind xs) j2)) fun v1 =>
  ga 3 pa fun j3 =>
  ltt ((m_slotKind_s xs (upd (m_slotKind xs) j3 v1))) fun xs1 =>
  ga 3 pb fun j4 =>
  ltt (((m_slotMany xs1) j4)) fun v2 =>
  ga 3 pa fun j5 =>
  ltt ((m_slotMany_s xs1 (upd (m_slotMany xs1) j5 v2))) fun xs2 =>
  qX9_like_58 pa pb FU xs2 (0 : Int32)
  else
  some ((-11 : Int32), xs))))
set_option maxHeartbeats 4000000 in
set_option maxRecDepth 100000 in
theorem pX9_like_14 {p : Program} {l : Launch} {e : Env} {s : State} {m : MethodId} {args : Array Value} {below : List Frame} {meth : Method} {c : Code} {g : GG} {w0 : va_W} {a : Nat → Nat} {i : Nat} {pa : Int32} {pb : Int32} {o : (Int32 × SX9)} (X : mX g yX9_like cX9_like 4 (some .int) p s m args meth c w0) :
  ∀ (xs : SX9) (H : Heap) (locs : List Loc) (ls : Array Slot), qX9_like_14 pa pb xs = some o → mH g s w0 (wX9 g a i xs) H locs → lv_has ls 4 [(0, .ref (a i)), (1, .int pa), (2, .int pb)] → W p l e (rM 2 45) s m args below meth c H locs 0 0 (mZ g below args s w0 (wX9 g a i o.2) (some (.int o.1))) (F0 m 14 ls []) := by
  have hx := X.1
  have hb := X.2.1
  intro xs H locs ls h hH hl
  unfold qX9_like_14 at h
  refine lv_aload_n hx hb dX9_like_14 rfl (lv_at hl 0 rfl) ?_
  refine lv_iconst (v := (-1 : Int32)) hx hb dX9_like_15 (by decide) ?_
  obtain ⟨o2, ho2, h⟩ := bd_x h
  refine r_V X hH (ws1 := (wX9 g a i o2.2)) (As := [.int (-1 : Int32)]) (rest := []) (st1 := [.int o2.1]) (uX9_no (a := a) (i := i) ho2) kX9_no mX9_125 iX9_no vX9_no zX9 okX9_no ⟨Nat.le_of_ble_eq_true rfl, Nat.le_of_ble_eq_true rfl⟩ rfl rfl (q0 := 0) rfl rfl (pm_all _) (pm_all _) rfl hl.1 rfl (Nat.le_of_ble_eq_true rfl) ⟨Nat.le_refl 0, Nat.le_refl 0⟩ rfl dX9_like_16 (fun H locs hH => ?_)
  have h := Option.some.inj h
  subst h
  exact e_i X hH dX9_like_19
set_option maxHeartbeats 4000000 in
set_option maxRecDepth 100000 in
theorem pX9_like_58 {p : Program} {l : Launch} {e : Env} {s : State} {m : MethodId} {args : Array Value} {below : List Frame} {meth : Method} {c : Code} {g : GG} {w0 : va_W} {a : Nat → Nat} {i : Nat} {pa : Int32} {pb : Int32} {o : (Int32 × SX9)} (X : mX g yX9_like cX9_like 4 (some .int) p s m args meth c w0) :
  ∀ (fu : Nat) (xs : SX9) (l3 : Int32) (H : Heap) (locs : List Loc) (ls : Array Slot), qX9_like_58 pa pb fu xs l3 = some o → mH g s w0 (wX9 g a i xs) H locs → lv_has ls 4 [(0, .ref (a i)), (1, .int pa), (2, .int pb), (3, .int l3)] → W p l e (rM 2 45) s m args below meth c H locs 0 0 (mZ g below args s w0 (wX9 g a i o.2) (some (.int o.1))) (F0 m 58 ls []) := by
  have hx := X.1
  have hb := X.2.1
  intro fu
  induction fu with
  | zero =>
    intro xs l3 H locs ls h
    unfold qX9_like_58 at h
    cases h
  | succ fu ih =>
    intro xs l3 H locs ls h hH hl
    unfold qX9_like_58 at h
    refine lv_iload_n hx hb dX9_like_58 rfl (lv_at hl 3 rfl) ?_
    refine lv_bipush (v := (9 : Int32)) hx hb dX9_like_59 (by decide) ?_
    refine lv_icmp_ge (tgt := 114) hx hb dX9_like_61 (by decide) (fun c4 => ?_) (fun c4 => ?_)
    · have h := it_x h c4
      refine lv_aload_n hx hb dX9_like_114 rfl (lv_at hl 0 rfl) ?_
      refine f_get X hH 0 rfl rfl 45 (by decide) inX9 fX9_107 rfl dX9_like_115 ?_
      refine lv_iload_n hx hb dX9_like_118 rfl (lv_at hl 1 rfl) ?_
      obtain ⟨j6, ej6, hinj6, h⟩ := ga_x h
      refine a_il X hH 31 rfl hinj6 ej6 dX9_like_119 ?_
      have h := Option.some.inj h
      subst h
      exact e_i X hH dX9_like_120
    · have h := ie_x h c4
      refine lv_aload_n hx hb dX9_like_64 rfl (lv_at hl 0 rfl) ?_
      refine f_get X hH 0 rfl rfl 46 (by decide) inX9 fX9_110 rfl dX9_like_65 ?_
      refine lv_bipush (v := (9 : Int32)) hx hb dX9_like_68 (by decide) ?_
      refine lv_iload_n hx hb dX9_like_70 rfl (lv_at hl 1 rfl) ?_
      refine lv_imul hx hb dX9_like_71 ?_
      refine lv_iload_n hx hb dX9_like_72 rfl (lv_at hl 3 rfl) ?_
      refine lv_iadd hx hb dX9_like_73 ?_
      refine lv_aload_n hx hb dX9_like_74 rfl (lv_at hl 0 rfl) ?_
      refine f_get X hH 0 rfl rfl 46 (by decide) inX9 fX9_110 rfl dX9_like_75 ?_
      refine lv_bipush (v := (9 : Int32)) hx hb dX9_like_78 (by decide) ?_
      refine lv_iload_n hx hb dX9_like_80 rfl (lv_at hl 2 rfl) ?_
      refine lv_imul hx hb dX9_like_81 ?_
      refine lv_iload_n hx hb dX9_like_82 rfl (lv_at hl 3 rfl) ?_
      refine lv_iadd hx hb dX9_like_83 ?_
      obtain ⟨j7, ej7, hinj7, h⟩ := ga_x h
      refine a_il X hH 32 rfl hinj7 ej7 dX9_like_84 ?_
      obtain ⟨v3, ev3, h⟩ := ltt_x h
      refine lv_topi (fun y0 e0 => ?_)
      rw [← ev3] at e0
      subst y0
      obtain ⟨j8, ej8, hinj8, h⟩ := ga_x h
      obtain ⟨xs3, exs3, h⟩ := ltt_x h
      refine a_is X hH (ws1 := (wX9 g a i xs3)) 32 rfl hinj8 ej8 (by rw [exs3]; rfl) dX9_like_85 (fun H locs hH => ?_)
      refine lv_aload_n hx hb dX9_like_86 rfl (lv_at hl 0 rfl) ?_
      refine f_get X hH 0 rfl rfl 47 (by decide) inX9 fX9_113 rfl dX9_like_87 ?_
      refine lv_bipush (v := (9 : Int32)) hx hb dX9_like_90 (by decide) ?_
      refine lv_iload_n hx hb dX9_like_92 rfl (lv_at hl 1 rfl) ?_
      refine lv_imul hx hb dX9_like_93 ?_
      refine lv_iload_n hx hb dX9_like_94 rfl (lv_at hl 3 rfl) ?_
      refine lv_iadd hx hb dX9_like_95 ?_
      refine lv_aload_n hx hb dX9_like_96 rfl (lv_at hl 0 rfl) ?_
      refine f_get X hH 0 rfl rfl 47 (by decide) inX9 fX9_113 rfl dX9_like_97 ?_
      refine lv_bipush (v := (9 : Int32)) hx hb dX9_like_100 (by decide) ?_
      refine lv_iload_n hx hb dX9_like_102 rfl (lv_at hl 2 rfl) ?_
      refine lv_imul hx hb dX9_like_103 ?_
      refine lv_iload_n hx hb dX9_like_104 rfl (lv_at hl 3 rfl) ?_
      refine lv_iadd hx hb dX9_like_105 ?_
      obtain ⟨j9, ej9, hinj9, h⟩ := ga_x h
      refine a_il X hH 33 rfl hinj9 ej9 dX9_like_106 ?_
      obtain ⟨v4, ev4, h⟩ := ltt_x h
      refine lv_topi (fun y0 e0 => ?_)
      rw [← ev4] at e0
      subst y0
      obtain ⟨j10, ej10, hinj10, h⟩ := ga_x h
      obtain ⟨xs4, exs4, h⟩ := ltt_x h
      refine a_is X hH (ws1 := (wX9 g a i xs4)) 33 rfl hinj10 ej10 (by rw [exs4]; rfl) dX9_like_107 (fun H locs hH => ?_)
      obtain ⟨v5, ev5, h⟩ := ltt_x h
      refine s_inc X (k := 3) (lv' := [(3, .int v5), (0, .ref (a i)), (1, .int pa), (2, .int pb)]) hl rfl (by rw [ev5]; rfl) dX9_like_108 (by decide) rfl (fun ls hl => ?_)
      refine lv_goto (tgt := 58) hx hb dX9_like_111 (by decide) ?_
      exact ih xs4 v5 H locs ls h hH (lv_sub hl [1, 2, 3, 0] rfl)
set_option maxHeartbeats 4000000 in
set_option maxRecDepth 100000 in
theorem uX9_like {l : Launch} {g : GG} {a : Nat → Nat} {i : Nat} {xs : SX9} {pa : Int32} {pb : Int32} {o : (Int32 × SX9)} (h : fX9_like xs pa pb = some o) : mC l g yX9_like cX9_like 4 (some .int) (rM 2 45) [.ref (a i), .int pa, .int pb] (wX9 g a i xs) (wX9 g a i o.2) (some (.int o.1)) := by
  refine mC.ofW (by decide) (fun p e s m below meth c X hH ls _ hl => ?_) (Nat.le_of_ble_eq_true rfl)
  have hx := X.1
  have hb := X.2.1
  have hl : lv_has ls 4 [(0, .ref (a i)), (1, .int pa), (2, .int pb)] := hl
  unfold fX9_like at h
  suffices HH : ∀ (H : Heap) (locs : List Loc), mH g s (wX9 g a i xs) (wX9 g a i xs) H locs → W p l e (rM 2 45) s m _ below meth c H locs 0 0 (mZ g below _ s (wX9 g a i xs) (wX9 g a i o.2) (some (.int o.1))) (F0 m 0 ls []) from HH _ _ hH
  clear hH
  intro H locs hH
  refine lv_iload_n hx hb dX9_like_0 rfl (lv_at hl 1 rfl) ?_
  obtain ⟨o1, ho1, h⟩ := bd_x h
  refine r_S X hH (ws1 := (wX9 g a i xs)) (As := [.int pa]) (rest := []) (st1 := [.int o1]) (uX9_isSlot  ho1) kX9_isSlot mX9_379 sX9_isSlot zX9 okX9_isSlot ⟨Nat.le_of_ble_eq_true rfl, Nat.le_of_ble_eq_true rfl⟩ rfl rfl (pm_none _) (pm_none _) rfl hl.1 rfl (Nat.le_of_ble_eq_true rfl) ⟨Nat.le_refl 0, Nat.le_refl 0⟩ rfl dX9_like_1 (fun H locs hH => ?_)
  refine lv_if_eq (tgt := 14) hx hb dX9_like_4 (by decide) (fun c1 => ?_) (fun c1 => ?_)
  · have h := it_x h c1
    exact pX9_like_14 X  xs H locs ls h hH (lv_sub hl [0, 1, 2] rfl)
  · have h := ie_x h c1
    refine lv_iload_n hx hb dX9_like_7 rfl (lv_at hl 2 rfl) ?_
    obtain ⟨o3, ho3, h⟩ := bd_x h
    refine r_S X hH (ws1 := (wX9 g a i xs)) (As := [.int pb]) (rest := []) (st1 := [.int o3]) (uX9_isSlot  ho3) kX9_isSlot mX9_379 sX9_isSlot zX9 okX9_isSlot ⟨Nat.le_of_ble_eq_true rfl, Nat.le_of_ble_eq_true rfl⟩ rfl rfl (pm_none _) (pm_none _) rfl hl.1 rfl (Nat.le_of_ble_eq_true rfl) ⟨Nat.le_refl 0, Nat.le_refl 0⟩ rfl dX9_like_8 (fun H locs hH => ?_)
    refine lv_if_ne (tgt := 20) hx hb dX9_like_11 (by decide) (fun c2 => ?_) (fun c2 => ?_)
    · have h := ie_x h c2
      refine lv_aload_n hx hb dX9_like_20 rfl (lv_at hl 0 rfl) ?_
      refine f_get X hH 0 rfl rfl 45 (by decide) inX9 fX9_107 rfl dX9_like_21 ?_
      refine lv_iload_n hx hb dX9_like_24 rfl (lv_at hl 2 rfl) ?_
      obtain ⟨j1, ej1, hinj1, h⟩ := ga_x h
      refine a_il X hH 31 rfl hinj1 ej1 dX9_like_25 ?_
      refine lv_if_ge (tgt := 32) hx hb dX9_like_26 (by decide) (fun c3 => ?_) (fun c3 => ?_)
      · have h := it_x h c3
        refine lv_aload_n hx hb dX9_like_32 rfl (lv_at hl 0 rfl) ?_
        refine f_get X hH 0 rfl rfl 44 (by decide) inX9 fX9_104 rfl dX9_like_33 ?_
        refine lv_iload_n hx hb dX9_like_36 rfl (lv_at hl 1 rfl) ?_
        refine lv_aload_n hx hb dX9_like_37 rfl (lv_at hl 0 rfl) ?_
        refine f_get X hH 0 rfl rfl 44 (by decide) inX9 fX9_104 rfl dX9_like_38 ?_
        refine lv_iload_n hx hb dX9_like_41 rfl (lv_at hl 2 rfl) ?_
        obtain ⟨j2, ej2, hinj2, h⟩ := ga_x h
        refine a_il X hH 30 rfl hinj2 ej2 dX9_like_42 ?_
        obtain ⟨v1, ev1, h⟩ := ltt_x h
        refine lv_topi (fun y0 e0 => ?_)
        rw [← ev1] at e0
        subst y0
        obtain ⟨j3, ej3, hinj3, h⟩ := ga_x h
        obtain ⟨xs1, exs1, h⟩ := ltt_x h
        refine a_is X hH (ws1 := (wX9 g a i xs1)) 30 rfl hinj3 ej3 (by rw [exs1]; rfl) dX9_like_43 (fun H locs hH => ?_)
        refine lv_aload_n hx hb dX9_like_44 rfl (lv_at hl 0 rfl) ?_
        refine f_get X hH 0 rfl rfl 45 (by decide) inX9 fX9_107 rfl dX9_like_45 ?_
        refine lv_iload_n hx hb dX9_like_48 rfl (lv_at hl 1 rfl) ?_
        refine lv_aload_n hx hb dX9_like_49 rfl (lv_at hl 0 rfl) ?_
        refine f_get X hH 0 rfl rfl 45 (by decide) inX9 fX9_107 rfl dX9_like_50 ?_
        refine lv_iload_n hx hb dX9_like_53 rfl (lv_at hl 2 rfl) ?_
        obtain ⟨j4, ej4, hinj4, h⟩ := ga_x h
        refine a_il X hH 31 rfl hinj4 ej4 dX9_like_54 ?_
        obtain ⟨v2, ev2, h⟩ := ltt_x h
        refine lv_topi (fun y0 e0 => ?_)
        rw [← ev2] at e0
        subst y0
        obtain ⟨j5, ej5, hinj5, h⟩ := ga_x h
        obtain ⟨xs2, exs2, h⟩ := ltt_x h
        refine a_is X hH (ws1 := (wX9 g a i xs2)) 31 rfl hinj5 ej5 (by rw [exs2]; rfl) dX9_like_55 (fun H locs hH => ?_)
        refine lv_iconst (v := (0 : Int32)) hx hb dX9_like_56 (by decide) ?_
        refine s_in X (lv' := [(3, .int (0 : Int32)), (0, .ref (a i)), (1, .int pa), (2, .int pb)]) hl rfl dX9_like_57 rfl (by decide) rfl (fun ls hl => ?_)
        exact pX9_like_58 X FU xs2 (0 : Int32) H locs ls h hH (lv_sub hl [1, 2, 3, 0] rfl)
      · have h := ie_x h c3
        refine lv_bipush (v := (-11 : Int32)) hx hb dX9_like_29 (by decide) ?_
        have h := Option.some.inj h
        subst h
        exact e_i X hH dX9_like_31
    · have h := it_x h c2
      exact pX9_like_14 X  xs H locs ls h hH (lv_sub hl [0, 1, 2] rfl)

def qX9_keeps_14_16   : Nat → SX9 → Int32 → Option SX9
  | 0, _, _ => none
  | fu + 1, xs, l2 =>
  (if (10 : Int32) ≤ l2 then
  some xs
  else
  ga 11 l2 fun j3 =>
  ltt (((m_first xs) j3)) fun v3 =>
  ga 62 ((2 : Int32) + ((6 : Int32) * l2)) fun j4 =>
  ltt ((m_kept_s xs (upd (m_kept xs) j4 v3))) fun xs3 =>
  ga 11 l2 fun j5 =>
  ltt (((m_second xs3) j5)) fun v4 =>
  ga 62 ((3 : Int32) + ((6 : Int32) * l2)) fun j6 =>
  ltt ((m_kept_s xs3 (upd (m_kept xs3) j6 v4))) fun xs4 =>
  ga 11 l2 fun j7 =>
  ltt (((m_kind xs4) j7)) fun v5 =>
  ga 62 ((4 : Int32) + ((6 : Int32) * l2)) fun j8 =>
  ltt ((m_kept_s xs4 (upd (m_kept xs4) j8 v5))) fun xs5 =>
  ga 11 l2 fun j9 =>
  ltt (((m_figure xs5) j9)) fun v6 =>
  ga 62 ((5 : Int32) + ((6 : Int32) * l2)) fun j10 =>
  ltt ((m_kept_s xs5 (upd (m_kept xs5) j10 v6))) fun xs6 =>
  ga 11 l2 fun j11 =>
  ltt (((m_load xs6) j11)) fun v7 =>
  ga 62 ((6 : Int32) + ((6 : Int32) * l2)) fun j12 =>
  ltt ((m_kept_s xs6 (upd (m_kept xs6) j12 v7))) fun xs7 =>
  ga 11 l2 fun j13 =>
  ltt (((m_length xs7) j13)) fun v8 =>
  ga 62 ((7 : Int32) + ((6 : Int32) * l2)) fun j14 =>
  ltt ((m_kept_s xs7 (upd (m_kept xs7) j14 v8))) fun xs8 =>
  ltt (l2 + (1 : Int32)) fun v9 =>
  qX9_keeps_14_16  fu xs8 v9)
def fX9_keeps_14 (xs : SX9) : Option SX9 :=
  ltt ((m_points xs)) fun v1 =>
  ga 62 (0 : Int32) fun j1 =>
  ltt ((m_kept_s xs (upd (m_kept xs) j1 v1))) fun xs1 =>
  ltt ((m_many xs1)) fun v2 =>
  ga 62 (1 : Int32) fun j2 =>
  ltt ((m_kept_s xs1 (upd (m_kept xs1) j2 v2))) fun xs2 =>
  qX9_keeps_14_16 FU xs2 (0 : Int32)
set_option maxHeartbeats 4000000 in
set_option maxRecDepth 100000 in
theorem pX9_keeps_14_16 {p : Program} {l : Launch} {e : Env} {s : State} {m : MethodId} {args : Array Value} {below : List Frame} {meth : Method} {c : Code} {g : GG} {w0 : va_W} {a : Nat → Nat} {i : Nat}  {o : SX9} (X : mX g yX9_keeps cX9_keeps 3 none p s m args meth c w0) :
  ∀ (fu : Nat) (xs : SX9) (l2 : Int32) (H : Heap) (locs : List Loc) (ls : Array Slot), qX9_keeps_14_16 fu xs l2 = some o → mH g s w0 (wX9 g a i xs) H locs → lv_has ls 3 [(0, .ref (a i)), (1, .ref (a (i + 14))), (2, .int l2)] → W p l e (rM 0 0) s m args below meth c H locs 0 0 (mZ g below args s w0 (wX9 g a i o) none) (F0 m 16 ls []) := by
  have hx := X.1
  have hb := X.2.1
  intro fu
  induction fu with
  | zero =>
    intro xs l2 H locs ls h
    unfold qX9_keeps_14_16 at h
    cases h
  | succ fu ih =>
    intro xs l2 H locs ls h hH hl
    unfold qX9_keeps_14_16 at h
    refine lv_iload_n hx hb dX9_keeps_16 rfl (lv_at hl 2 rfl) ?_
    refine lv_bipush (v := (10 : Int32)) hx hb dX9_keeps_17 (by decide) ?_
    refine lv_icmp_ge (tgt := 114) hx hb dX9_keeps_19 (by decide) (fun c1 => ?_) (fun c1 => ?_)
    · have h := it_x h c1
      have h := Option.some.inj h
      subst h
      exact e_v X hH dX9_keeps_114
    · have h := ie_x h c1
      refine lv_aload_n hx hb dX9_keeps_22 rfl (lv_at hl 1 rfl) ?_
      refine lv_iconst (v := (2 : Int32)) hx hb dX9_keeps_23 (by decide) ?_
      refine lv_bipush (v := (6 : Int32)) hx hb dX9_keeps_24 (by decide) ?_
      refine lv_iload_n hx hb dX9_keeps_26 rfl (lv_at hl 2 rfl) ?_
      refine lv_imul hx hb dX9_keeps_27 ?_
      refine lv_iadd hx hb dX9_keeps_28 ?_
      refine lv_aload_n hx hb dX9_keeps_29 rfl (lv_at hl 0 rfl) ?_
      refine f_get X hH 0 rfl rfl 2 (by decide) inX9 fX9_13 rfl dX9_keeps_30 ?_
      refine lv_iload_n hx hb dX9_keeps_33 rfl (lv_at hl 2 rfl) ?_
      obtain ⟨j3, ej3, hinj3, h⟩ := ga_x h
      refine a_il X hH 1 rfl hinj3 ej3 dX9_keeps_34 ?_
      obtain ⟨v3, ev3, h⟩ := ltt_x h
      refine lv_topi (fun y0 e0 => ?_)
      rw [← ev3] at e0
      subst y0
      obtain ⟨j4, ej4, hinj4, h⟩ := ga_x h
      obtain ⟨xs3, exs3, h⟩ := ltt_x h
      refine a_is X hH (ws1 := (wX9 g a i xs3)) 14 rfl hinj4 ej4 (by rw [exs3]; rfl) dX9_keeps_35 (fun H locs hH => ?_)
      refine lv_aload_n hx hb dX9_keeps_36 rfl (lv_at hl 1 rfl) ?_
      refine lv_iconst (v := (3 : Int32)) hx hb dX9_keeps_37 (by decide) ?_
      refine lv_bipush (v := (6 : Int32)) hx hb dX9_keeps_38 (by decide) ?_
      refine lv_iload_n hx hb dX9_keeps_40 rfl (lv_at hl 2 rfl) ?_
      refine lv_imul hx hb dX9_keeps_41 ?_
      refine lv_iadd hx hb dX9_keeps_42 ?_
      refine lv_aload_n hx hb dX9_keeps_43 rfl (lv_at hl 0 rfl) ?_
      refine f_get X hH 0 rfl rfl 3 (by decide) inX9 fX9_17 rfl dX9_keeps_44 ?_
      refine lv_iload_n hx hb dX9_keeps_47 rfl (lv_at hl 2 rfl) ?_
      obtain ⟨j5, ej5, hinj5, h⟩ := ga_x h
      refine a_il X hH 2 rfl hinj5 ej5 dX9_keeps_48 ?_
      obtain ⟨v4, ev4, h⟩ := ltt_x h
      refine lv_topi (fun y0 e0 => ?_)
      rw [← ev4] at e0
      subst y0
      obtain ⟨j6, ej6, hinj6, h⟩ := ga_x h
      obtain ⟨xs4, exs4, h⟩ := ltt_x h
      refine a_is X hH (ws1 := (wX9 g a i xs4)) 14 rfl hinj6 ej6 (by rw [exs4]; rfl) dX9_keeps_49 (fun H locs hH => ?_)
      refine lv_aload_n hx hb dX9_keeps_50 rfl (lv_at hl 1 rfl) ?_
      refine lv_iconst (v := (4 : Int32)) hx hb dX9_keeps_51 (by decide) ?_
      refine lv_bipush (v := (6 : Int32)) hx hb dX9_keeps_52 (by decide) ?_
      refine lv_iload_n hx hb dX9_keeps_54 rfl (lv_at hl 2 rfl) ?_
      refine lv_imul hx hb dX9_keeps_55 ?_
      refine lv_iadd hx hb dX9_keeps_56 ?_
      refine lv_aload_n hx hb dX9_keeps_57 rfl (lv_at hl 0 rfl) ?_
      refine f_get X hH 0 rfl rfl 4 (by decide) inX9 fX9_20 rfl dX9_keeps_58 ?_
      refine lv_iload_n hx hb dX9_keeps_61 rfl (lv_at hl 2 rfl) ?_
      obtain ⟨j7, ej7, hinj7, h⟩ := ga_x h
      refine a_il X hH 3 rfl hinj7 ej7 dX9_keeps_62 ?_
      obtain ⟨v5, ev5, h⟩ := ltt_x h
      refine lv_topi (fun y0 e0 => ?_)
      rw [← ev5] at e0
      subst y0
      obtain ⟨j8, ej8, hinj8, h⟩ := ga_x h
      obtain ⟨xs5, exs5, h⟩ := ltt_x h
      refine a_is X hH (ws1 := (wX9 g a i xs5)) 14 rfl hinj8 ej8 (by rw [exs5]; rfl) dX9_keeps_63 (fun H locs hH => ?_)
      refine lv_aload_n hx hb dX9_keeps_64 rfl (lv_at hl 1 rfl) ?_
      refine lv_iconst (v := (5 : Int32)) hx hb dX9_keeps_65 (by decide) ?_
      refine lv_bipush (v := (6 : Int32)) hx hb dX9_keeps_66 (by decide) ?_
      refine lv_iload_n hx hb dX9_keeps_68 rfl (lv_at hl 2 rfl) ?_
      refine lv_imul hx hb dX9_keeps_69 ?_
      refine lv_iadd hx hb dX9_keeps_70 ?_
      refine lv_aload_n hx hb dX9_keeps_71 rfl (lv_at hl 0 rfl) ?_
      refine f_get X hH 0 rfl rfl 5 (by decide) inX9 fX9_23 rfl dX9_keeps_72 ?_
      refine lv_iload_n hx hb dX9_keeps_75 rfl (lv_at hl 2 rfl) ?_
      obtain ⟨j9, ej9, hinj9, h⟩ := ga_x h
      refine a_il X hH 4 rfl hinj9 ej9 dX9_keeps_76 ?_
      obtain ⟨v6, ev6, h⟩ := ltt_x h
      refine lv_topi (fun y0 e0 => ?_)
      rw [← ev6] at e0
      subst y0
      obtain ⟨j10, ej10, hinj10, h⟩ := ga_x h
      obtain ⟨xs6, exs6, h⟩ := ltt_x h
      refine a_is X hH (ws1 := (wX9 g a i xs6)) 14 rfl hinj10 ej10 (by rw [exs6]; rfl) dX9_keeps_77 (fun H locs hH => ?_)
      refine lv_aload_n hx hb dX9_keeps_78 rfl (lv_at hl 1 rfl) ?_
      refine lv_bipush (v := (6 : Int32)) hx hb dX9_keeps_79 (by decide) ?_
      refine lv_bipush (v := (6 : Int32)) hx hb dX9_keeps_81 (by decide) ?_
      refine lv_iload_n hx hb dX9_keeps_83 rfl (lv_at hl 2 rfl) ?_
      refine lv_imul hx hb dX9_keeps_84 ?_
      refine lv_iadd hx hb dX9_keeps_85 ?_
      refine lv_aload_n hx hb dX9_keeps_86 rfl (lv_at hl 0 rfl) ?_
      refine f_get X hH 0 rfl rfl 6 (by decide) inX9 fX9_26 rfl dX9_keeps_87 ?_
      refine lv_iload_n hx hb dX9_keeps_90 rfl (lv_at hl 2 rfl) ?_
      obtain ⟨j11, ej11, hinj11, h⟩ := ga_x h
      refine a_il X hH 5 rfl hinj11 ej11 dX9_keeps_91 ?_
      obtain ⟨v7, ev7, h⟩ := ltt_x h
      refine lv_topi (fun y0 e0 => ?_)
      rw [← ev7] at e0
      subst y0
      obtain ⟨j12, ej12, hinj12, h⟩ := ga_x h
      obtain ⟨xs7, exs7, h⟩ := ltt_x h
      refine a_is X hH (ws1 := (wX9 g a i xs7)) 14 rfl hinj12 ej12 (by rw [exs7]; rfl) dX9_keeps_92 (fun H locs hH => ?_)
      refine lv_aload_n hx hb dX9_keeps_93 rfl (lv_at hl 1 rfl) ?_
      refine lv_bipush (v := (7 : Int32)) hx hb dX9_keeps_94 (by decide) ?_
      refine lv_bipush (v := (6 : Int32)) hx hb dX9_keeps_96 (by decide) ?_
      refine lv_iload_n hx hb dX9_keeps_98 rfl (lv_at hl 2 rfl) ?_
      refine lv_imul hx hb dX9_keeps_99 ?_
      refine lv_iadd hx hb dX9_keeps_100 ?_
      refine lv_aload_n hx hb dX9_keeps_101 rfl (lv_at hl 0 rfl) ?_
      refine f_get X hH 0 rfl rfl 7 (by decide) inX9 fX9_29 rfl dX9_keeps_102 ?_
      refine lv_iload_n hx hb dX9_keeps_105 rfl (lv_at hl 2 rfl) ?_
      obtain ⟨j13, ej13, hinj13, h⟩ := ga_x h
      refine a_il X hH 6 rfl hinj13 ej13 dX9_keeps_106 ?_
      obtain ⟨v8, ev8, h⟩ := ltt_x h
      refine lv_topi (fun y0 e0 => ?_)
      rw [← ev8] at e0
      subst y0
      obtain ⟨j14, ej14, hinj14, h⟩ := ga_x h
      obtain ⟨xs8, exs8, h⟩ := ltt_x h
      refine a_is X hH (ws1 := (wX9 g a i xs8)) 14 rfl hinj14 ej14 (by rw [exs8]; rfl) dX9_keeps_107 (fun H locs hH => ?_)
      obtain ⟨v9, ev9, h⟩ := ltt_x h
      refine s_inc X (k := 2) (lv' := [(2, .int v9), (0, .ref (a i)), (1, .ref (a (i + 14)))]) hl rfl (by rw [ev9]; rfl) dX9_keeps_108 (by decide) rfl (fun ls hl => ?_)
      refine lv_goto (tgt := 16) hx hb dX9_keeps_111 (by decide) ?_
      exact ih xs8 v9 H locs ls h hH (lv_sub hl [1, 2, 0] rfl)
set_option maxHeartbeats 4000000 in
set_option maxRecDepth 100000 in
theorem uX9_keeps_14 {l : Launch} {g : GG} {a : Nat → Nat} {i : Nat} {xs : SX9} {o : SX9} (h : fX9_keeps_14 xs = some o) : mC l g yX9_keeps cX9_keeps 3 none (rM 0 0) [.ref (a i), .ref (a (i + 14))] (wX9 g a i xs) (wX9 g a i o) none := by
  refine mC.ofW (by decide) (fun p e s m below meth c X hH ls _ hl => ?_) (Nat.le_of_ble_eq_true rfl)
  have hx := X.1
  have hb := X.2.1
  have hl : lv_has ls 3 [(0, .ref (a i)), (1, .ref (a (i + 14)))] := hl
  unfold fX9_keeps_14 at h
  suffices HH : ∀ (H : Heap) (locs : List Loc), mH g s (wX9 g a i xs) (wX9 g a i xs) H locs → W p l e (rM 0 0) s m _ below meth c H locs 0 0 (mZ g below _ s (wX9 g a i xs) (wX9 g a i o) none) (F0 m 0 ls []) from HH _ _ hH
  clear hH
  intro H locs hH
  refine lv_aload_n hx hb dX9_keeps_0 rfl (lv_at hl 1 rfl) ?_
  refine lv_iconst (v := (0 : Int32)) hx hb dX9_keeps_1 (by decide) ?_
  refine lv_aload_n hx hb dX9_keeps_2 rfl (lv_at hl 0 rfl) ?_
  refine f_get X hH 0 rfl rfl 0 (by decide) inX9 fX9_7 rfl dX9_keeps_3 ?_
  obtain ⟨v1, ev1, h⟩ := ltt_x h
  refine lv_topi (fun y0 e0 => ?_)
  rw [← ev1] at e0
  subst y0
  obtain ⟨j1, ej1, hinj1, h⟩ := ga_x h
  obtain ⟨xs1, exs1, h⟩ := ltt_x h
  refine a_is X hH (ws1 := (wX9 g a i xs1)) 14 rfl hinj1 ej1 (by rw [exs1]; rfl) dX9_keeps_6 (fun H locs hH => ?_)
  refine lv_aload_n hx hb dX9_keeps_7 rfl (lv_at hl 1 rfl) ?_
  refine lv_iconst (v := (1 : Int32)) hx hb dX9_keeps_8 (by decide) ?_
  refine lv_aload_n hx hb dX9_keeps_9 rfl (lv_at hl 0 rfl) ?_
  refine f_get X hH 0 rfl rfl 1 (by decide) inX9 fX9_120 rfl dX9_keeps_10 ?_
  obtain ⟨v2, ev2, h⟩ := ltt_x h
  refine lv_topi (fun y0 e0 => ?_)
  rw [← ev2] at e0
  subst y0
  obtain ⟨j2, ej2, hinj2, h⟩ := ga_x h
  obtain ⟨xs2, exs2, h⟩ := ltt_x h
  refine a_is X hH (ws1 := (wX9 g a i xs2)) 14 rfl hinj2 ej2 (by rw [exs2]; rfl) dX9_keeps_13 (fun H locs hH => ?_)
  refine lv_iconst (v := (0 : Int32)) hx hb dX9_keeps_14 (by decide) ?_
  refine s_in X (lv' := [(2, .int (0 : Int32)), (0, .ref (a i)), (1, .ref (a (i + 14)))]) hl rfl dX9_keeps_15 rfl (by decide) rfl (fun ls hl => ?_)
  exact pX9_keeps_14_16 X FU xs2 (0 : Int32) H locs ls h hH (lv_sub hl [1, 2, 0] rfl)

def fX9_image (xs : SX9) : Option (Int32 × SX9) :=
  (fX9_keeps_14 xs).bind fun o1 =>
  ltt ((m_isKept_s o1 (1 : Int32))) fun xs1 =>
  some ((m_many xs1), xs1)
set_option maxHeartbeats 4000000 in
set_option maxRecDepth 100000 in
theorem uX9_image {l : Launch} {g : GG} {a : Nat → Nat} {i : Nat} {xs : SX9} {o : (Int32 × SX9)} (h : fX9_image xs = some o) : mC l g yX9_image cX9_image 1 (some .int) (rM 1 22) [.ref (a i)] (wX9 g a i xs) (wX9 g a i o.2) (some (.int o.1)) := by
  refine mC.ofW (by decide) (fun p e s m below meth c X hH ls _ hl => ?_) (Nat.le_of_ble_eq_true rfl)
  have hx := X.1
  have hb := X.2.1
  have hl : lv_has ls 1 [(0, .ref (a i))] := hl
  unfold fX9_image at h
  suffices HH : ∀ (H : Heap) (locs : List Loc), mH g s (wX9 g a i xs) (wX9 g a i xs) H locs → W p l e (rM 1 22) s m _ below meth c H locs 0 0 (mZ g below _ s (wX9 g a i xs) (wX9 g a i o.2) (some (.int o.1))) (F0 m 0 ls []) from HH _ _ hH
  clear hH
  intro H locs hH
  refine lv_aload_n hx hb dX9_image_0 rfl (lv_at hl 0 rfl) ?_
  refine lv_aload_n hx hb dX9_image_1 rfl (lv_at hl 0 rfl) ?_
  refine f_get X hH 0 rfl rfl 17 (by decide) inX9 fX9_54 rfl dX9_image_2 ?_
  obtain ⟨o1, ho1, h⟩ := bd_x h
  refine r_V X hH (ws1 := (wX9 g a i o1)) (As := [.ref (a (i + 14))]) (rest := []) (st1 := []) (uX9_keeps_14 (a := a) (i := i) ho1) kX9_keeps mX9_210 iX9_keeps vX9_keeps zX9 okX9_keeps ⟨Nat.le_of_ble_eq_true rfl, Nat.le_of_ble_eq_true rfl⟩ rfl rfl (q0 := 0) rfl rfl (pm_all _) (pm_all _) rfl hl.1 rfl (Nat.le_of_ble_eq_true rfl) ⟨Nat.le_refl 0, Nat.le_refl 0⟩ rfl dX9_image_5 (fun H locs hH => ?_)
  refine lv_aload_n hx hb dX9_image_8 rfl (lv_at hl 0 rfl) ?_
  refine lv_iconst (v := (1 : Int32)) hx hb dX9_image_9 (by decide) ?_
  obtain ⟨xs1, exs1, h⟩ := ltt_x h
  refine f_put X hH (ws1 := (wX9 g a i xs1)) 0 rfl rfl 18 (by decide) inX9 tyX9 tyX9_ok nmX9 fX9_388 rfl rfl rfl (Nat.le_of_ble_eq_true rfl) (by rw [exs1]; rfl) dX9_image_10 (fun H locs hH => ?_)
  refine lv_aload_n hx hb dX9_image_13 rfl (lv_at hl 0 rfl) ?_
  refine f_get X hH 0 rfl rfl 1 (by decide) inX9 fX9_120 rfl dX9_image_14 ?_
  have h := Option.some.inj h
  subst h
  exact e_i X hH dX9_image_17

def qX9_brings_14_16   : Nat → SX9 → Int32 → Option SX9
  | 0, _, _ => none
  | fu + 1, xs, l2 =>
  (if (10 : Int32) ≤ l2 then
  some xs
  else
  ga 62 ((2 : Int32) + ((6 : Int32) * l2)) fun j3 =>
  ltt (((m_kept xs) j3)) fun v3 =>
  ga 11 l2 fun j4 =>
  ltt ((m_first_s xs (upd (m_first xs) j4 v3))) fun xs3 =>
  ga 62 ((3 : Int32) + ((6 : Int32) * l2)) fun j5 =>
  ltt (((m_kept xs3) j5)) fun v4 =>
  ga 11 l2 fun j6 =>
  ltt ((m_second_s xs3 (upd (m_second xs3) j6 v4))) fun xs4 =>
  ga 62 ((4 : Int32) + ((6 : Int32) * l2)) fun j7 =>
  ltt (((m_kept xs4) j7)) fun v5 =>
  ga 11 l2 fun j8 =>
  ltt ((m_kind_s xs4 (upd (m_kind xs4) j8 v5))) fun xs5 =>
  ga 62 ((5 : Int32) + ((6 : Int32) * l2)) fun j9 =>
  ltt (((m_kept xs5) j9)) fun v6 =>
  ga 11 l2 fun j10 =>
  ltt ((m_figure_s xs5 (upd (m_figure xs5) j10 v6))) fun xs6 =>
  ga 62 ((6 : Int32) + ((6 : Int32) * l2)) fun j11 =>
  ltt (((m_kept xs6) j11)) fun v7 =>
  ga 11 l2 fun j12 =>
  ltt ((m_load_s xs6 (upd (m_load xs6) j12 v7))) fun xs7 =>
  ga 62 ((7 : Int32) + ((6 : Int32) * l2)) fun j13 =>
  ltt (((m_kept xs7) j13)) fun v8 =>
  ga 11 l2 fun j14 =>
  ltt ((m_length_s xs7 (upd (m_length xs7) j14 v8))) fun xs8 =>
  ltt (l2 + (1 : Int32)) fun v9 =>
  qX9_brings_14_16  fu xs8 v9)
def fX9_brings_14 (xs : SX9) : Option SX9 :=
  ga 62 (0 : Int32) fun j1 =>
  ltt (((m_kept xs) j1)) fun v1 =>
  ltt ((m_points_s xs v1)) fun xs1 =>
  ga 62 (1 : Int32) fun j2 =>
  ltt (((m_kept xs1) j2)) fun v2 =>
  ltt ((m_many_s xs1 v2)) fun xs2 =>
  qX9_brings_14_16 FU xs2 (0 : Int32)
set_option maxHeartbeats 4000000 in
set_option maxRecDepth 100000 in
theorem pX9_brings_14_16 {p : Program} {l : Launch} {e : Env} {s : State} {m : MethodId} {args : Array Value} {below : List Frame} {meth : Method} {c : Code} {g : GG} {w0 : va_W} {a : Nat → Nat} {i : Nat}  {o : SX9} (X : mX g yX9_brings cX9_brings 3 none p s m args meth c w0) :
  ∀ (fu : Nat) (xs : SX9) (l2 : Int32) (H : Heap) (locs : List Loc) (ls : Array Slot), qX9_brings_14_16 fu xs l2 = some o → mH g s w0 (wX9 g a i xs) H locs → lv_has ls 3 [(0, .ref (a i)), (1, .ref (a (i + 14))), (2, .int l2)] → W p l e (rM 0 0) s m args below meth c H locs 0 0 (mZ g below args s w0 (wX9 g a i o) none) (F0 m 16 ls []) := by
  have hx := X.1
  have hb := X.2.1
  intro fu
  induction fu with
  | zero =>
    intro xs l2 H locs ls h
    unfold qX9_brings_14_16 at h
    cases h
  | succ fu ih =>
    intro xs l2 H locs ls h hH hl
    unfold qX9_brings_14_16 at h
    refine lv_iload_n hx hb dX9_brings_16 rfl (lv_at hl 2 rfl) ?_
    refine lv_bipush (v := (10 : Int32)) hx hb dX9_brings_17 (by decide) ?_
    refine lv_icmp_ge (tgt := 114) hx hb dX9_brings_19 (by decide) (fun c1 => ?_) (fun c1 => ?_)
    · have h := it_x h c1
      have h := Option.some.inj h
      subst h
      exact e_v X hH dX9_brings_114
    · have h := ie_x h c1
      refine lv_aload_n hx hb dX9_brings_22 rfl (lv_at hl 0 rfl) ?_
      refine f_get X hH 0 rfl rfl 2 (by decide) inX9 fX9_13 rfl dX9_brings_23 ?_
      refine lv_iload_n hx hb dX9_brings_26 rfl (lv_at hl 2 rfl) ?_
      refine lv_aload_n hx hb dX9_brings_27 rfl (lv_at hl 1 rfl) ?_
      refine lv_iconst (v := (2 : Int32)) hx hb dX9_brings_28 (by decide) ?_
      refine lv_bipush (v := (6 : Int32)) hx hb dX9_brings_29 (by decide) ?_
      refine lv_iload_n hx hb dX9_brings_31 rfl (lv_at hl 2 rfl) ?_
      refine lv_imul hx hb dX9_brings_32 ?_
      refine lv_iadd hx hb dX9_brings_33 ?_
      obtain ⟨j3, ej3, hinj3, h⟩ := ga_x h
      refine a_il X hH 14 rfl hinj3 ej3 dX9_brings_34 ?_
      obtain ⟨v3, ev3, h⟩ := ltt_x h
      refine lv_topi (fun y0 e0 => ?_)
      rw [← ev3] at e0
      subst y0
      obtain ⟨j4, ej4, hinj4, h⟩ := ga_x h
      obtain ⟨xs3, exs3, h⟩ := ltt_x h
      refine a_is X hH (ws1 := (wX9 g a i xs3)) 1 rfl hinj4 ej4 (by rw [exs3]; rfl) dX9_brings_35 (fun H locs hH => ?_)
      refine lv_aload_n hx hb dX9_brings_36 rfl (lv_at hl 0 rfl) ?_
      refine f_get X hH 0 rfl rfl 3 (by decide) inX9 fX9_17 rfl dX9_brings_37 ?_
      refine lv_iload_n hx hb dX9_brings_40 rfl (lv_at hl 2 rfl) ?_
      refine lv_aload_n hx hb dX9_brings_41 rfl (lv_at hl 1 rfl) ?_
      refine lv_iconst (v := (3 : Int32)) hx hb dX9_brings_42 (by decide) ?_
      refine lv_bipush (v := (6 : Int32)) hx hb dX9_brings_43 (by decide) ?_
      refine lv_iload_n hx hb dX9_brings_45 rfl (lv_at hl 2 rfl) ?_
      refine lv_imul hx hb dX9_brings_46 ?_
      refine lv_iadd hx hb dX9_brings_47 ?_
      obtain ⟨j5, ej5, hinj5, h⟩ := ga_x h
      refine a_il X hH 14 rfl hinj5 ej5 dX9_brings_48 ?_
      obtain ⟨v4, ev4, h⟩ := ltt_x h
      refine lv_topi (fun y0 e0 => ?_)
      rw [← ev4] at e0
      subst y0
      obtain ⟨j6, ej6, hinj6, h⟩ := ga_x h
      obtain ⟨xs4, exs4, h⟩ := ltt_x h
      refine a_is X hH (ws1 := (wX9 g a i xs4)) 2 rfl hinj6 ej6 (by rw [exs4]; rfl) dX9_brings_49 (fun H locs hH => ?_)
      refine lv_aload_n hx hb dX9_brings_50 rfl (lv_at hl 0 rfl) ?_
      refine f_get X hH 0 rfl rfl 4 (by decide) inX9 fX9_20 rfl dX9_brings_51 ?_
      refine lv_iload_n hx hb dX9_brings_54 rfl (lv_at hl 2 rfl) ?_
      refine lv_aload_n hx hb dX9_brings_55 rfl (lv_at hl 1 rfl) ?_
      refine lv_iconst (v := (4 : Int32)) hx hb dX9_brings_56 (by decide) ?_
      refine lv_bipush (v := (6 : Int32)) hx hb dX9_brings_57 (by decide) ?_
      refine lv_iload_n hx hb dX9_brings_59 rfl (lv_at hl 2 rfl) ?_
      refine lv_imul hx hb dX9_brings_60 ?_
      refine lv_iadd hx hb dX9_brings_61 ?_
      obtain ⟨j7, ej7, hinj7, h⟩ := ga_x h
      refine a_il X hH 14 rfl hinj7 ej7 dX9_brings_62 ?_
      obtain ⟨v5, ev5, h⟩ := ltt_x h
      refine lv_topi (fun y0 e0 => ?_)
      rw [← ev5] at e0
      subst y0
      obtain ⟨j8, ej8, hinj8, h⟩ := ga_x h
      obtain ⟨xs5, exs5, h⟩ := ltt_x h
      refine a_is X hH (ws1 := (wX9 g a i xs5)) 3 rfl hinj8 ej8 (by rw [exs5]; rfl) dX9_brings_63 (fun H locs hH => ?_)
      refine lv_aload_n hx hb dX9_brings_64 rfl (lv_at hl 0 rfl) ?_
      refine f_get X hH 0 rfl rfl 5 (by decide) inX9 fX9_23 rfl dX9_brings_65 ?_
      refine lv_iload_n hx hb dX9_brings_68 rfl (lv_at hl 2 rfl) ?_
      refine lv_aload_n hx hb dX9_brings_69 rfl (lv_at hl 1 rfl) ?_
      refine lv_iconst (v := (5 : Int32)) hx hb dX9_brings_70 (by decide) ?_
      refine lv_bipush (v := (6 : Int32)) hx hb dX9_brings_71 (by decide) ?_
      refine lv_iload_n hx hb dX9_brings_73 rfl (lv_at hl 2 rfl) ?_
      refine lv_imul hx hb dX9_brings_74 ?_
      refine lv_iadd hx hb dX9_brings_75 ?_
      obtain ⟨j9, ej9, hinj9, h⟩ := ga_x h
      refine a_il X hH 14 rfl hinj9 ej9 dX9_brings_76 ?_
      obtain ⟨v6, ev6, h⟩ := ltt_x h
      refine lv_topi (fun y0 e0 => ?_)
      rw [← ev6] at e0
      subst y0
      obtain ⟨j10, ej10, hinj10, h⟩ := ga_x h
      obtain ⟨xs6, exs6, h⟩ := ltt_x h
      refine a_is X hH (ws1 := (wX9 g a i xs6)) 4 rfl hinj10 ej10 (by rw [exs6]; rfl) dX9_brings_77 (fun H locs hH => ?_)
      refine lv_aload_n hx hb dX9_brings_78 rfl (lv_at hl 0 rfl) ?_
      refine f_get X hH 0 rfl rfl 6 (by decide) inX9 fX9_26 rfl dX9_brings_79 ?_
      refine lv_iload_n hx hb dX9_brings_82 rfl (lv_at hl 2 rfl) ?_
      refine lv_aload_n hx hb dX9_brings_83 rfl (lv_at hl 1 rfl) ?_
      refine lv_bipush (v := (6 : Int32)) hx hb dX9_brings_84 (by decide) ?_
      refine lv_bipush (v := (6 : Int32)) hx hb dX9_brings_86 (by decide) ?_
      refine lv_iload_n hx hb dX9_brings_88 rfl (lv_at hl 2 rfl) ?_
      refine lv_imul hx hb dX9_brings_89 ?_
      refine lv_iadd hx hb dX9_brings_90 ?_
      obtain ⟨j11, ej11, hinj11, h⟩ := ga_x h
      refine a_il X hH 14 rfl hinj11 ej11 dX9_brings_91 ?_
      obtain ⟨v7, ev7, h⟩ := ltt_x h
      refine lv_topi (fun y0 e0 => ?_)
      rw [← ev7] at e0
      subst y0
      obtain ⟨j12, ej12, hinj12, h⟩ := ga_x h
      obtain ⟨xs7, exs7, h⟩ := ltt_x h
      refine a_is X hH (ws1 := (wX9 g a i xs7)) 5 rfl hinj12 ej12 (by rw [exs7]; rfl) dX9_brings_92 (fun H locs hH => ?_)
      refine lv_aload_n hx hb dX9_brings_93 rfl (lv_at hl 0 rfl) ?_
      refine f_get X hH 0 rfl rfl 7 (by decide) inX9 fX9_29 rfl dX9_brings_94 ?_
      refine lv_iload_n hx hb dX9_brings_97 rfl (lv_at hl 2 rfl) ?_
      refine lv_aload_n hx hb dX9_brings_98 rfl (lv_at hl 1 rfl) ?_
      refine lv_bipush (v := (7 : Int32)) hx hb dX9_brings_99 (by decide) ?_
      refine lv_bipush (v := (6 : Int32)) hx hb dX9_brings_101 (by decide) ?_
      refine lv_iload_n hx hb dX9_brings_103 rfl (lv_at hl 2 rfl) ?_
      refine lv_imul hx hb dX9_brings_104 ?_
      refine lv_iadd hx hb dX9_brings_105 ?_
      obtain ⟨j13, ej13, hinj13, h⟩ := ga_x h
      refine a_il X hH 14 rfl hinj13 ej13 dX9_brings_106 ?_
      obtain ⟨v8, ev8, h⟩ := ltt_x h
      refine lv_topi (fun y0 e0 => ?_)
      rw [← ev8] at e0
      subst y0
      obtain ⟨j14, ej14, hinj14, h⟩ := ga_x h
      obtain ⟨xs8, exs8, h⟩ := ltt_x h
      refine a_is X hH (ws1 := (wX9 g a i xs8)) 6 rfl hinj14 ej14 (by rw [exs8]; rfl) dX9_brings_107 (fun H locs hH => ?_)
      obtain ⟨v9, ev9, h⟩ := ltt_x h
      refine s_inc X (k := 2) (lv' := [(2, .int v9), (0, .ref (a i)), (1, .ref (a (i + 14)))]) hl rfl (by rw [ev9]; rfl) dX9_brings_108 (by decide) rfl (fun ls hl => ?_)
      refine lv_goto (tgt := 16) hx hb dX9_brings_111 (by decide) ?_
      exact ih xs8 v9 H locs ls h hH (lv_sub hl [1, 2, 0] rfl)
set_option maxHeartbeats 4000000 in
set_option maxRecDepth 100000 in
theorem uX9_brings_14 {l : Launch} {g : GG} {a : Nat → Nat} {i : Nat} {xs : SX9} {o : SX9} (h : fX9_brings_14 xs = some o) : mC l g yX9_brings cX9_brings 3 none (rM 0 0) [.ref (a i), .ref (a (i + 14))] (wX9 g a i xs) (wX9 g a i o) none := by
  refine mC.ofW (by decide) (fun p e s m below meth c X hH ls _ hl => ?_) (Nat.le_of_ble_eq_true rfl)
  have hx := X.1
  have hb := X.2.1
  have hl : lv_has ls 3 [(0, .ref (a i)), (1, .ref (a (i + 14)))] := hl
  unfold fX9_brings_14 at h
  suffices HH : ∀ (H : Heap) (locs : List Loc), mH g s (wX9 g a i xs) (wX9 g a i xs) H locs → W p l e (rM 0 0) s m _ below meth c H locs 0 0 (mZ g below _ s (wX9 g a i xs) (wX9 g a i o) none) (F0 m 0 ls []) from HH _ _ hH
  clear hH
  intro H locs hH
  refine lv_aload_n hx hb dX9_brings_0 rfl (lv_at hl 0 rfl) ?_
  refine lv_aload_n hx hb dX9_brings_1 rfl (lv_at hl 1 rfl) ?_
  refine lv_iconst (v := (0 : Int32)) hx hb dX9_brings_2 (by decide) ?_
  obtain ⟨j1, ej1, hinj1, h⟩ := ga_x h
  refine a_il X hH 14 rfl hinj1 ej1 dX9_brings_3 ?_
  obtain ⟨v1, ev1, h⟩ := ltt_x h
  refine lv_topi (fun y0 e0 => ?_)
  rw [← ev1] at e0
  subst y0
  obtain ⟨xs1, exs1, h⟩ := ltt_x h
  refine f_put X hH (ws1 := (wX9 g a i xs1)) 0 rfl rfl 0 (by decide) inX9 tyX9 tyX9_ok nmX9 fX9_7 rfl rfl rfl (Nat.le_of_ble_eq_true rfl) (by rw [exs1]; rfl) dX9_brings_4 (fun H locs hH => ?_)
  refine lv_aload_n hx hb dX9_brings_7 rfl (lv_at hl 0 rfl) ?_
  refine lv_aload_n hx hb dX9_brings_8 rfl (lv_at hl 1 rfl) ?_
  refine lv_iconst (v := (1 : Int32)) hx hb dX9_brings_9 (by decide) ?_
  obtain ⟨j2, ej2, hinj2, h⟩ := ga_x h
  refine a_il X hH 14 rfl hinj2 ej2 dX9_brings_10 ?_
  obtain ⟨v2, ev2, h⟩ := ltt_x h
  refine lv_topi (fun y0 e0 => ?_)
  rw [← ev2] at e0
  subst y0
  obtain ⟨xs2, exs2, h⟩ := ltt_x h
  refine f_put X hH (ws1 := (wX9 g a i xs2)) 0 rfl rfl 1 (by decide) inX9 tyX9 tyX9_ok nmX9 fX9_120 rfl rfl rfl (Nat.le_of_ble_eq_true rfl) (by rw [exs2]; rfl) dX9_brings_11 (fun H locs hH => ?_)
  refine lv_iconst (v := (0 : Int32)) hx hb dX9_brings_14 (by decide) ?_
  refine s_in X (lv' := [(2, .int (0 : Int32)), (0, .ref (a i)), (1, .ref (a (i + 14)))]) hl rfl dX9_brings_15 rfl (by decide) rfl (fun ls hl => ?_)
  exact pX9_brings_14_16 X FU xs2 (0 : Int32) H locs ls h hH (lv_sub hl [1, 2, 0] rfl)
