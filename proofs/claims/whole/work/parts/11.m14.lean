def fX9_writes (xs : SX9) (pa : Int32) : Option SX9 :=
  ga 120 (m_saidMany xs) fun j1 =>
  ltt ((m_said_s xs (upd (m_said xs) j1 pa))) fun xs1 =>
  ltt (((m_saidMany xs1) + (1 : Int32))) fun v1 =>
  ltt ((m_saidMany_s xs1 v1)) fun xs2 =>
  some xs2
set_option maxHeartbeats 4000000 in
set_option maxRecDepth 100000 in
theorem uX9_writes {l : Launch} {g : GG} {a : Nat → Nat} {i : Nat} {xs : SX9} {pa : Int32} {o : SX9} (h : fX9_writes xs pa = some o) : mC l g yX9_writes cX9_writes 2 none (rM 0 0) [.ref (a i), .int pa] (wX9 g a i xs) (wX9 g a i o) none := by
  refine mC.ofW (by decide) (fun p e s m below meth c X hH ls _ hl => ?_) (Nat.le_of_ble_eq_true rfl)
  have hx := X.1
  have hb := X.2.1
  have hl : lv_has ls 2 [(0, .ref (a i)), (1, .int pa)] := hl
  unfold fX9_writes at h
  suffices HH : ∀ (H : Heap) (locs : List Loc), mH g s (wX9 g a i xs) (wX9 g a i xs) H locs → W p l e (rM 0 0) s m _ below meth c H locs 0 0 (mZ g below _ s (wX9 g a i xs) (wX9 g a i o) none) (F0 m 0 ls []) from HH _ _ hH
  clear hH
  intro H locs hH
  refine lv_aload_n hx hb dX9_writes_0 rfl (lv_at hl 0 rfl) ?_
  refine f_get X hH 0 rfl rfl 33 (by decide) inX9 fX9_77 rfl dX9_writes_1 ?_
  refine lv_aload_n hx hb dX9_writes_4 rfl (lv_at hl 0 rfl) ?_
  refine f_get X hH 0 rfl rfl 39 (by decide) inX9 fX9_338 rfl dX9_writes_5 ?_
  refine lv_iload_n hx hb dX9_writes_8 rfl (lv_at hl 1 rfl) ?_
  obtain ⟨j1, ej1, hinj1, h⟩ := ga_x h
  obtain ⟨xs1, exs1, h⟩ := ltt_x h
  refine a_is X hH (ws1 := (wX9 g a i xs1)) 21 rfl hinj1 ej1 (by rw [exs1]; rfl) dX9_writes_9 (fun H locs hH => ?_)
  refine lv_aload_n hx hb dX9_writes_10 rfl (lv_at hl 0 rfl) ?_
  refine lv_dup hx hb dX9_writes_11 rfl ?_
  refine f_get X hH 0 rfl rfl 39 (by decide) inX9 fX9_338 rfl dX9_writes_12 ?_
  refine lv_iconst (v := (1 : Int32)) hx hb dX9_writes_15 (by decide) ?_
  refine lv_iadd hx hb dX9_writes_16 ?_
  obtain ⟨v1, ev1, h⟩ := ltt_x h
  refine lv_topi (fun y0 e0 => ?_)
  rw [← ev1] at e0
  subst y0
  obtain ⟨xs2, exs2, h⟩ := ltt_x h
  refine f_put X hH (ws1 := (wX9 g a i xs2)) 0 rfl rfl 39 (by decide) inX9 tyX9 tyX9_ok nmX9 fX9_338 rfl rfl rfl (Nat.le_of_ble_eq_true rfl) (by rw [exs2]; rfl) dX9_writes_17 (fun H locs hH => ?_)
  have h := Option.some.inj h
  subst h
  exact e_v X hH dX9_writes_20

def qX9_saysAll_2 (xt : Nat → Int32)  : Nat → SX9 → Int32 → Option SX9
  | 0, _, _ => none
  | fu + 1, xs, l2 =>
  (if (6 : Int32) ≤ l2 then
  some xs
  else
  ga 6 l2 fun j1 =>
  (fX9_writes xs (xt j1)).bind fun o1 =>
  ltt (l2 + (1 : Int32)) fun v1 =>
  qX9_saysAll_2 xt  fu o1 v1)
def fX9_saysAll (xs : SX9) (xt : Nat → Int32) : Option SX9 :=
  qX9_saysAll_2 xt FU xs (0 : Int32)
set_option maxHeartbeats 4000000 in
set_option maxRecDepth 100000 in
theorem pX9_saysAll_2 {p : Program} {l : Launch} {e : Env} {s : State} {m : MethodId} {args : Array Value} {below : List Frame} {meth : Method} {c : Code} {g : GG} {w0 : va_W} {a : Nat → Nat} {i : Nat} {b : Nat → Nat} {xt : Nat → Int32} {o : SX9} (X : mX g yX9_saysAll cX9_saysAll 3 none p s m args meth c w0) :
  ∀ (fu : Nat) (xs : SX9) (l2 : Int32) (H : Heap) (locs : List Loc) (ls : Array Slot), qX9_saysAll_2 xt fu xs l2 = some o → mH g s w0 ((wX9 g a i xs) ++ [(b 0, .inl (g.2.1 3, 6, .inl (xt)))]) H locs → lv_has ls 3 [(0, .ref (a i)), (1, .ref (b 0)), (2, .int l2)] → W p l e (rM 1 21) s m args below meth c H locs 0 0 (mZ g below args s w0 ((wX9 g a i o) ++ [(b 0, .inl (g.2.1 3, 6, .inl (xt)))]) none) (F0 m 2 ls []) := by
  have hx := X.1
  have hb := X.2.1
  intro fu
  induction fu with
  | zero =>
    intro xs l2 H locs ls h
    unfold qX9_saysAll_2 at h
    cases h
  | succ fu ih =>
    intro xs l2 H locs ls h hH hl
    unfold qX9_saysAll_2 at h
    refine lv_iload_n hx hb dX9_saysAll_2 rfl (lv_at hl 2 rfl) ?_
    refine lv_aload_n hx hb dX9_saysAll_3 rfl (lv_at hl 1 rfl) ?_
    refine a_len X hH (v := (6 : Int32)) 34 3 rfl rfl rfl dX9_saysAll_4 ?_
    refine lv_icmp_ge (tgt := 21) hx hb dX9_saysAll_5 (by decide) (fun c1 => ?_) (fun c1 => ?_)
    · have h := it_x h c1
      have h := Option.some.inj h
      subst h
      exact e_v X hH dX9_saysAll_21
    · have h := ie_x h c1
      refine lv_aload_n hx hb dX9_saysAll_8 rfl (lv_at hl 0 rfl) ?_
      refine lv_aload_n hx hb dX9_saysAll_9 rfl (lv_at hl 1 rfl) ?_
      refine lv_iload_n hx hb dX9_saysAll_10 rfl (lv_at hl 2 rfl) ?_
      obtain ⟨j1, ej1, hinj1, h⟩ := ga_x h
      refine a_cl X hH 34 rfl hinj1 ej1 dX9_saysAll_11 ?_
      obtain ⟨o1, ho1, h⟩ := bd_x h
      refine r_V X hH (ws1 := ((wX9 g a i o1) ++ [(b 0, .inl (g.2.1 3, 6, .inl (xt)))])) (As := [.int (xt j1)]) (rest := []) (st1 := []) (uX9_writes (a := a) (i := i) ho1) kX9_writes mX9_341 iX9_writes vX9_writes zX9 okX9_writes ⟨Nat.le_of_ble_eq_true rfl, Nat.le_of_ble_eq_true rfl⟩ rfl rfl (q0 := 0) rfl rfl (pm_0 _ _) (pm_0 _ _) rfl hl.1 rfl (Nat.le_of_ble_eq_true rfl) ⟨Nat.le_refl 0, Nat.le_refl 0⟩ rfl dX9_saysAll_12 (fun H locs hH => ?_)
      obtain ⟨v1, ev1, h⟩ := ltt_x h
      refine s_inc X (k := 2) (lv' := [(2, .int v1), (0, .ref (a i)), (1, .ref (b 0))]) hl rfl (by rw [ev1]; rfl) dX9_saysAll_15 (by decide) rfl (fun ls hl => ?_)
      refine lv_goto (tgt := 2) hx hb dX9_saysAll_18 (by decide) ?_
      exact ih o1 v1 H locs ls h hH (lv_sub hl [1, 2, 0] rfl)
set_option maxHeartbeats 4000000 in
set_option maxRecDepth 100000 in
theorem uX9_saysAll {l : Launch} {g : GG} {a : Nat → Nat} {i : Nat} {b : Nat → Nat} {xs : SX9} {xt : Nat → Int32} {o : SX9} (h : fX9_saysAll xs xt = some o) : mC l g yX9_saysAll cX9_saysAll 3 none (rM 1 21) [.ref (a i), .ref (b 0)] ((wX9 g a i xs) ++ [(b 0, .inl (g.2.1 3, 6, .inl (xt)))]) ((wX9 g a i o) ++ [(b 0, .inl (g.2.1 3, 6, .inl (xt)))]) none := by
  refine mC.ofW (by decide) (fun p e s m below meth c X hH ls _ hl => ?_) (Nat.le_of_ble_eq_true rfl)
  have hx := X.1
  have hb := X.2.1
  have hl : lv_has ls 3 [(0, .ref (a i)), (1, .ref (b 0))] := hl
  unfold fX9_saysAll at h
  suffices HH : ∀ (H : Heap) (locs : List Loc), mH g s ((wX9 g a i xs) ++ [(b 0, .inl (g.2.1 3, 6, .inl (xt)))]) ((wX9 g a i xs) ++ [(b 0, .inl (g.2.1 3, 6, .inl (xt)))]) H locs → W p l e (rM 1 21) s m _ below meth c H locs 0 0 (mZ g below _ s ((wX9 g a i xs) ++ [(b 0, .inl (g.2.1 3, 6, .inl (xt)))]) ((wX9 g a i o) ++ [(b 0, .inl (g.2.1 3, 6, .inl (xt)))]) none) (F0 m 0 ls []) from HH _ _ hH
  clear hH
  intro H locs hH
  refine lv_iconst (v := (0 : Int32)) hx hb dX9_saysAll_0 (by decide) ?_
  refine s_in X (lv' := [(2, .int (0 : Int32)), (0, .ref (a i)), (1, .ref (b 0))]) hl rfl dX9_saysAll_1 rfl (by decide) rfl (fun ls hl => ?_)
  exact pX9_saysAll_2 X FU xs (0 : Int32) H locs ls h hH (lv_sub hl [1, 2, 0] rfl)

def qX9_saysNumber_16 (pa : Int64) (k5 : SX9 → Int32 → Int64 → Option SX9) (xs : SX9) (l3 : Int32) (l4 : Int64) : Option SX9 :=
  ltt (((l4 - l4 / (10 : Int64) * (10 : Int64)).toInt32)) fun v1 =>
  ga 20 l3 fun j1 =>
  ltt ((m_figures_s xs (upd (m_figures xs) j1 v1))) fun xs1 =>
  ltt ((l4 / (10 : Int64))) fun v2 =>
  ltt (l3 + (1 : Int32)) fun v3 =>
  k5 xs1 v3 v2
def qX9_saysNumber_48 (pa : Int64)  : Nat → SX9 → Int32 → Option SX9
  | 0, _, _ => none
  | fu + 1, xs, l6 =>
  (if l6 < (0 : Int32) then
  some xs
  else
  ga 20 l6 fun j2 =>
  (fX9_writes xs ((48 : Int32) + ((m_figures xs) j2))).bind fun o1 =>
  ltt (l6 + (-1 : Int32)) fun v5 =>
  qX9_saysNumber_48 pa  fu o1 v5)
def qX9_saysNumber_5 (pa : Int64)  : Nat → SX9 → Int32 → Int64 → Option SX9
  | 0, _, _, _ => none
  | fu + 1, xs, l3, l4 =>
  (if (0 : Int64) < l4 then
  qX9_saysNumber_16 pa (qX9_saysNumber_5 pa  fu) xs l3 l4
  else
  (if l3 = (0 : Int32) then
  qX9_saysNumber_16 pa (qX9_saysNumber_5 pa  fu) xs l3 l4
  else
  ltt ((l3 - (1 : Int32))) fun v4 =>
  qX9_saysNumber_48 pa FU xs v4))
def fX9_saysNumber (xs : SX9) (pa : Int64) : Option SX9 :=
  qX9_saysNumber_5 pa FU xs (0 : Int32) pa
set_option maxHeartbeats 4000000 in
set_option maxRecDepth 100000 in
theorem pX9_saysNumber_16 {p : Program} {l : Launch} {e : Env} {s : State} {m : MethodId} {args : Array Value} {below : List Frame} {meth : Method} {c : Code} {g : GG} {w0 : va_W} {a : Nat → Nat} {i : Nat} {pa : Int64} {o : SX9} (X : mX g yX9_saysNumber cX9_saysNumber 7 none p s m args meth c w0)
  {k5 : SX9 → Int32 → Int64 → Option SX9} (K5 : ∀ (xs : SX9) (l3 : Int32) (l4 : Int64) (H : Heap) (locs : List Loc) (ls : Array Slot), k5 xs l3 l4 = some o → mH g s w0 (wX9 g a i xs) H locs → lv_has ls 7 [(0, .ref (a i)), (1, .long pa), (3, .int l3), (4, .long l4)] → W p l e (rM 1 21) s m args below meth c H locs 0 0 (mZ g below args s w0 (wX9 g a i o) none) (F0 m 5 ls [])) :
  ∀ (xs : SX9) (l3 : Int32) (l4 : Int64) (H : Heap) (locs : List Loc) (ls : Array Slot), qX9_saysNumber_16 pa k5 xs l3 l4 = some o → mH g s w0 (wX9 g a i xs) H locs → lv_has ls 7 [(0, .ref (a i)), (1, .long pa), (3, .int l3), (4, .long l4)] → W p l e (rM 1 21) s m args below meth c H locs 0 0 (mZ g below args s w0 (wX9 g a i o) none) (F0 m 16 ls []) := by
  have hx := X.1
  have hb := X.2.1
  intro xs l3 l4 H locs ls h hH hl
  unfold qX9_saysNumber_16 at h
  refine lv_aload_n hx hb dX9_saysNumber_16 rfl (lv_at hl 0 rfl) ?_
  refine f_get X hH 0 rfl rfl 34 (by decide) inX9 fX9_80 rfl dX9_saysNumber_17 ?_
  refine lv_iload_n hx hb dX9_saysNumber_20 rfl (lv_at hl 2 rfl) ?_
  refine lv_lload hx hb dX9_saysNumber_21 (lv_at hl 3 rfl) ?_
  refine lv_ldc2 hx hb X.2.2.2.2.1 (X.2.2.2.2.2.1 _ nX9_344) dX9_saysNumber_23 ?_
  refine lv_lrem hx hb dX9_saysNumber_26 (by decide) ?_
  refine lv_l2i hx hb dX9_saysNumber_27 rfl ?_
  obtain ⟨v1, ev1, h⟩ := ltt_x h
  refine lv_topi (fun y0 e0 => ?_)
  rw [← ev1] at e0
  subst y0
  obtain ⟨j1, ej1, hinj1, h⟩ := ga_x h
  obtain ⟨xs1, exs1, h⟩ := ltt_x h
  refine a_is X hH (ws1 := (wX9 g a i xs1)) 22 rfl hinj1 ej1 (by rw [exs1]; rfl) dX9_saysNumber_28 (fun H locs hH => ?_)
  refine lv_lload hx hb dX9_saysNumber_29 (lv_at hl 3 rfl) ?_
  refine lv_ldc2 hx hb X.2.2.2.2.1 (X.2.2.2.2.2.1 _ nX9_344) dX9_saysNumber_31 ?_
  refine lv_ldiv hx hb dX9_saysNumber_34 (by decide) ?_
  obtain ⟨v2, ev2, h⟩ := ltt_x h
  refine s_l X (lv' := [(4, .long v2), (0, .ref (a i)), (1, .long pa), (3, .int l3)]) hl ev2 dX9_saysNumber_35 (by decide) rfl (fun ls hl => ?_)
  obtain ⟨v3, ev3, h⟩ := ltt_x h
  refine s_inc X (k := 3) (lv' := [(3, .int v3), (4, .long v2), (0, .ref (a i)), (1, .long pa)]) hl rfl (by rw [ev3]; rfl) dX9_saysNumber_37 (by decide) rfl (fun ls hl => ?_)
  refine lv_goto (tgt := 5) hx hb dX9_saysNumber_40 (by decide) ?_
  exact K5 xs1 v3 v2 H locs ls h hH (lv_sub hl [2, 3, 0, 1] rfl)
set_option maxHeartbeats 4000000 in
set_option maxRecDepth 100000 in
theorem pX9_saysNumber_48 {p : Program} {l : Launch} {e : Env} {s : State} {m : MethodId} {args : Array Value} {below : List Frame} {meth : Method} {c : Code} {g : GG} {w0 : va_W} {a : Nat → Nat} {i : Nat} {pa : Int64} {o : SX9} (X : mX g yX9_saysNumber cX9_saysNumber 7 none p s m args meth c w0) :
  ∀ (fu : Nat) (xs : SX9) (l6 : Int32) (H : Heap) (locs : List Loc) (ls : Array Slot), qX9_saysNumber_48 pa fu xs l6 = some o → mH g s w0 (wX9 g a i xs) H locs → lv_has ls 7 [(0, .ref (a i)), (1, .long pa), (6, .int l6)] → W p l e (rM 1 21) s m args below meth c H locs 0 0 (mZ g below args s w0 (wX9 g a i o) none) (F0 m 48 ls []) := by
  have hx := X.1
  have hb := X.2.1
  intro fu
  induction fu with
  | zero =>
    intro xs l6 H locs ls h
    unfold qX9_saysNumber_48 at h
    cases h
  | succ fu ih =>
    intro xs l6 H locs ls h hH hl
    unfold qX9_saysNumber_48 at h
    refine lv_iload hx hb dX9_saysNumber_48 (lv_at hl 2 rfl) ?_
    refine lv_if_lt (tgt := 73) hx hb dX9_saysNumber_50 (by decide) (fun c3 => ?_) (fun c3 => ?_)
    · have h := it_x h c3
      have h := Option.some.inj h
      subst h
      exact e_v X hH dX9_saysNumber_73
    · have h := ie_x h c3
      refine lv_aload_n hx hb dX9_saysNumber_53 rfl (lv_at hl 0 rfl) ?_
      refine lv_bipush (v := (48 : Int32)) hx hb dX9_saysNumber_54 (by decide) ?_
      refine lv_aload_n hx hb dX9_saysNumber_56 rfl (lv_at hl 0 rfl) ?_
      refine f_get X hH 0 rfl rfl 34 (by decide) inX9 fX9_80 rfl dX9_saysNumber_57 ?_
      refine lv_iload hx hb dX9_saysNumber_60 (lv_at hl 2 rfl) ?_
      obtain ⟨j2, ej2, hinj2, h⟩ := ga_x h
      refine a_il X hH 22 rfl hinj2 ej2 dX9_saysNumber_62 ?_
      refine lv_iadd hx hb dX9_saysNumber_63 ?_
      obtain ⟨o1, ho1, h⟩ := bd_x h
      refine r_V X hH (ws1 := (wX9 g a i o1)) (As := [.int ((48 : Int32) + ((m_figures xs) j2))]) (rest := []) (st1 := []) (uX9_writes (a := a) (i := i) ho1) kX9_writes mX9_341 iX9_writes vX9_writes zX9 okX9_writes ⟨Nat.le_of_ble_eq_true rfl, Nat.le_of_ble_eq_true rfl⟩ rfl rfl (q0 := 0) rfl rfl (pm_all _) (pm_all _) rfl hl.1 rfl (Nat.le_of_ble_eq_true rfl) ⟨Nat.le_refl 0, Nat.le_refl 0⟩ rfl dX9_saysNumber_64 (fun H locs hH => ?_)
      obtain ⟨v5, ev5, h⟩ := ltt_x h
      refine s_inc X (k := 2) (lv' := [(6, .int v5), (0, .ref (a i)), (1, .long pa)]) hl rfl (by rw [ev5]; rfl) dX9_saysNumber_67 (by decide) rfl (fun ls hl => ?_)
      refine lv_goto (tgt := 48) hx hb dX9_saysNumber_70 (by decide) ?_
      exact ih o1 v5 H locs ls h hH (lv_sub hl [1, 2, 0] rfl)
set_option maxHeartbeats 4000000 in
set_option maxRecDepth 100000 in
theorem pX9_saysNumber_5 {p : Program} {l : Launch} {e : Env} {s : State} {m : MethodId} {args : Array Value} {below : List Frame} {meth : Method} {c : Code} {g : GG} {w0 : va_W} {a : Nat → Nat} {i : Nat} {pa : Int64} {o : SX9} (X : mX g yX9_saysNumber cX9_saysNumber 7 none p s m args meth c w0) :
  ∀ (fu : Nat) (xs : SX9) (l3 : Int32) (l4 : Int64) (H : Heap) (locs : List Loc) (ls : Array Slot), qX9_saysNumber_5 pa fu xs l3 l4 = some o → mH g s w0 (wX9 g a i xs) H locs → lv_has ls 7 [(0, .ref (a i)), (1, .long pa), (3, .int l3), (4, .long l4)] → W p l e (rM 1 21) s m args below meth c H locs 0 0 (mZ g below args s w0 (wX9 g a i o) none) (F0 m 5 ls []) := by
  have hx := X.1
  have hb := X.2.1
  intro fu
  induction fu with
  | zero =>
    intro xs l3 l4 H locs ls h
    unfold qX9_saysNumber_5 at h
    cases h
  | succ fu ih =>
    intro xs l3 l4 H locs ls h hH hl
    unfold qX9_saysNumber_5 at h
    refine lv_lload hx hb dX9_saysNumber_5 (lv_at hl 3 rfl) ?_
    refine lv_lconst (v := (0 : Int64)) hx hb dX9_saysNumber_7 (by decide) ?_
    refine W.lcmp hx hb dX9_saysNumber_8 ?_
    refine lv_if_gt (tgt := 16) hx hb dX9_saysNumber_9 (by decide) (fun c1 => ?_) (fun c1 => ?_)
    · have h := it_x h ((lg_cmp_gt l4 (0 : Int64)).mp c1)
      exact pX9_saysNumber_16 X ih xs l3 l4 H locs ls h hH (lv_sub hl [0, 1, 2, 3] rfl)
    · have h := ie_x h (mt (lg_cmp_gt l4 (0 : Int64)).mpr c1)
      refine lv_iload_n hx hb dX9_saysNumber_12 rfl (lv_at hl 2 rfl) ?_
      refine lv_if_ne (tgt := 43) hx hb dX9_saysNumber_13 (by decide) (fun c2 => ?_) (fun c2 => ?_)
      · have h := ie_x h c2
        refine lv_iload_n hx hb dX9_saysNumber_43 rfl (lv_at hl 2 rfl) ?_
        refine lv_iconst (v := (1 : Int32)) hx hb dX9_saysNumber_44 (by decide) ?_
        refine lv_isub hx hb dX9_saysNumber_45 ?_
        obtain ⟨v4, ev4, h⟩ := ltt_x h
        refine s_i X (lv' := [(6, .int v4), (0, .ref (a i)), (1, .long pa), (3, .int l3), (4, .long l4)]) hl ev4 dX9_saysNumber_46 (by decide) rfl (fun ls hl => ?_)
        exact pX9_saysNumber_48 X FU xs v4 H locs ls h hH (lv_sub hl [1, 2, 0] rfl)
      · have h := it_x h c2
        exact pX9_saysNumber_16 X ih xs l3 l4 H locs ls h hH (lv_sub hl [0, 1, 2, 3] rfl)
set_option maxHeartbeats 4000000 in
set_option maxRecDepth 100000 in
theorem uX9_saysNumber {l : Launch} {g : GG} {a : Nat → Nat} {i : Nat} {xs : SX9} {pa : Int64} {o : SX9} (h : fX9_saysNumber xs pa = some o) : mC l g yX9_saysNumber cX9_saysNumber 7 none (rM 1 21) [.ref (a i), .long pa] (wX9 g a i xs) (wX9 g a i o) none := by
  refine mC.ofW (by decide) (fun p e s m below meth c X hH ls _ hl => ?_) (Nat.le_of_ble_eq_true rfl)
  have hx := X.1
  have hb := X.2.1
  have hl : lv_has ls 7 [(0, .ref (a i)), (1, .long pa)] := hl
  unfold fX9_saysNumber at h
  suffices HH : ∀ (H : Heap) (locs : List Loc), mH g s (wX9 g a i xs) (wX9 g a i xs) H locs → W p l e (rM 1 21) s m _ below meth c H locs 0 0 (mZ g below _ s (wX9 g a i xs) (wX9 g a i o) none) (F0 m 0 ls []) from HH _ _ hH
  clear hH
  intro H locs hH
  refine lv_iconst (v := (0 : Int32)) hx hb dX9_saysNumber_0 (by decide) ?_
  refine s_in X (lv' := [(3, .int (0 : Int32)), (0, .ref (a i)), (1, .long pa)]) hl rfl dX9_saysNumber_1 rfl (by decide) rfl (fun ls hl => ?_)
  refine lv_lload_n hx hb dX9_saysNumber_2 rfl (lv_at hl 2 rfl) ?_
  refine s_l X (lv' := [(4, .long pa), (3, .int (0 : Int32)), (0, .ref (a i)), (1, .long pa)]) hl rfl dX9_saysNumber_3 (by decide) rfl (fun ls hl => ?_)
  exact pX9_saysNumber_5 X FU xs (0 : Int32) pa H locs ls h hH (lv_sub hl [2, 3, 1, 0] rfl)

def fX9_saysFraction (xs : SX9) (pa : Int64) (pb : Int64) : Option SX9 :=
  (fX9_partOf pa pb (0 : Int32)).bind fun o1 =>
  (fX9_saysNumber xs o1).bind fun o2 =>
  (fX9_partOf pa pb (1 : Int32)).bind fun o3 =>
  (if o3 = (1 : Int64) then
  some o2
  else
  (fX9_writes o2 (47 : Int32)).bind fun o4 =>
  (fX9_partOf pa pb (1 : Int32)).bind fun o5 =>
  (fX9_saysNumber o4 o5).bind fun o6 =>
  some o6)
set_option maxHeartbeats 4000000 in
set_option maxRecDepth 100000 in
theorem uX9_saysFraction {l : Launch} {g : GG} {a : Nat → Nat} {i : Nat} {xs : SX9} {pa : Int64} {pb : Int64} {o : SX9} (h : fX9_saysFraction xs pa pb = some o) : mC l g yX9_saysFraction cX9_saysFraction 5 none (rM 2 53) [.ref (a i), .long pa, .long pb] (wX9 g a i xs) (wX9 g a i o) none := by
  refine mC.ofW (by decide) (fun p e s m below meth c X hH ls _ hl => ?_) (Nat.le_of_ble_eq_true rfl)
  have hx := X.1
  have hb := X.2.1
  have hl : lv_has ls 5 [(0, .ref (a i)), (1, .long pa), (3, .long pb)] := hl
  unfold fX9_saysFraction at h
  suffices HH : ∀ (H : Heap) (locs : List Loc), mH g s (wX9 g a i xs) (wX9 g a i xs) H locs → W p l e (rM 2 53) s m _ below meth c H locs 0 0 (mZ g below _ s (wX9 g a i xs) (wX9 g a i o) none) (F0 m 0 ls []) from HH _ _ hH
  clear hH
  intro H locs hH
  refine lv_aload_n hx hb dX9_saysFraction_0 rfl (lv_at hl 0 rfl) ?_
  refine lv_lload_n hx hb dX9_saysFraction_1 rfl (lv_at hl 1 rfl) ?_
  refine lv_lload_n hx hb dX9_saysFraction_2 rfl (lv_at hl 2 rfl) ?_
  refine lv_iconst (v := (0 : Int32)) hx hb dX9_saysFraction_3 (by decide) ?_
  obtain ⟨o1, ho1, h⟩ := bd_x h
  refine r_S X hH (ws1 := (wX9 g a i xs)) (As := [.long pa, .long pb, .int (0 : Int32)]) (rest := [.ref (a i)]) (st1 := [.long o1, .ref (a i)]) (uX9_partOf  ho1) kX9_partOf mX9_279 sX9_partOf zX9 okX9_partOf ⟨Nat.le_of_ble_eq_true rfl, Nat.le_of_ble_eq_true rfl⟩ rfl rfl (pm_none _) (pm_none _) rfl hl.1 rfl (Nat.le_of_ble_eq_true rfl) ⟨Nat.le_refl 0, Nat.le_refl 0⟩ rfl dX9_saysFraction_4 (fun H locs hH => ?_)
  obtain ⟨o2, ho2, h⟩ := bd_x h
  refine r_V X hH (ws1 := (wX9 g a i o2)) (As := [.long o1]) (rest := []) (st1 := []) (uX9_saysNumber (a := a) (i := i) ho2) kX9_saysNumber mX9_346 iX9_saysNumber vX9_saysNumber zX9 okX9_saysNumber ⟨Nat.le_of_ble_eq_true rfl, Nat.le_of_ble_eq_true rfl⟩ rfl rfl (q0 := 0) rfl rfl (pm_all _) (pm_all _) rfl hl.1 rfl (Nat.le_of_ble_eq_true rfl) ⟨Nat.le_refl 0, Nat.le_refl 0⟩ rfl dX9_saysFraction_7 (fun H locs hH => ?_)
  refine lv_lload_n hx hb dX9_saysFraction_10 rfl (lv_at hl 1 rfl) ?_
  refine lv_lload_n hx hb dX9_saysFraction_11 rfl (lv_at hl 2 rfl) ?_
  refine lv_iconst (v := (1 : Int32)) hx hb dX9_saysFraction_12 (by decide) ?_
  obtain ⟨o3, ho3, h⟩ := bd_x h
  refine r_S X hH (ws1 := (wX9 g a i o2)) (As := [.long pa, .long pb, .int (1 : Int32)]) (rest := []) (st1 := [.long o3]) (uX9_partOf  ho3) kX9_partOf mX9_279 sX9_partOf zX9 okX9_partOf ⟨Nat.le_of_ble_eq_true rfl, Nat.le_of_ble_eq_true rfl⟩ rfl rfl (pm_none _) (pm_none _) rfl hl.1 rfl (Nat.le_of_ble_eq_true rfl) ⟨Nat.le_refl 0, Nat.le_refl 0⟩ rfl dX9_saysFraction_13 (fun H locs hH => ?_)
  refine lv_lconst (v := (1 : Int64)) hx hb dX9_saysFraction_16 (by decide) ?_
  refine W.lcmp hx hb dX9_saysFraction_17 ?_
  refine lv_if_ne (tgt := 22) hx hb dX9_saysFraction_18 (by decide) (fun c1 => ?_) (fun c1 => ?_)
  · have h := ie_x h (mt (lg_cmp_eq o3 (1 : Int64)).mpr c1)
    refine lv_aload_n hx hb dX9_saysFraction_22 rfl (lv_at hl 0 rfl) ?_
    refine lv_bipush (v := (47 : Int32)) hx hb dX9_saysFraction_23 (by decide) ?_
    obtain ⟨o4, ho4, h⟩ := bd_x h
    refine r_V X hH (ws1 := (wX9 g a i o4)) (As := [.int (47 : Int32)]) (rest := []) (st1 := []) (uX9_writes (a := a) (i := i) ho4) kX9_writes mX9_341 iX9_writes vX9_writes zX9 okX9_writes ⟨Nat.le_of_ble_eq_true rfl, Nat.le_of_ble_eq_true rfl⟩ rfl rfl (q0 := 0) rfl rfl (pm_all _) (pm_all _) rfl hl.1 rfl (Nat.le_of_ble_eq_true rfl) ⟨Nat.le_refl 0, Nat.le_refl 0⟩ rfl dX9_saysFraction_25 (fun H locs hH => ?_)
    refine lv_aload_n hx hb dX9_saysFraction_28 rfl (lv_at hl 0 rfl) ?_
    refine lv_lload_n hx hb dX9_saysFraction_29 rfl (lv_at hl 1 rfl) ?_
    refine lv_lload_n hx hb dX9_saysFraction_30 rfl (lv_at hl 2 rfl) ?_
    refine lv_iconst (v := (1 : Int32)) hx hb dX9_saysFraction_31 (by decide) ?_
    obtain ⟨o5, ho5, h⟩ := bd_x h
    refine r_S X hH (ws1 := (wX9 g a i o4)) (As := [.long pa, .long pb, .int (1 : Int32)]) (rest := [.ref (a i)]) (st1 := [.long o5, .ref (a i)]) (uX9_partOf  ho5) kX9_partOf mX9_279 sX9_partOf zX9 okX9_partOf ⟨Nat.le_of_ble_eq_true rfl, Nat.le_of_ble_eq_true rfl⟩ rfl rfl (pm_none _) (pm_none _) rfl hl.1 rfl (Nat.le_of_ble_eq_true rfl) ⟨Nat.le_refl 0, Nat.le_refl 0⟩ rfl dX9_saysFraction_32 (fun H locs hH => ?_)
    obtain ⟨o6, ho6, h⟩ := bd_x h
    refine r_V X hH (ws1 := (wX9 g a i o6)) (As := [.long o5]) (rest := []) (st1 := []) (uX9_saysNumber (a := a) (i := i) ho6) kX9_saysNumber mX9_346 iX9_saysNumber vX9_saysNumber zX9 okX9_saysNumber ⟨Nat.le_of_ble_eq_true rfl, Nat.le_of_ble_eq_true rfl⟩ rfl rfl (q0 := 0) rfl rfl (pm_all _) (pm_all _) rfl hl.1 rfl (Nat.le_of_ble_eq_true rfl) ⟨Nat.le_refl 0, Nat.le_refl 0⟩ rfl dX9_saysFraction_35 (fun H locs hH => ?_)
    have h := Option.some.inj h
    subst h
    exact e_v X hH dX9_saysFraction_38
  · have h := it_x h ((lg_cmp_eq o3 (1 : Int64)).mp c1)
    have h := Option.some.inj h
    subst h
    exact e_v X hH dX9_saysFraction_21

def qX9_saysAll_23_2   : Nat → SX9 → Int32 → Option SX9
  | 0, _, _ => none
  | fu + 1, xs, l2 =>
  (if (4 : Int32) ≤ l2 then
  some xs
  else
  ga 4 l2 fun j1 =>
  (fX9_writes xs ((m_to xs) j1)).bind fun o1 =>
  ltt (l2 + (1 : Int32)) fun v1 =>
  qX9_saysAll_23_2  fu o1 v1)
def fX9_saysAll_23 (xs : SX9) : Option SX9 :=
  qX9_saysAll_23_2 FU xs (0 : Int32)
set_option maxHeartbeats 4000000 in
set_option maxRecDepth 100000 in
theorem pX9_saysAll_23_2 {p : Program} {l : Launch} {e : Env} {s : State} {m : MethodId} {args : Array Value} {below : List Frame} {meth : Method} {c : Code} {g : GG} {w0 : va_W} {a : Nat → Nat} {i : Nat}  {o : SX9} (X : mX g yX9_saysAll cX9_saysAll 3 none p s m args meth c w0) :
  ∀ (fu : Nat) (xs : SX9) (l2 : Int32) (H : Heap) (locs : List Loc) (ls : Array Slot), qX9_saysAll_23_2 fu xs l2 = some o → mH g s w0 (wX9 g a i xs) H locs → lv_has ls 3 [(0, .ref (a i)), (1, .ref (a (i + 23))), (2, .int l2)] → W p l e (rM 1 21) s m args below meth c H locs 0 0 (mZ g below args s w0 (wX9 g a i o) none) (F0 m 2 ls []) := by
  have hx := X.1
  have hb := X.2.1
  intro fu
  induction fu with
  | zero =>
    intro xs l2 H locs ls h
    unfold qX9_saysAll_23_2 at h
    cases h
  | succ fu ih =>
    intro xs l2 H locs ls h hH hl
    unfold qX9_saysAll_23_2 at h
    refine lv_iload_n hx hb dX9_saysAll_2 rfl (lv_at hl 2 rfl) ?_
    refine lv_aload_n hx hb dX9_saysAll_3 rfl (lv_at hl 1 rfl) ?_
    refine a_len X hH (v := (4 : Int32)) 23 3 rfl rfl rfl dX9_saysAll_4 ?_
    refine lv_icmp_ge (tgt := 21) hx hb dX9_saysAll_5 (by decide) (fun c1 => ?_) (fun c1 => ?_)
    · have h := it_x h c1
      have h := Option.some.inj h
      subst h
      exact e_v X hH dX9_saysAll_21
    · have h := ie_x h c1
      refine lv_aload_n hx hb dX9_saysAll_8 rfl (lv_at hl 0 rfl) ?_
      refine lv_aload_n hx hb dX9_saysAll_9 rfl (lv_at hl 1 rfl) ?_
      refine lv_iload_n hx hb dX9_saysAll_10 rfl (lv_at hl 2 rfl) ?_
      obtain ⟨j1, ej1, hinj1, h⟩ := ga_x h
      refine a_cl X hH 23 rfl hinj1 ej1 dX9_saysAll_11 ?_
      obtain ⟨o1, ho1, h⟩ := bd_x h
      refine r_V X hH (ws1 := (wX9 g a i o1)) (As := [.int ((m_to xs) j1)]) (rest := []) (st1 := []) (uX9_writes (a := a) (i := i) ho1) kX9_writes mX9_341 iX9_writes vX9_writes zX9 okX9_writes ⟨Nat.le_of_ble_eq_true rfl, Nat.le_of_ble_eq_true rfl⟩ rfl rfl (q0 := 0) rfl rfl (pm_all _) (pm_all _) rfl hl.1 rfl (Nat.le_of_ble_eq_true rfl) ⟨Nat.le_refl 0, Nat.le_refl 0⟩ rfl dX9_saysAll_12 (fun H locs hH => ?_)
      obtain ⟨v1, ev1, h⟩ := ltt_x h
      refine s_inc X (k := 2) (lv' := [(2, .int v1), (0, .ref (a i)), (1, .ref (a (i + 23)))]) hl rfl (by rw [ev1]; rfl) dX9_saysAll_15 (by decide) rfl (fun ls hl => ?_)
      refine lv_goto (tgt := 2) hx hb dX9_saysAll_18 (by decide) ?_
      exact ih o1 v1 H locs ls h hH (lv_sub hl [1, 2, 0] rfl)
set_option maxHeartbeats 4000000 in
set_option maxRecDepth 100000 in
theorem uX9_saysAll_23 {l : Launch} {g : GG} {a : Nat → Nat} {i : Nat} {xs : SX9} {o : SX9} (h : fX9_saysAll_23 xs = some o) : mC l g yX9_saysAll cX9_saysAll 3 none (rM 1 21) [.ref (a i), .ref (a (i + 23))] (wX9 g a i xs) (wX9 g a i o) none := by
  refine mC.ofW (by decide) (fun p e s m below meth c X hH ls _ hl => ?_) (Nat.le_of_ble_eq_true rfl)
  have hx := X.1
  have hb := X.2.1
  have hl : lv_has ls 3 [(0, .ref (a i)), (1, .ref (a (i + 23)))] := hl
  unfold fX9_saysAll_23 at h
  suffices HH : ∀ (H : Heap) (locs : List Loc), mH g s (wX9 g a i xs) (wX9 g a i xs) H locs → W p l e (rM 1 21) s m _ below meth c H locs 0 0 (mZ g below _ s (wX9 g a i xs) (wX9 g a i o) none) (F0 m 0 ls []) from HH _ _ hH
  clear hH
  intro H locs hH
  refine lv_iconst (v := (0 : Int32)) hx hb dX9_saysAll_0 (by decide) ?_
  refine s_in X (lv' := [(2, .int (0 : Int32)), (0, .ref (a i)), (1, .ref (a (i + 23)))]) hl rfl dX9_saysAll_1 rfl (by decide) rfl (fun ls hl => ?_)
  exact pX9_saysAll_23_2 X FU xs (0 : Int32) H locs ls h hH (lv_sub hl [1, 2, 0] rfl)

def qX9_saysAll_24_2   : Nat → SX9 → Int32 → Option SX9
  | 0, _, _ => none
  | fu + 1, xs, l2 =>
  (if (5 : Int32) ≤ l2 then
  some xs
  else
  ga 5 l2 fun j1 =>
  (fX9_writes xs ((m_never xs) j1)).bind fun o1 =>
  ltt (l2 + (1 : Int32)) fun v1 =>
  qX9_saysAll_24_2  fu o1 v1)
def fX9_saysAll_24 (xs : SX9) : Option SX9 :=
  qX9_saysAll_24_2 FU xs (0 : Int32)
set_option maxHeartbeats 4000000 in
set_option maxRecDepth 100000 in
theorem pX9_saysAll_24_2 {p : Program} {l : Launch} {e : Env} {s : State} {m : MethodId} {args : Array Value} {below : List Frame} {meth : Method} {c : Code} {g : GG} {w0 : va_W} {a : Nat → Nat} {i : Nat}  {o : SX9} (X : mX g yX9_saysAll cX9_saysAll 3 none p s m args meth c w0) :
  ∀ (fu : Nat) (xs : SX9) (l2 : Int32) (H : Heap) (locs : List Loc) (ls : Array Slot), qX9_saysAll_24_2 fu xs l2 = some o → mH g s w0 (wX9 g a i xs) H locs → lv_has ls 3 [(0, .ref (a i)), (1, .ref (a (i + 24))), (2, .int l2)] → W p l e (rM 1 21) s m args below meth c H locs 0 0 (mZ g below args s w0 (wX9 g a i o) none) (F0 m 2 ls []) := by
  have hx := X.1
  have hb := X.2.1
  intro fu
  induction fu with
  | zero =>
    intro xs l2 H locs ls h
    unfold qX9_saysAll_24_2 at h
    cases h
  | succ fu ih =>
    intro xs l2 H locs ls h hH hl
    unfold qX9_saysAll_24_2 at h
    refine lv_iload_n hx hb dX9_saysAll_2 rfl (lv_at hl 2 rfl) ?_
    refine lv_aload_n hx hb dX9_saysAll_3 rfl (lv_at hl 1 rfl) ?_
    refine a_len X hH (v := (5 : Int32)) 24 3 rfl rfl rfl dX9_saysAll_4 ?_
    refine lv_icmp_ge (tgt := 21) hx hb dX9_saysAll_5 (by decide) (fun c1 => ?_) (fun c1 => ?_)
    · have h := it_x h c1
      have h := Option.some.inj h
      subst h
      exact e_v X hH dX9_saysAll_21
    · have h := ie_x h c1
      refine lv_aload_n hx hb dX9_saysAll_8 rfl (lv_at hl 0 rfl) ?_
      refine lv_aload_n hx hb dX9_saysAll_9 rfl (lv_at hl 1 rfl) ?_
      refine lv_iload_n hx hb dX9_saysAll_10 rfl (lv_at hl 2 rfl) ?_
      obtain ⟨j1, ej1, hinj1, h⟩ := ga_x h
      refine a_cl X hH 24 rfl hinj1 ej1 dX9_saysAll_11 ?_
      obtain ⟨o1, ho1, h⟩ := bd_x h
      refine r_V X hH (ws1 := (wX9 g a i o1)) (As := [.int ((m_never xs) j1)]) (rest := []) (st1 := []) (uX9_writes (a := a) (i := i) ho1) kX9_writes mX9_341 iX9_writes vX9_writes zX9 okX9_writes ⟨Nat.le_of_ble_eq_true rfl, Nat.le_of_ble_eq_true rfl⟩ rfl rfl (q0 := 0) rfl rfl (pm_all _) (pm_all _) rfl hl.1 rfl (Nat.le_of_ble_eq_true rfl) ⟨Nat.le_refl 0, Nat.le_refl 0⟩ rfl dX9_saysAll_12 (fun H locs hH => ?_)
      obtain ⟨v1, ev1, h⟩ := ltt_x h
      refine s_inc X (k := 2) (lv' := [(2, .int v1), (0, .ref (a i)), (1, .ref (a (i + 24)))]) hl rfl (by rw [ev1]; rfl) dX9_saysAll_15 (by decide) rfl (fun ls hl => ?_)
      refine lv_goto (tgt := 2) hx hb dX9_saysAll_18 (by decide) ?_
      exact ih o1 v1 H locs ls h hH (lv_sub hl [1, 2, 0] rfl)
set_option maxHeartbeats 4000000 in
set_option maxRecDepth 100000 in
theorem uX9_saysAll_24 {l : Launch} {g : GG} {a : Nat → Nat} {i : Nat} {xs : SX9} {o : SX9} (h : fX9_saysAll_24 xs = some o) : mC l g yX9_saysAll cX9_saysAll 3 none (rM 1 21) [.ref (a i), .ref (a (i + 24))] (wX9 g a i xs) (wX9 g a i o) none := by
  refine mC.ofW (by decide) (fun p e s m below meth c X hH ls _ hl => ?_) (Nat.le_of_ble_eq_true rfl)
  have hx := X.1
  have hb := X.2.1
  have hl : lv_has ls 3 [(0, .ref (a i)), (1, .ref (a (i + 24)))] := hl
  unfold fX9_saysAll_24 at h
  suffices HH : ∀ (H : Heap) (locs : List Loc), mH g s (wX9 g a i xs) (wX9 g a i xs) H locs → W p l e (rM 1 21) s m _ below meth c H locs 0 0 (mZ g below _ s (wX9 g a i xs) (wX9 g a i o) none) (F0 m 0 ls []) from HH _ _ hH
  clear hH
  intro H locs hH
  refine lv_iconst (v := (0 : Int32)) hx hb dX9_saysAll_0 (by decide) ?_
  refine s_in X (lv' := [(2, .int (0 : Int32)), (0, .ref (a i)), (1, .ref (a (i + 24)))]) hl rfl dX9_saysAll_1 rfl (by decide) rfl (fun ls hl => ?_)
  exact pX9_saysAll_24_2 X FU xs (0 : Int32) H locs ls h hH (lv_sub hl [1, 2, 0] rfl)

def qX9_saysAll_25_2   : Nat → SX9 → Int32 → Option SX9
  | 0, _, _ => none
  | fu + 1, xs, l2 =>
  (if (8 : Int32) ≤ l2 then
  some xs
  else
  ga 8 l2 fun j1 =>
  (fX9_writes xs ((m_one xs) j1)).bind fun o1 =>
  ltt (l2 + (1 : Int32)) fun v1 =>
  qX9_saysAll_25_2  fu o1 v1)
def fX9_saysAll_25 (xs : SX9) : Option SX9 :=
  qX9_saysAll_25_2 FU xs (0 : Int32)
set_option maxHeartbeats 4000000 in
set_option maxRecDepth 100000 in
theorem pX9_saysAll_25_2 {p : Program} {l : Launch} {e : Env} {s : State} {m : MethodId} {args : Array Value} {below : List Frame} {meth : Method} {c : Code} {g : GG} {w0 : va_W} {a : Nat → Nat} {i : Nat}  {o : SX9} (X : mX g yX9_saysAll cX9_saysAll 3 none p s m args meth c w0) :
  ∀ (fu : Nat) (xs : SX9) (l2 : Int32) (H : Heap) (locs : List Loc) (ls : Array Slot), qX9_saysAll_25_2 fu xs l2 = some o → mH g s w0 (wX9 g a i xs) H locs → lv_has ls 3 [(0, .ref (a i)), (1, .ref (a (i + 25))), (2, .int l2)] → W p l e (rM 1 21) s m args below meth c H locs 0 0 (mZ g below args s w0 (wX9 g a i o) none) (F0 m 2 ls []) := by
  have hx := X.1
  have hb := X.2.1
  intro fu
  induction fu with
  | zero =>
    intro xs l2 H locs ls h
    unfold qX9_saysAll_25_2 at h
    cases h
  | succ fu ih =>
    intro xs l2 H locs ls h hH hl
    unfold qX9_saysAll_25_2 at h
    refine lv_iload_n hx hb dX9_saysAll_2 rfl (lv_at hl 2 rfl) ?_
    refine lv_aload_n hx hb dX9_saysAll_3 rfl (lv_at hl 1 rfl) ?_
    refine a_len X hH (v := (8 : Int32)) 25 3 rfl rfl rfl dX9_saysAll_4 ?_
    refine lv_icmp_ge (tgt := 21) hx hb dX9_saysAll_5 (by decide) (fun c1 => ?_) (fun c1 => ?_)
    · have h := it_x h c1
      have h := Option.some.inj h
      subst h
      exact e_v X hH dX9_saysAll_21
    · have h := ie_x h c1
      refine lv_aload_n hx hb dX9_saysAll_8 rfl (lv_at hl 0 rfl) ?_
      refine lv_aload_n hx hb dX9_saysAll_9 rfl (lv_at hl 1 rfl) ?_
      refine lv_iload_n hx hb dX9_saysAll_10 rfl (lv_at hl 2 rfl) ?_
      obtain ⟨j1, ej1, hinj1, h⟩ := ga_x h
      refine a_cl X hH 25 rfl hinj1 ej1 dX9_saysAll_11 ?_
      obtain ⟨o1, ho1, h⟩ := bd_x h
      refine r_V X hH (ws1 := (wX9 g a i o1)) (As := [.int ((m_one xs) j1)]) (rest := []) (st1 := []) (uX9_writes (a := a) (i := i) ho1) kX9_writes mX9_341 iX9_writes vX9_writes zX9 okX9_writes ⟨Nat.le_of_ble_eq_true rfl, Nat.le_of_ble_eq_true rfl⟩ rfl rfl (q0 := 0) rfl rfl (pm_all _) (pm_all _) rfl hl.1 rfl (Nat.le_of_ble_eq_true rfl) ⟨Nat.le_refl 0, Nat.le_refl 0⟩ rfl dX9_saysAll_12 (fun H locs hH => ?_)
      obtain ⟨v1, ev1, h⟩ := ltt_x h
      refine s_inc X (k := 2) (lv' := [(2, .int v1), (0, .ref (a i)), (1, .ref (a (i + 25)))]) hl rfl (by rw [ev1]; rfl) dX9_saysAll_15 (by decide) rfl (fun ls hl => ?_)
      refine lv_goto (tgt := 2) hx hb dX9_saysAll_18 (by decide) ?_
      exact ih o1 v1 H locs ls h hH (lv_sub hl [1, 2, 0] rfl)
set_option maxHeartbeats 4000000 in
set_option maxRecDepth 100000 in
theorem uX9_saysAll_25 {l : Launch} {g : GG} {a : Nat → Nat} {i : Nat} {xs : SX9} {o : SX9} (h : fX9_saysAll_25 xs = some o) : mC l g yX9_saysAll cX9_saysAll 3 none (rM 1 21) [.ref (a i), .ref (a (i + 25))] (wX9 g a i xs) (wX9 g a i o) none := by
  refine mC.ofW (by decide) (fun p e s m below meth c X hH ls _ hl => ?_) (Nat.le_of_ble_eq_true rfl)
  have hx := X.1
  have hb := X.2.1
  have hl : lv_has ls 3 [(0, .ref (a i)), (1, .ref (a (i + 25)))] := hl
  unfold fX9_saysAll_25 at h
  suffices HH : ∀ (H : Heap) (locs : List Loc), mH g s (wX9 g a i xs) (wX9 g a i xs) H locs → W p l e (rM 1 21) s m _ below meth c H locs 0 0 (mZ g below _ s (wX9 g a i xs) (wX9 g a i o) none) (F0 m 0 ls []) from HH _ _ hH
  clear hH
  intro H locs hH
  refine lv_iconst (v := (0 : Int32)) hx hb dX9_saysAll_0 (by decide) ?_
  refine s_in X (lv' := [(2, .int (0 : Int32)), (0, .ref (a i)), (1, .ref (a (i + 25)))]) hl rfl dX9_saysAll_1 rfl (by decide) rfl (fun ls hl => ?_)
  exact pX9_saysAll_25_2 X FU xs (0 : Int32) H locs ls h hH (lv_sub hl [1, 2, 0] rfl)

def qX9_saysAll_26_2   : Nat → SX9 → Int32 → Option SX9
  | 0, _, _ => none
  | fu + 1, xs, l2 =>
  (if (10 : Int32) ≤ l2 then
  some xs
  else
  ga 10 l2 fun j1 =>
  (fX9_writes xs ((m_both xs) j1)).bind fun o1 =>
  ltt (l2 + (1 : Int32)) fun v1 =>
  qX9_saysAll_26_2  fu o1 v1)
def fX9_saysAll_26 (xs : SX9) : Option SX9 :=
  qX9_saysAll_26_2 FU xs (0 : Int32)
set_option maxHeartbeats 4000000 in
set_option maxRecDepth 100000 in
theorem pX9_saysAll_26_2 {p : Program} {l : Launch} {e : Env} {s : State} {m : MethodId} {args : Array Value} {below : List Frame} {meth : Method} {c : Code} {g : GG} {w0 : va_W} {a : Nat → Nat} {i : Nat}  {o : SX9} (X : mX g yX9_saysAll cX9_saysAll 3 none p s m args meth c w0) :
  ∀ (fu : Nat) (xs : SX9) (l2 : Int32) (H : Heap) (locs : List Loc) (ls : Array Slot), qX9_saysAll_26_2 fu xs l2 = some o → mH g s w0 (wX9 g a i xs) H locs → lv_has ls 3 [(0, .ref (a i)), (1, .ref (a (i + 26))), (2, .int l2)] → W p l e (rM 1 21) s m args below meth c H locs 0 0 (mZ g below args s w0 (wX9 g a i o) none) (F0 m 2 ls []) := by
  have hx := X.1
  have hb := X.2.1
  intro fu
  induction fu with
  | zero =>
    intro xs l2 H locs ls h
    unfold qX9_saysAll_26_2 at h
    cases h
  | succ fu ih =>
    intro xs l2 H locs ls h hH hl
    unfold qX9_saysAll_26_2 at h
    refine lv_iload_n hx hb dX9_saysAll_2 rfl (lv_at hl 2 rfl) ?_
    refine lv_aload_n hx hb dX9_saysAll_3 rfl (lv_at hl 1 rfl) ?_
    refine a_len X hH (v := (10 : Int32)) 26 3 rfl rfl rfl dX9_saysAll_4 ?_
    refine lv_icmp_ge (tgt := 21) hx hb dX9_saysAll_5 (by decide) (fun c1 => ?_) (fun c1 => ?_)
    · have h := it_x h c1
      have h := Option.some.inj h
      subst h
      exact e_v X hH dX9_saysAll_21
    · have h := ie_x h c1
      refine lv_aload_n hx hb dX9_saysAll_8 rfl (lv_at hl 0 rfl) ?_
      refine lv_aload_n hx hb dX9_saysAll_9 rfl (lv_at hl 1 rfl) ?_
      refine lv_iload_n hx hb dX9_saysAll_10 rfl (lv_at hl 2 rfl) ?_
      obtain ⟨j1, ej1, hinj1, h⟩ := ga_x h
      refine a_cl X hH 26 rfl hinj1 ej1 dX9_saysAll_11 ?_
      obtain ⟨o1, ho1, h⟩ := bd_x h
      refine r_V X hH (ws1 := (wX9 g a i o1)) (As := [.int ((m_both xs) j1)]) (rest := []) (st1 := []) (uX9_writes (a := a) (i := i) ho1) kX9_writes mX9_341 iX9_writes vX9_writes zX9 okX9_writes ⟨Nat.le_of_ble_eq_true rfl, Nat.le_of_ble_eq_true rfl⟩ rfl rfl (q0 := 0) rfl rfl (pm_all _) (pm_all _) rfl hl.1 rfl (Nat.le_of_ble_eq_true rfl) ⟨Nat.le_refl 0, Nat.le_refl 0⟩ rfl dX9_saysAll_12 (fun H locs hH => ?_)
      obtain ⟨v1, ev1, h⟩ := ltt_x h
      refine s_inc X (k := 2) (lv' := [(2, .int v1), (0, .ref (a i)), (1, .ref (a (i + 26)))]) hl rfl (by rw [ev1]; rfl) dX9_saysAll_15 (by decide) rfl (fun ls hl => ?_)
      refine lv_goto (tgt := 2) hx hb dX9_saysAll_18 (by decide) ?_
      exact ih o1 v1 H locs ls h hH (lv_sub hl [1, 2, 0] rfl)
set_option maxHeartbeats 4000000 in
set_option maxRecDepth 100000 in
theorem uX9_saysAll_26 {l : Launch} {g : GG} {a : Nat → Nat} {i : Nat} {xs : SX9} {o : SX9} (h : fX9_saysAll_26 xs = some o) : mC l g yX9_saysAll cX9_saysAll 3 none (rM 1 21) [.ref (a i), .ref (a (i + 26))] (wX9 g a i xs) (wX9 g a i o) none := by
  refine mC.ofW (by decide) (fun p e s m below meth c X hH ls _ hl => ?_) (Nat.le_of_ble_eq_true rfl)
  have hx := X.1
  have hb := X.2.1
  have hl : lv_has ls 3 [(0, .ref (a i)), (1, .ref (a (i + 26)))] := hl
  unfold fX9_saysAll_26 at h
  suffices HH : ∀ (H : Heap) (locs : List Loc), mH g s (wX9 g a i xs) (wX9 g a i xs) H locs → W p l e (rM 1 21) s m _ below meth c H locs 0 0 (mZ g below _ s (wX9 g a i xs) (wX9 g a i o) none) (F0 m 0 ls []) from HH _ _ hH
  clear hH
  intro H locs hH
  refine lv_iconst (v := (0 : Int32)) hx hb dX9_saysAll_0 (by decide) ?_
  refine s_in X (lv' := [(2, .int (0 : Int32)), (0, .ref (a i)), (1, .ref (a (i + 26)))]) hl rfl dX9_saysAll_1 rfl (by decide) rfl (fun ls hl => ?_)
  exact pX9_saysAll_26_2 X FU xs (0 : Int32) H locs ls h hH (lv_sub hl [1, 2, 0] rfl)

def qX9_says_16 (pa : Int32) (pb : Int32) (pc_ : Int32)  (xs : SX9) : Option (Int32 × SX9) :=
  (fX9_no xs (-1 : Int32)).bind fun o2 =>
  some (o2.1, o2.2)
def qX9_says_135 (pa : Int32) (pb : Int32) (pc_ : Int32)  (xs : SX9) : Option (Int32 × SX9) :=
  (if pc_ = (-1 : Int32) then
  some ((m_saidMany xs), xs)
  else
  (fX9_isIn (pc_.toInt64) (0 : Int64) (((m_saidMany xs) - (1 : Int32)).toInt64)).bind fun o12 =>
  (if o12 = (0 : Int32) then
  (fX9_no xs (-1 : Int32)).bind fun o13 =>
  some (o13.1, o13.2)
  else
  ga 120 pc_ fun j1 =>
  some (((m_said xs) j1), xs)))
def fX9_says (xs : SX9) (pa : Int32) (pb : Int32) (pc_ : Int32) : Option (Int32 × SX9) :=
  (fX9_isPoint xs pa).bind fun o1 =>
  (if o1 = (0 : Int32) then
  qX9_says_16 pa pb pc_ xs
  else
  (fX9_isPoint xs pb).bind fun o3 =>
  (if o3 = (0 : Int32) then
  qX9_says_16 pa pb pc_ xs
  else
  (fX9_allThere xs).bind fun o4 =>
  ltt ((m_saidMany_s o4 (0 : Int32))) fun xs1 =>
  (fX9_writes xs1 ((48 : Int32) + pa)).bind fun o5 =>
  (fX9_saysAll_23 o5).bind fun o6 =>
  (fX9_writes o6 ((48 : Int32) + pb)).bind fun o7 =>
  (fX9_writes o7 (58 : Int32)).bind fun o8 =>
  (fX9_writes o8 (32 : Int32)).bind fun o9 =>
  (fX9_findCommute o9 pa pb).bind fun o10 =>
  (if o10.1 = (0 : Int32) then
  (fX9_saysAll_24 o10.2).bind fun o11 =>
  qX9_says_135 pa pb pc_ o11
  else
  (fX9_findTime o10.2 pa pb (0 : Int32)).bind fun o14 =>
  (fX9_saysFraction o14.2 (m_up o14.2) (m_down o14.2)).bind fun o15 =>
  (fX9_saysAll_25 o15).bind fun o16 =>
  (fX9_saysFraction o16 (m_commuteUp o16) (m_commuteDown o16)).bind fun o17 =>
  (fX9_saysAll_26 o17).bind fun o18 =>
  qX9_says_135 pa pb pc_ o18)))
set_option maxHeartbeats 4000000 in
set_option maxRecDepth 100000 in
theorem pX9_says_16 {p : Program} {l : Launch} {e : Env} {s : State} {m : MethodId} {args : Array Value} {below : List Frame} {meth : Method} {c : Code} {g : GG} {w0 : va_W} {a : Nat → Nat} {i : Nat} {pa : Int32} {pb : Int32} {pc_ : Int32} {o : (Int32 × SX9)} (X : mX g yX9_says cX9_says 4 (some .int) p s m args meth c w0) :
  ∀ (xs : SX9) (H : Heap) (locs : List Loc) (ls : Array Slot), qX9_says_16 pa pb pc_ xs = some o → mH g s w0 (wX9 g a i xs) H locs → lv_has ls 4 [(0, .ref (a i)), (1, .int pa), (2, .int pb), (3, .int pc_)] → W p l e (rM 6 139) s m args below meth c H locs 0 0 (mZ g below args s w0 (wX9 g a i o.2) (some (.int o.1))) (F0 m 16 ls []) := by
  have hx := X.1
  have hb := X.2.1
  intro xs H locs ls h hH hl
  unfold qX9_says_16 at h
  refine lv_aload_n hx hb dX9_says_16 rfl (lv_at hl 0 rfl) ?_
  refine lv_iconst (v := (-1 : Int32)) hx hb dX9_says_17 (by decide) ?_
  obtain ⟨o2, ho2, h⟩ := bd_x h
  refine r_V X hH (ws1 := (wX9 g a i o2.2)) (As := [.int (-1 : Int32)]) (rest := []) (st1 := [.int o2.1]) (uX9_no (a := a) (i := i) ho2) kX9_no mX9_125 iX9_no vX9_no zX9 okX9_no ⟨Nat.le_of_ble_eq_true rfl, Nat.le_of_ble_eq_true rfl⟩ rfl rfl (q0 := 0) rfl rfl (pm_all _) (pm_all _) rfl hl.1 rfl (Nat.le_of_ble_eq_true rfl) ⟨Nat.le_refl 0, Nat.le_refl 0⟩ rfl dX9_says_18 (fun H locs hH => ?_)
  have h := Option.some.inj h
  subst h
  exact e_i X hH dX9_says_21
set_option maxHeartbeats 4000000 in
set_option maxRecDepth 100000 in
theorem pX9_says_135 {p : Program} {l : Launch} {e : Env} {s : State} {m : MethodId} {args : Array Value} {below : List Frame} {meth : Method} {c : Code} {g : GG} {w0 : va_W} {a : Nat → Nat} {i : Nat} {pa : Int32} {pb : Int32} {pc_ : Int32} {o : (Int32 × SX9)} (X : mX g yX9_says cX9_says 4 (some .int) p s m args meth c w0) :
  ∀ (xs : SX9) (H : Heap) (locs : List Loc) (ls : Array Slot), qX9_says_135 pa pb pc_ xs = some o → mH g s w0 (wX9 g a i xs) H locs → lv_has ls 4 [(0, .ref (a i)), (1, .int pa), (2, .int pb), (3, .int pc_)] → W p l e (rM 6 139) s m args below meth c H locs 0 0 (mZ g below args s w0 (wX9 g a i o.2) (some (.int o.1))) (F0 m 135 ls []) := by
  have hx := X.1
  have hb := X.2.1
  intro xs H locs ls h hH hl
  unfold qX9_says_135 at h
  refine lv_iload_n hx hb dX9_says_135 rfl (lv_at hl 3 rfl) ?_
  refine lv_iconst (v := (-1 : Int32)) hx hb dX9_says_136 (by decide) ?_
  refine lv_icmp_ne (tgt := 145) hx hb dX9_says_137 (by decide) (fun c4 => ?_) (fun c4 => ?_)
  · have h := ie_x h c4
    refine lv_iload_n hx hb dX9_says_145 rfl (lv_at hl 3 rfl) ?_
    refine lv_i2l hx hb dX9_says_146 rfl ?_
    refine lv_lconst (v := (0 : Int64)) hx hb dX9_says_147 (by decide) ?_
    refine lv_aload_n hx hb dX9_says_148 rfl (lv_at hl 0 rfl) ?_
    refine f_get X hH 0 rfl rfl 39 (by decide) inX9 fX9_338 rfl dX9_says_149 ?_
    refine lv_iconst (v := (1 : Int32)) hx hb dX9_says_152 (by decide) ?_
    refine lv_isub hx hb dX9_says_153 ?_
    refine lv_i2l hx hb dX9_says_154 rfl ?_
    obtain ⟨o12, ho12, h⟩ := bd_x h
    refine r_S X hH (ws1 := (wX9 g a i xs)) (As := [.long (pc_.toInt64), .long (0 : Int64), .long (((m_saidMany xs) - (1 : Int32)).toInt64)]) (rest := []) (st1 := [.int o12]) (uX9_isIn  ho12) kX9_isIn mX9_116 sX9_isIn zX9 okX9_isIn ⟨Nat.le_of_ble_eq_true rfl, Nat.le_of_ble_eq_true rfl⟩ rfl rfl (pm_none _) (pm_none _) rfl hl.1 rfl (Nat.le_of_ble_eq_true rfl) ⟨Nat.le_refl 0, Nat.le_refl 0⟩ rfl dX9_says_155 (fun H locs hH => ?_)
    refine lv_if_eq (tgt := 170) hx hb dX9_says_158 (by decide) (fun c5 => ?_) (fun c5 => ?_)
    · have h := it_x h c5
      refine lv_aload_n hx hb dX9_says_170 rfl (lv_at hl 0 rfl) ?_
      refine lv_iconst (v := (-1 : Int32)) hx hb dX9_says_171 (by decide) ?_
      obtain ⟨o13, ho13, h⟩ := bd_x h
      refine r_V X hH (ws1 := (wX9 g a i o13.2)) (As := [.int (-1 : Int32)]) (rest := []) (st1 := [.int o13.1]) (uX9_no (a := a) (i := i) ho13) kX9_no mX9_125 iX9_no vX9_no zX9 okX9_no ⟨Nat.le_of_ble_eq_true rfl, Nat.le_of_ble_eq_true rfl⟩ rfl rfl (q0 := 0) rfl rfl (pm_all _) (pm_all _) rfl hl.1 rfl (Nat.le_of_ble_eq_true rfl) ⟨Nat.le_refl 0, Nat.le_refl 0⟩ rfl dX9_says_172 (fun H locs hH => ?_)
      have h := Option.some.inj h
      subst h
      exact e_i X hH dX9_says_175
    · have h := ie_x h c5
      refine lv_aload_n hx hb dX9_says_161 rfl (lv_at hl 0 rfl) ?_
      refine f_get X hH 0 rfl rfl 33 (by decide) inX9 fX9_77 rfl dX9_says_162 ?_
      refine lv_iload_n hx hb dX9_says_165 rfl (lv_at hl 3 rfl) ?_
      obtain ⟨j1, ej1, hinj1, h⟩ := ga_x h
      refine a_il X hH 21 rfl hinj1 ej1 dX9_says_166 ?_
      refine lv_goto (tgt := 175) hx hb dX9_says_167 (by decide) ?_
      have h := Option.some.inj h
      subst h
      exact e_i X hH dX9_says_175
  · have h := it_x h c4
    refine lv_aload_n hx hb dX9_says_140 rfl (lv_at hl 0 rfl) ?_
    refine f_get X hH 0 rfl rfl 39 (by decide) inX9 fX9_338 rfl dX9_says_141 ?_
    have h := Option.some.inj h
    subst h
    exact e_i X hH dX9_says_144
set_option maxHeartbeats 4000000 in
set_option maxRecDepth 100000 in
theorem uX9_says {l : Launch} {g : GG} {a : Nat → Nat} {i : Nat} {xs : SX9} {pa : Int32} {pb : Int32} {pc_ : Int32} {o : (Int32 × SX9)} (h : fX9_says xs pa pb pc_ = some o) : mC l g yX9_says cX9_says 4 (some .int) (rM 6 139) [.ref (a i), .int pa, .int pb, .int pc_] (wX9 g a i xs) (wX9 g a i o.2) (some (.int o.1)) := by
  refine mC.ofW (by decide) (fun p e s m below meth c X hH ls _ hl => ?_) (Nat.le_of_ble_eq_true rfl)
  have hx := X.1
  have hb := X.2.1
  have hl : lv_has ls 4 [(0, .ref (a i)), (1, .int pa), (2, .int pb), (3, .int pc_)] := hl
  unfold fX9_says at h
  suffices HH : ∀ (H : Heap) (locs : List Loc), mH g s (wX9 g a i xs) (wX9 g a i xs) H locs → W p l e (rM 6 139) s m _ below meth c H locs 0 0 (mZ g below _ s (wX9 g a i xs) (wX9 g a i o.2) (some (.int o.1))) (F0 m 0 ls []) from HH _ _ hH
  clear hH
  intro H locs hH
  refine lv_aload_n hx hb dX9_says_0 rfl (lv_at hl 0 rfl) ?_
  refine lv_iload_n hx hb dX9_says_1 rfl (lv_at hl 1 rfl) ?_
  obtain ⟨o1, ho1, h⟩ := bd_x h
  refine r_V X hH (ws1 := (wX9 g a i xs)) (As := [.int pa]) (rest := []) (st1 := [.int o1]) (uX9_isPoint (a := a) (i := i) ho1) kX9_isPoint mX9_141 iX9_isPoint vX9_isPoint zX9 okX9_isPoint ⟨Nat.le_of_ble_eq_true rfl, Nat.le_of_ble_eq_true rfl⟩ rfl rfl (q0 := 0) rfl rfl (pm_all _) (pm_all _) rfl hl.1 rfl (Nat.le_of_ble_eq_true rfl) ⟨Nat.le_refl 0, Nat.le_refl 0⟩ rfl dX9_says_2 (fun H locs hH => ?_)
  refine lv_if_eq (tgt := 16) hx hb dX9_says_5 (by decide) (fun c1 => ?_) (fun c1 => ?_)
  · have h := it_x h c1
    exact pX9_says_16 X  xs H locs ls h hH (lv_sub hl [0, 1, 2, 3] rfl)
  · have h := ie_x h c1
    refine lv_aload_n hx hb dX9_says_8 rfl (lv_at hl 0 rfl) ?_
    refine lv_iload_n hx hb dX9_says_9 rfl (lv_at hl 2 rfl) ?_
    obtain ⟨o3, ho3, h⟩ := bd_x h
    refine r_V X hH (ws1 := (wX9 g a i xs)) (As := [.int pb]) (rest := []) (st1 := [.int o3]) (uX9_isPoint (a := a) (i := i) ho3) kX9_isPoint mX9_141 iX9_isPoint vX9_isPoint zX9 okX9_isPoint ⟨Nat.le_of_ble_eq_true rfl, Nat.le_of_ble_eq_true rfl⟩ rfl rfl (q0 := 0) rfl rfl (pm_all _) (pm_all _) rfl hl.1 rfl (Nat.le_of_ble_eq_true rfl) ⟨Nat.le_refl 0, Nat.le_refl 0⟩ rfl dX9_says_10 (fun H locs hH => ?_)
    refine lv_if_ne (tgt := 22) hx hb dX9_says_13 (by decide) (fun c2 => ?_) (fun c2 => ?_)
    · have h := ie_x h c2
      refine lv_aload_n hx hb dX9_says_22 rfl (lv_at hl 0 rfl) ?_
      obtain ⟨o4, ho4, h⟩ := bd_x h
      refine r_V X hH (ws1 := (wX9 g a i o4)) (As := []) (rest := []) (st1 := []) (uX9_allThere (a := a) (i := i) ho4) kX9_allThere mX9_230 iX9_allThere vX9_allThere zX9 okX9_allThere ⟨Nat.le_of_ble_eq_true rfl, Nat.le_of_ble_eq_true rfl⟩ rfl rfl (q0 := 0) rfl rfl (pm_all _) (pm_all _) rfl hl.1 rfl (Nat.le_of_ble_eq_true rfl) ⟨Nat.le_refl 0, Nat.le_refl 0⟩ rfl dX9_says_23 (fun H locs hH => ?_)
      refine lv_aload_n hx hb dX9_says_26 rfl (lv_at hl 0 rfl) ?_
      refine lv_iconst (v := (0 : Int32)) hx hb dX9_says_27 (by decide) ?_
      obtain ⟨xs1, exs1, h⟩ := ltt_x h
      refine f_put X hH (ws1 := (wX9 g a i xs1)) 0 rfl rfl 39 (by decide) inX9 tyX9 tyX9_ok nmX9 fX9_338 rfl rfl rfl (Nat.le_of_ble_eq_true rfl) (by rw [exs1]; rfl) dX9_says_28 (fun H locs hH => ?_)
      refine lv_aload_n hx hb dX9_says_31 rfl (lv_at hl 0 rfl) ?_
      refine lv_bipush (v := (48 : Int32)) hx hb dX9_says_32 (by decide) ?_
      refine lv_iload_n hx hb dX9_says_34 rfl (lv_at hl 1 rfl) ?_
      refine lv_iadd hx hb dX9_says_35 ?_
      obtain ⟨o5, ho5, h⟩ := bd_x h
      refine r_V X hH (ws1 := (wX9 g a i o5)) (As := [.int ((48 : Int32) + pa)]) (rest := []) (st1 := []) (uX9_writes (a := a) (i := i) ho5) kX9_writes mX9_341 iX9_writes vX9_writes zX9 okX9_writes ⟨Nat.le_of_ble_eq_true rfl, Nat.le_of_ble_eq_true rfl⟩ rfl rfl (q0 := 0) rfl rfl (pm_all _) (pm_all _) rfl hl.1 rfl (Nat.le_of_ble_eq_true rfl) ⟨Nat.le_refl 0, Nat.le_refl 0⟩ rfl dX9_says_36 (fun H locs hH => ?_)
      refine lv_aload_n hx hb dX9_says_39 rfl (lv_at hl 0 rfl) ?_
      refine lv_aload_n hx hb dX9_says_40 rfl (lv_at hl 0 rfl) ?_
      refine f_get X hH 0 rfl rfl 35 (by decide) inX9 fX9_83 rfl dX9_says_41 ?_
      obtain ⟨o6, ho6, h⟩ := bd_x h
      refine r_V X hH (ws1 := (wX9 g a i o6)) (As := [.ref (a (i + 23))]) (rest := []) (st1 := []) (uX9_saysAll_23 (a := a) (i := i) ho6) kX9_saysAll mX9_350 iX9_saysAll vX9_saysAll zX9 okX9_saysAll ⟨Nat.le_of_ble_eq_true rfl, Nat.le_of_ble_eq_true rfl⟩ rfl rfl (q0 := 0) rfl rfl (pm_all _) (pm_all _) rfl hl.1 rfl (Nat.le_of_ble_eq_true rfl) ⟨Nat.le_refl 0, Nat.le_refl 0⟩ rfl dX9_says_44 (fun H locs hH => ?_)
      refine lv_aload_n hx hb dX9_says_47 rfl (lv_at hl 0 rfl) ?_
      refine lv_bipush (v := (48 : Int32)) hx hb dX9_says_48 (by decide) ?_
      refine lv_iload_n hx hb dX9_says_50 rfl (lv_at hl 2 rfl) ?_
      refine lv_iadd hx hb dX9_says_51 ?_
      obtain ⟨o7, ho7, h⟩ := bd_x h
      refine r_V X hH (ws1 := (wX9 g a i o7)) (As := [.int ((48 : Int32) + pb)]) (rest := []) (st1 := []) (uX9_writes (a := a) (i := i) ho7) kX9_writes mX9_341 iX9_writes vX9_writes zX9 okX9_writes ⟨Nat.le_of_ble_eq_true rfl, Nat.le_of_ble_eq_true rfl⟩ rfl rfl (q0 := 0) rfl rfl (pm_all _) (pm_all _) rfl hl.1 rfl (Nat.le_of_ble_eq_true rfl) ⟨Nat.le_refl 0, Nat.le_refl 0⟩ rfl dX9_says_52 (fun H locs hH => ?_)
      refine lv_aload_n hx hb dX9_says_55 rfl (lv_at hl 0 rfl) ?_
      refine lv_bipush (v := (58 : Int32)) hx hb dX9_says_56 (by decide) ?_
      obtain ⟨o8, ho8, h⟩ := bd_x h
      refine r_V X hH (ws1 := (wX9 g a i o8)) (As := [.int (58 : Int32)]) (rest := []) (st1 := []) (uX9_writes (a := a) (i := i) ho8) kX9_writes mX9_341 iX9_writes vX9_writes zX9 okX9_writes ⟨Nat.le_of_ble_eq_true rfl, Nat.le_of_ble_eq_true rfl⟩ rfl rfl (q0 := 0) rfl rfl (pm_all _) (pm_all _) rfl hl.1 rfl (Nat.le_of_ble_eq_true rfl) ⟨Nat.le_refl 0, Nat.le_refl 0⟩ rfl dX9_says_58 (fun H locs hH => ?_)
      refine lv_aload_n hx hb dX9_says_61 rfl (lv_at hl 0 rfl) ?_
      refine lv_bipush (v := (32 : Int32)) hx hb dX9_says_62 (by decide) ?_
      obtain ⟨o9, ho9, h⟩ := bd_x h
      refine r_V X hH (ws1 := (wX9 g a i o9)) (As := [.int (32 : Int32)]) (rest := []) (st1 := []) (uX9_writes (a := a) (i := i) ho9) kX9_writes mX9_341 iX9_writes vX9_writes zX9 okX9_writes ⟨Nat.le_of_ble_eq_true rfl, Nat.le_of_ble_eq_true rfl⟩ rfl rfl (q0 := 0) rfl rfl (pm_all _) (pm_all _) rfl hl.1 rfl (Nat.le_of_ble_eq_true rfl) ⟨Nat.le_refl 0, Nat.le_refl 0⟩ rfl dX9_says_64 (fun H locs hH => ?_)
      refine lv_aload_n hx hb dX9_says_67 rfl (lv_at hl 0 rfl) ?_
      refine lv_iload_n hx hb dX9_says_68 rfl (lv_at hl 1 rfl) ?_
      refine lv_iload_n hx hb dX9_says_69 rfl (lv_at hl 2 rfl) ?_
      obtain ⟨o10, ho10, h⟩ := bd_x h
      refine r_V X hH (ws1 := (wX9 g a i o10.2)) (As := [.int pa, .int pb]) (rest := []) (st1 := [.int o10.1]) (uX9_findCommute (a := a) (i := i) ho10) kX9_findCommute mX9_293 iX9_findCommute vX9_findCommute zX9 okX9_findCommute ⟨Nat.le_of_ble_eq_true rfl, Nat.le_of_ble_eq_true rfl⟩ rfl rfl (q0 := 0) rfl rfl (pm_all _) (pm_all _) rfl hl.1 rfl (Nat.le_of_ble_eq_true rfl) ⟨Nat.le_refl 0, Nat.le_refl 0⟩ rfl dX9_says_70 (fun H locs hH => ?_)
      refine lv_if_eq (tgt := 127) hx hb dX9_says_73 (by decide) (fun c3 => ?_) (fun c3 => ?_)
      · have h := it_x h c3
        refine lv_aload_n hx hb dX9_says_127 rfl (lv_at hl 0 rfl) ?_
        refine lv_aload_n hx hb dX9_says_128 rfl (lv_at hl 0 rfl) ?_
        refine f_get X hH 0 rfl rfl 36 (by decide) inX9 fX9_86 rfl dX9_says_129 ?_
        obtain ⟨o11, ho11, h⟩ := bd_x h
        refine r_V X hH (ws1 := (wX9 g a i o11)) (As := [.ref (a (i + 24))]) (rest := []) (st1 := []) (uX9_saysAll_24 (a := a) (i := i) ho11) kX9_saysAll mX9_350 iX9_saysAll vX9_saysAll zX9 okX9_saysAll ⟨Nat.le_of_ble_eq_true rfl, Nat.le_of_ble_eq_true rfl⟩ rfl rfl (q0 := 0) rfl rfl (pm_all _) (pm_all _) rfl hl.1 rfl (Nat.le_of_ble_eq_true rfl) ⟨Nat.le_refl 0, Nat.le_refl 0⟩ rfl dX9_says_132 (fun H locs hH => ?_)
        exact pX9_says_135 X  o11 H locs ls h hH (lv_sub hl [0, 1, 2, 3] rfl)
      · have h := ie_x h c3
        refine lv_aload_n hx hb dX9_says_76 rfl (lv_at hl 0 rfl) ?_
        refine lv_iload_n hx hb dX9_says_77 rfl (lv_at hl 1 rfl) ?_
        refine lv_iload_n hx hb dX9_says_78 rfl (lv_at hl 2 rfl) ?_
        refine lv_iconst (v := (0 : Int32)) hx hb dX9_says_79 (by decide) ?_
        obtain ⟨o14, ho14, h⟩ := bd_x h
        refine r_V X hH (ws1 := (wX9 g a i o14.2)) (As := [.int pa, .int pb, .int (0 : Int32)]) (rest := []) (st1 := [.int o14.1]) (uX9_findTime (a := a) (i := i) ho14) kX9_findTime mX9_275 iX9_findTime vX9_findTime zX9 okX9_findTime ⟨Nat.le_of_ble_eq_true rfl, Nat.le_of_ble_eq_true rfl⟩ rfl rfl (q0 := 0) rfl rfl (pm_all _) (pm_all _) rfl hl.1 rfl (Nat.le_of_ble_eq_true rfl) ⟨Nat.le_refl 0, Nat.le_refl 0⟩ rfl dX9_says_80 (fun H locs hH => ?_)
        refine lv_pop hx hb dX9_says_83 rfl ?_
        refine lv_aload_n hx hb dX9_says_84 rfl (lv_at hl 0 rfl) ?_
        refine lv_aload_n hx hb dX9_says_85 rfl (lv_at hl 0 rfl) ?_
        refine f_get X hH 0 rfl rfl 26 (by decide) inX9 fX9_248 rfl dX9_says_86 ?_
        refine lv_aload_n hx hb dX9_says_89 rfl (lv_at hl 0 rfl) ?_
        refine f_get X hH 0 rfl rfl 27 (by decide) inX9 fX9_252 rfl dX9_says_90 ?_
        obtain ⟨o15, ho15, h⟩ := bd_x h
        refine r_V X hH (ws1 := (wX9 g a i o15)) (As := [.long (m_up o14.2), .long (m_down o14.2)]) (rest := []) (st1 := []) (uX9_saysFraction (a := a) (i := i) ho15) kX9_saysFraction mX9_354 iX9_saysFraction vX9_saysFraction zX9 okX9_saysFraction ⟨Nat.le_of_ble_eq_true rfl, Nat.le_of_ble_eq_true rfl⟩ rfl rfl (q0 := 0) rfl rfl (pm_all _) (pm_all _) rfl hl.1 rfl (Nat.le_of_ble_eq_true rfl) ⟨Nat.le_refl 0, Nat.le_refl 0⟩ rfl dX9_says_93 (fun H locs hH => ?_)
        refine lv_aload_n hx hb dX9_says_96 rfl (lv_at hl 0 rfl) ?_
        refine lv_aload_n hx hb dX9_says_97 rfl (lv_at hl 0 rfl) ?_
        refine f_get X hH 0 rfl rfl 37 (by decide) inX9 fX9_89 rfl dX9_says_98 ?_
        obtain ⟨o16, ho16, h⟩ := bd_x h
        refine r_V X hH (ws1 := (wX9 g a i o16)) (As := [.ref (a (i + 25))]) (rest := []) (st1 := []) (uX9_saysAll_25 (a := a) (i := i) ho16) kX9_saysAll mX9_350 iX9_saysAll vX9_saysAll zX9 okX9_saysAll ⟨Nat.le_of_ble_eq_true rfl, Nat.le_of_ble_eq_true rfl⟩ rfl rfl (q0 := 0) rfl rfl (pm_all _) (pm_all _) rfl hl.1 rfl (Nat.le_of_ble_eq_true rfl) ⟨Nat.le_refl 0, Nat.le_refl 0⟩ rfl dX9_says_101 (fun H locs hH => ?_)
        refine lv_aload_n hx hb dX9_says_104 rfl (lv_at hl 0 rfl) ?_
        refine lv_aload_n hx hb dX9_says_105 rfl (lv_at hl 0 rfl) ?_
        refine f_get X hH 0 rfl rfl 28 (by decide) inX9 fX9_287 rfl dX9_says_106 ?_
        refine lv_aload_n hx hb dX9_says_109 rfl (lv_at hl 0 rfl) ?_
        refine f_get X hH 0 rfl rfl 29 (by decide) inX9 fX9_290 rfl dX9_says_110 ?_
        obtain ⟨o17, ho17, h⟩ := bd_x h
        refine r_V X hH (ws1 := (wX9 g a i o17)) (As := [.long (m_commuteUp o16), .long (m_commuteDown o16)]) (rest := []) (st1 := []) (uX9_saysFraction (a := a) (i := i) ho17) kX9_saysFraction mX9_354 iX9_saysFraction vX9_saysFraction zX9 okX9_saysFraction ⟨Nat.le_of_ble_eq_true rfl, Nat.le_of_ble_eq_true rfl⟩ rfl rfl (q0 := 0) rfl rfl (pm_all _) (pm_all _) rfl hl.1 rfl (Nat.le_of_ble_eq_true rfl) ⟨Nat.le_refl 0, Nat.le_refl 0⟩ rfl dX9_says_113 (fun H locs hH => ?_)
        refine lv_aload_n hx hb dX9_says_116 rfl (lv_at hl 0 rfl) ?_
        refine lv_aload_n hx hb dX9_says_117 rfl (lv_at hl 0 rfl) ?_
        refine f_get X hH 0 rfl rfl 38 (by decide) inX9 fX9_92 rfl dX9_says_118 ?_
        obtain ⟨o18, ho18, h⟩ := bd_x h
        refine r_V X hH (ws1 := (wX9 g a i o18)) (As := [.ref (a (i + 26))]) (rest := []) (st1 := []) (uX9_saysAll_26 (a := a) (i := i) ho18) kX9_saysAll mX9_350 iX9_saysAll vX9_saysAll zX9 okX9_saysAll ⟨Nat.le_of_ble_eq_true rfl, Nat.le_of_ble_eq_true rfl⟩ rfl rfl (q0 := 0) rfl rfl (pm_all _) (pm_all _) rfl hl.1 rfl (Nat.le_of_ble_eq_true rfl) ⟨Nat.le_refl 0, Nat.le_refl 0⟩ rfl dX9_says_121 (fun H locs hH => ?_)
        refine lv_goto (tgt := 135) hx hb dX9_says_124 (by decide) ?_
        exact pX9_says_135 X  o18 H locs ls h hH (lv_sub hl [0, 1, 2, 3] rfl)
    · have h := it_x h c2
      exact pX9_says_16 X  xs H locs ls h hH (lv_sub hl [0, 1, 2, 3] rfl)

def qX9_row_26 (pa : Int32)  (xs : SX9) : Option (Int32 × SX9) :=
  (fX9_no xs (-6 : Int32)).bind fun o1 =>
  some (o1.1, o1.2)
def fX9_row (xs : SX9) (pa : Int32) : Option (Int32 × SX9) :=
  (if (0 : Int32) ≤ pa then
  (if (99 : Int32) < pa then
  qX9_row_26 pa xs
  else
  (if (m_rowMany xs) = (10 : Int32) then
  qX9_row_26 pa xs
  else
  ga 10 (m_rowMany xs) fun j1 =>
  ltt ((m_row_s xs (upd (m_row xs) j1 pa))) fun xs1 =>
  ltt (((m_rowMany xs1) + (1 : Int32))) fun v1 =>
  ltt ((m_rowMany_s xs1 v1)) fun xs2 =>
  some ((m_rowMany xs2), xs2)))
  else
  (fX9_no xs (-4 : Int32)).bind fun o2 =>
  some (o2.1, o2.2))
set_option maxHeartbeats 4000000 in
set_option maxRecDepth 100000 in
theorem pX9_row_26 {p : Program} {l : Launch} {e : Env} {s : State} {m : MethodId} {args : Array Value} {below : List Frame} {meth : Method} {c : Code} {g : GG} {w0 : va_W} {a : Nat → Nat} {i : Nat} {pa : Int32} {o : (Int32 × SX9)} (X : mX g yX9_row cX9_row 2 (some .int) p s m args meth c w0) :
  ∀ (xs : SX9) (H : Heap) (locs : List Loc) (ls : Array Slot), qX9_row_26 pa xs = some o → mH g s w0 (wX9 g a i xs) H locs → lv_has ls 2 [(0, .ref (a i)), (1, .int pa)] → W p l e (rM 1 21) s m args below meth c H locs 0 0 (mZ g below args s w0 (wX9 g a i o.2) (some (.int o.1))) (F0 m 26 ls []) := by
  have hx := X.1
  have hb := X.2.1
  intro xs H locs ls h hH hl
  unfold qX9_row_26 at h
  refine lv_aload_n hx hb dX9_row_26 rfl (lv_at hl 0 rfl) ?_
  refine lv_bipush (v := (-6 : Int32)) hx hb dX9_row_27 (by decide) ?_
  obtain ⟨o1, ho1, h⟩ := bd_x h
  refine r_V X hH (ws1 := (wX9 g a i o1.2)) (As := [.int (-6 : Int32)]) (rest := []) (st1 := [.int o1.1]) (uX9_no (a := a) (i := i) ho1) kX9_no mX9_125 iX9_no vX9_no zX9 okX9_no ⟨Nat.le_of_ble_eq_true rfl, Nat.le_of_ble_eq_true rfl⟩ rfl rfl (q0 := 0) rfl rfl (pm_all _) (pm_all _) rfl hl.1 rfl (Nat.le_of_ble_eq_true rfl) ⟨Nat.le_refl 0, Nat.le_refl 0⟩ rfl dX9_row_29 (fun H locs hH => ?_)
  have h := Option.some.inj h
  subst h
  exact e_i X hH dX9_row_32
set_option maxHeartbeats 4000000 in
set_option maxRecDepth 100000 in
theorem uX9_row {l : Launch} {g : GG} {a : Nat → Nat} {i : Nat} {xs : SX9} {pa : Int32} {o : (Int32 × SX9)} (h : fX9_row xs pa = some o) : mC l g yX9_row cX9_row 2 (some .int) (rM 1 21) [.ref (a i), .int pa] (wX9 g a i xs) (wX9 g a i o.2) (some (.int o.1)) := by
  refine mC.ofW (by decide) (fun p e s m below meth c X hH ls _ hl => ?_) (Nat.le_of_ble_eq_true rfl)
  have hx := X.1
  have hb := X.2.1
  have hl : lv_has ls 2 [(0, .ref (a i)), (1, .int pa)] := hl
  unfold fX9_row at h
  suffices HH : ∀ (H : Heap) (locs : List Loc), mH g s (wX9 g a i xs) (wX9 g a i xs) H locs → W p l e (rM 1 21) s m _ below meth c H locs 0 0 (mZ g below _ s (wX9 g a i xs) (wX9 g a i o.2) (some (.int o.1))) (F0 m 0 ls []) from HH _ _ hH
  clear hH
  intro H locs hH
  refine lv_iload_n hx hb dX9_row_0 rfl (lv_at hl 1 rfl) ?_
  refine lv_if_ge (tgt := 11) hx hb dX9_row_1 (by decide) (fun c1 => ?_) (fun c1 => ?_)
  · have h := it_x h c1
    refine lv_iload_n hx hb dX9_row_11 rfl (lv_at hl 1 rfl) ?_
    refine lv_bipush (v := (99 : Int32)) hx hb dX9_row_12 (by decide) ?_
    refine lv_icmp_gt (tgt := 26) hx hb dX9_row_14 (by decide) (fun c2 => ?_) (fun c2 => ?_)
    · have h := it_x h c2
      exact pX9_row_26 X  xs H locs ls h hH (lv_sub hl [0, 1] rfl)
    · have h := ie_x h c2
      refine lv_aload_n hx hb dX9_row_17 rfl (lv_at hl 0 rfl) ?_
      refine f_get X hH 0 rfl rfl 41 (by decide) inX9 fX9_358 rfl dX9_row_18 ?_
      refine lv_bipush (v := (10 : Int32)) hx hb dX9_row_21 (by decide) ?_
      refine lv_icmp_ne (tgt := 33) hx hb dX9_row_23 (by decide) (fun c3 => ?_) (fun c3 => ?_)
      · have h := ie_x h c3
        refine lv_aload_n hx hb dX9_row_33 rfl (lv_at hl 0 rfl) ?_
        refine f_get X hH 0 rfl rfl 40 (by decide) inX9 fX9_95 rfl dX9_row_34 ?_
        refine lv_aload_n hx hb dX9_row_37 rfl (lv_at hl 0 rfl) ?_
        refine f_get X hH 0 rfl rfl 41 (by decide) inX9 fX9_358 rfl dX9_row_38 ?_
        refine lv_iload_n hx hb dX9_row_41 rfl (lv_at hl 1 rfl) ?_
        obtain ⟨j1, ej1, hinj1, h⟩ := ga_x h
        obtain ⟨xs1, exs1, h⟩ := ltt_x h
        refine a_is X hH (ws1 := (wX9 g a i xs1)) 27 rfl hinj1 ej1 (by rw [exs1]; rfl) dX9_row_42 (fun H locs hH => ?_)
        refine lv_aload_n hx hb dX9_row_43 rfl (lv_at hl 0 rfl) ?_
        refine lv_dup hx hb dX9_row_44 rfl ?_
        refine f_get X hH 0 rfl rfl 41 (by decide) inX9 fX9_358 rfl dX9_row_45 ?_
        refine lv_iconst (v := (1 : Int32)) hx hb dX9_row_48 (by decide) ?_
        refine lv_iadd hx hb dX9_row_49 ?_
        obtain ⟨v1, ev1, h⟩ := ltt_x h
        refine lv_topi (fun y0 e0 => ?_)
        rw [← ev1] at e0
        subst y0
        obtain ⟨xs2, exs2, h⟩ := ltt_x h
        refine f_put X hH (ws1 := (wX9 g a i xs2)) 0 rfl rfl 41 (by decide) inX9 tyX9 tyX9_ok nmX9 fX9_358 rfl rfl rfl (Nat.le_of_ble_eq_true rfl) (by rw [exs2]; rfl) dX9_row_50 (fun H locs hH => ?_)
        refine lv_aload_n hx hb dX9_row_53 rfl (lv_at hl 0 rfl) ?_
        refine f_get X hH 0 rfl rfl 41 (by decide) inX9 fX9_358 rfl dX9_row_54 ?_
        have h := Option.some.inj h
        subst h
        exact e_i X hH dX9_row_57
      · have h := it_x h c3
        exact pX9_row_26 X  xs H locs ls h hH (lv_sub hl [0, 1] rfl)
  · have h := ie_x h c1
    refine lv_aload_n hx hb dX9_row_4 rfl (lv_at hl 0 rfl) ?_
    refine lv_bipush (v := (-4 : Int32)) hx hb dX9_row_5 (by decide) ?_
    obtain ⟨o2, ho2, h⟩ := bd_x h
    refine r_V X hH (ws1 := (wX9 g a i o2.2)) (As := [.int (-4 : Int32)]) (rest := []) (st1 := [.int o2.1]) (uX9_no (a := a) (i := i) ho2) kX9_no mX9_125 iX9_no vX9_no zX9 okX9_no ⟨Nat.le_of_ble_eq_true rfl, Nat.le_of_ble_eq_true rfl⟩ rfl rfl (q0 := 0) rfl rfl (pm_all _) (pm_all _) rfl hl.1 rfl (Nat.le_of_ble_eq_true rfl) ⟨Nat.le_refl 0, Nat.le_refl 0⟩ rfl dX9_row_7 (fun H locs hH => ?_)
    have h := Option.some.inj h
    subst h
    exact e_i X hH dX9_row_10

def fX9_clear (xs : SX9) : Option (Int32 × SX9) :=
  ltt ((m_rowMany xs)) fun v1 =>
  ltt ((m_rowMany_s xs (0 : Int32))) fun xs1 =>
  some (v1, xs1)
set_option maxHeartbeats 4000000 in
set_option maxRecDepth 100000 in
theorem uX9_clear {l : Launch} {g : GG} {a : Nat → Nat} {i : Nat} {xs : SX9} {o : (Int32 × SX9)} (h : fX9_clear xs = some o) : mC l g yX9_clear cX9_clear 2 (some .int) (rM 0 0) [.ref (a i)] (wX9 g a i xs) (wX9 g a i o.2) (some (.int o.1)) := by
  refine mC.ofW (by decide) (fun p e s m below meth c X hH ls _ hl => ?_) (Nat.le_of_ble_eq_true rfl)
  have hx := X.1
  have hb := X.2.1
  have hl : lv_has ls 2 [(0, .ref (a i))] := hl
  unfold fX9_clear at h
  suffices HH : ∀ (H : Heap) (locs : List Loc), mH g s (wX9 g a i xs) (wX9 g a i xs) H locs → W p l e (rM 0 0) s m _ below meth c H locs 0 0 (mZ g below _ s (wX9 g a i xs) (wX9 g a i o.2) (some (.int o.1))) (F0 m 0 ls []) from HH _ _ hH
  clear hH
  intro H locs hH
  refine lv_aload_n hx hb dX9_clear_0 rfl (lv_at hl 0 rfl) ?_
  refine f_get X hH 0 rfl rfl 41 (by decide) inX9 fX9_358 rfl dX9_clear_1 ?_
  obtain ⟨v1, ev1, h⟩ := ltt_x h
  refine s_in X (lv' := [(1, .int v1), (0, .ref (a i))]) hl ev1 dX9_clear_4 rfl (by decide) rfl (fun ls hl => ?_)
  refine lv_aload_n hx hb dX9_clear_5 rfl (lv_at hl 1 rfl) ?_
  refine lv_iconst (v := (0 : Int32)) hx hb dX9_clear_6 (by decide) ?_
  obtain ⟨xs1, exs1, h⟩ := ltt_x h
  refine f_put X hH (ws1 := (wX9 g a i xs1)) 0 rfl rfl 41 (by decide) inX9 tyX9 tyX9_ok nmX9 fX9_358 rfl rfl rfl (Nat.le_of_ble_eq_true rfl) (by rw [exs1]; rfl) dX9_clear_7 (fun H locs hH => ?_)
  refine lv_iload_n hx hb dX9_clear_10 rfl (lv_at hl 0 rfl) ?_
  have h := Option.some.inj h
  subst h
  exact e_i X hH dX9_clear_11

def qX9_isSo_2 (xs : SX9) (pa : Int32) (pb : Int32)  : Nat → Int32 → Option Int32
  | 0, _ => none
  | fu + 1, l3 =>
  (if (m_rowMany xs) ≤ l3 then
  some (1 : Int32)
  else
  (fX9_weightBy pa pb (l3 + (1 : Int32))).bind fun o1 =>
  ga 10 l3 fun j1 =>
  (if o1 = ((m_row xs) j1) then
  ltt (l3 + (1 : Int32)) fun v1 =>
  qX9_isSo_2 xs pa pb  fu v1
  else
  some (0 : Int32)))
def fX9_isSo (xs : SX9) (pa : Int32) (pb : Int32) : Option Int32 :=
  qX9_isSo_2 xs pa pb FU (0 : Int32)
set_option maxHeartbeats 4000000 in
set_option maxRecDepth 100000 in
theorem pX9_isSo_2 {p : Program} {l : Launch} {e : Env} {s : State} {m : MethodId} {args : Array Value} {below : List Frame} {meth : Method} {c : Code} {g : GG} {w0 : va_W} {a : Nat → Nat} {i : Nat} {xs : SX9} {pa : Int32} {pb : Int32} {o : Int32} (X : mX g yX9_isSo cX9_isSo 4 (some .boolean) p s m args meth c w0) :
  ∀ (fu : Nat) (l3 : Int32) (H : Heap) (locs : List Loc) (ls : Array Slot), qX9_isSo_2 xs pa pb fu l3 = some o → mH g s w0 (wX9 g a i xs) H locs → lv_has ls 4 [(0, .ref (a i)), (1, .int pa), (2, .int pb), (3, .int l3)] → W p l e (rM 1 22) s m args below meth c H locs 0 0 (mZ g below args s w0 (wX9 g a i xs) (some (.int o))) (F0 m 2 ls []) := by
  have hx := X.1
  have hb := X.2.1
  intro fu
  induction fu with
  | zero =>
    intro l3 H locs ls h
    unfold qX9_isSo_2 at h
    cases h
  | succ fu ih =>
    intro l3 H locs ls h hH hl
    unfold qX9_isSo_2 at h
    refine lv_iload_n hx hb dX9_isSo_2 rfl (lv_at hl 3 rfl) ?_
    refine lv_aload_n hx hb dX9_isSo_3 rfl (lv_at hl 0 rfl) ?_
    refine f_get X hH 0 rfl rfl 41 (by decide) inX9 fX9_358 rfl dX9_isSo_4 ?_
    refine lv_icmp_ge (tgt := 35) hx hb dX9_isSo_7 (by decide) (fun c1 => ?_) (fun c1 => ?_)
    · have h := it_x h c1
      refine lv_iconst (v := (1 : Int32)) hx hb dX9_isSo_35 (by decide) ?_
      have h := Option.some.inj h
      subst h
      exact e_z X hH (Or.inr rfl) dX9_isSo_36
    · have h := ie_x h c1
      refine lv_iload_n hx hb dX9_isSo_10 rfl (lv_at hl 1 rfl) ?_
      refine lv_iload_n hx hb dX9_isSo_11 rfl (lv_at hl 2 rfl) ?_
      refine lv_iload_n hx hb dX9_isSo_12 rfl (lv_at hl 3 rfl) ?_
      refine lv_iconst (v := (1 : Int32)) hx hb dX9_isSo_13 (by decide) ?_
      refine lv_iadd hx hb dX9_isSo_14 ?_
      obtain ⟨o1, ho1, h⟩ := bd_x h
      refine r_S X hH (ws1 := (wX9 g a i xs)) (As := [.int pa, .int pb, .int (l3 + (1 : Int32))]) (rest := []) (st1 := [.int o1]) (uX9_weightBy  ho1) kX9_weightBy mX9_129 sX9_weightBy zX9 okX9_weightBy ⟨Nat.le_of_ble_eq_true rfl, Nat.le_of_ble_eq_true rfl⟩ rfl rfl (pm_none _) (pm_none _) rfl hl.1 rfl (Nat.le_of_ble_eq_true rfl) ⟨Nat.le_refl 0, Nat.le_refl 0⟩ rfl dX9_isSo_15 (fun H locs hH => ?_)
      refine lv_aload_n hx hb dX9_isSo_18 rfl (lv_at hl 0 rfl) ?_
      refine f_get X hH 0 rfl rfl 40 (by decide) inX9 fX9_95 rfl dX9_isSo_19 ?_
      refine lv_iload_n hx hb dX9_isSo_22 rfl (lv_at hl 3 rfl) ?_
      obtain ⟨j1, ej1, hinj1, h⟩ := ga_x h
      refine a_il X hH 27 rfl hinj1 ej1 dX9_isSo_23 ?_
      refine lv_icmp_eq (tgt := 29) hx hb dX9_isSo_24 (by decide) (fun c2 => ?_) (fun c2 => ?_)
      · have h := it_x h c2
        obtain ⟨v1, ev1, h⟩ := ltt_x h
        refine s_inc X (k := 3) (lv' := [(3, .int v1), (0, .ref (a i)), (1, .int pa), (2, .int pb)]) hl rfl (by rw [ev1]; rfl) dX9_isSo_29 (by decide) rfl (fun ls hl => ?_)
        refine lv_goto (tgt := 2) hx hb dX9_isSo_32 (by decide) ?_
        exact ih v1 H locs ls h hH (lv_sub hl [1, 2, 3, 0] rfl)
      · have h := ie_x h c2
        refine lv_iconst (v := (0 : Int32)) hx hb dX9_isSo_27 (by decide) ?_
        have h := Option.some.inj h
        subst h
        exact e_z X hH (Or.inl rfl) dX9_isSo_28
set_option maxHeartbeats 4000000 in
set_option maxRecDepth 100000 in
theorem uX9_isSo {l : Launch} {g : GG} {a : Nat → Nat} {i : Nat} {xs : SX9} {pa : Int32} {pb : Int32} {o : Int32} (h : fX9_isSo xs pa pb = some o) : mC l g yX9_isSo cX9_isSo 4 (some .boolean) (rM 1 22) [.ref (a i), .int pa, .int pb] (wX9 g a i xs) (wX9 g a i xs) (some (.int o)) := by
  refine mC.ofW (by decide) (fun p e s m below meth c X hH ls _ hl => ?_) (Nat.le_of_ble_eq_true rfl)
  have hx := X.1
  have hb := X.2.1
  have hl : lv_has ls 4 [(0, .ref (a i)), (1, .int pa), (2, .int pb)] := hl
  unfold fX9_isSo at h
  suffices HH : ∀ (H : Heap) (locs : List Loc), mH g s (wX9 g a i xs) (wX9 g a i xs) H locs → W p l e (rM 1 22) s m _ below meth c H locs 0 0 (mZ g below _ s (wX9 g a i xs) (wX9 g a i xs) (some (.int o))) (F0 m 0 ls []) from HH _ _ hH
  clear hH
  intro H locs hH
  refine lv_iconst (v := (0 : Int32)) hx hb dX9_isSo_0 (by decide) ?_
  refine s_in X (lv' := [(3, .int (0 : Int32)), (0, .ref (a i)), (1, .int pa), (2, .int pb)]) hl rfl dX9_isSo_1 rfl (by decide) rfl (fun ls hl => ?_)
  exact pX9_isSo_2 X FU (0 : Int32) H locs ls h hH (lv_sub hl [1, 2, 3, 0] rfl)

def qX9_whatIs_97 (pa : Int32) (pb : Int32) (k98 : SX9 → Int32 → Int32 → Int32 → Option (Int32 × SX9)) (xs : SX9) (l4 : Int32) (t0 : Int32) : Option (Int32 × SX9) :=
  k98 xs l4 t0 (0 : Int32)
def qX9_whatIs_98 (pa : Int32) (pb : Int32) (k36 : SX9 → Int32 → Int32 → Option (Int32 × SX9)) (xs : SX9) (l4 : Int32) (t0 : Int32) (t1 : Int32) : Option (Int32 × SX9) :=
  ltt ((t0 ||| t1)) fun v1 =>
  ltt (l4 + (1 : Int32)) fun v2 =>
  k36 xs v1 v2
def qX9_whatIs_90 (pa : Int32) (pb : Int32) (k98 : SX9 → Int32 → Int32 → Int32 → Option (Int32 × SX9)) (xs : SX9) (l4 : Int32) (t0 : Int32) : Option (Int32 × SX9) :=
  k98 xs l4 t0 ((1 : Int32) <<< (l4 &&& 31))
def qX9_whatIs_49 (pa : Int32) (pb : Int32) (k36 : SX9 → Int32 → Int32 → Option (Int32 × SX9)) (xs : SX9) (l3 : Int32) (l4 : Int32) (t0 : Int32) (t1 : Int32) : Option (Int32 × SX9) :=
  (if t1 ≤ t0 then
  some (l3, xs)
  else
  (if pb = (0 : Int32) then
  ga 11 pa fun j2 =>
  (fX9_isSo xs l4 ((m_figure xs) j2)).bind fun o4 =>
  (if o4 = (0 : Int32) then
  qX9_whatIs_97 pa pb (qX9_whatIs_98 pa pb k36) xs l4 l3
  else
  qX9_whatIs_90 pa pb (qX9_whatIs_98 pa pb k36) xs l4 l3)
  else
  ga 11 pa fun j1 =>
  (fX9_isSo xs ((m_kind xs) j1) l4).bind fun o3 =>
  (if o3 = (0 : Int32) then
  qX9_whatIs_97 pa pb (qX9_whatIs_98 pa pb k36) xs l4 l3
  else
  qX9_whatIs_90 pa pb (qX9_whatIs_98 pa pb k36) xs l4 l3)))
def qX9_whatIs_36 (pa : Int32) (pb : Int32)  : Nat → SX9 → Int32 → Int32 → Option (Int32 × SX9)
  | 0, _, _, _ => none
  | fu + 1, xs, l3, l4 =>
  (if pb = (0 : Int32) then
  qX9_whatIs_49 pa pb (qX9_whatIs_36 pa pb  fu) xs l3 l4 l4 (6 : Int32)
  else
  qX9_whatIs_49 pa pb (qX9_whatIs_36 pa pb  fu) xs l3 l4 l4 (10 : Int32))
def fX9_whatIs (xs : SX9) (pa : Int32) (pb : Int32) : Option (Int32 × SX9) :=
  (fX9_isWay xs pa).bind fun o1 =>
  (if o1 = (0 : Int32) then
  (fX9_no xs (-1 : Int32)).bind fun o6 =>
  some (o6.1, o6.2)
  else
  (fX9_isIn (pb.toInt64) (0 : Int64) (1 : Int64)).bind fun o2 =>
  (if o2 = (0 : Int32) then
  (fX9_no xs (-2 : Int32)).bind fun o5 =>
  some (o5.1, o5.2)
  else
  qX9_whatIs_36 pa pb FU xs (0 : Int32) (0 : Int32)))
set_option maxHeartbeats 4000000 in
set_option maxRecDepth 100000 in
theorem pX9_whatIs_97 {p : Program} {l : Launch} {e : Env} {s : State} {m : MethodId} {args : Array Value} {below : List Frame} {meth : Method} {c : Code} {g : GG} {w0 : va_W} {a : Nat → Nat} {i : Nat} {pa : Int32} {pb : Int32} {o : (Int32 × SX9)} (X : mX g yX9_whatIs cX9_whatIs 5 (some .int) p s m args meth c w0)
  {k98 : SX9 → Int32 → Int32 → Int32 → Option (Int32 × SX9)} (K98 : ∀ (xs : SX9) (l4 : Int32) (t0 : Int32) (t1 : Int32) (H : Heap) (locs : List Loc) (ls : Array Slot), k98 xs l4 t0 t1 = some o → mH g s w0 (wX9 g a i xs) H locs → lv_has ls 5 [(0, .ref (a i)), (1, .int pa), (2, .int pb), (4, .int l4)] → W p l e (rM 2 46) s m args below meth c H locs 0 0 (mZ g below args s w0 (wX9 g a i o.2) (some (.int o.1))) (F0 m 98 ls [.int t1, .int t0])) :
  ∀ (xs : SX9) (l4 : Int32) (t0 : Int32) (H : Heap) (locs : List Loc) (ls : Array Slot), qX9_whatIs_97 pa pb k98 xs l4 t0 = some o → mH g s w0 (wX9 g a i xs) H locs → lv_has ls 5 [(0, .ref (a i)), (1, .int pa), (2, .int pb), (4, .int l4)] → W p l e (rM 2 46) s m args below meth c H locs 0 0 (mZ g below args s w0 (wX9 g a i o.2) (some (.int o.1))) (F0 m 97 ls [.int t0]) := by
  have hx := X.1
  have hb := X.2.1
  intro xs l4 t0 H locs ls h hH hl
  unfold qX9_whatIs_97 at h
  refine lv_iconst (v := (0 : Int32)) hx hb dX9_whatIs_97 (by decide) ?_
  exact K98 xs l4 t0 (0 : Int32) H locs ls h hH (lv_sub hl [0, 1, 2, 3] rfl)
set_option maxHeartbeats 4000000 in
set_option maxRecDepth 100000 in
theorem pX9_whatIs_98 {p : Program} {l : Launch} {e : Env} {s : State} {m : MethodId} {args : Array Value} {below : List Frame} {meth : Method} {c : Code} {g : GG} {w0 : va_W} {a : Nat → Nat} {i : Nat} {pa : Int32} {pb : Int32} {o : (Int32 × SX9)} (X : mX g yX9_whatIs cX9_whatIs 5 (some .int) p s m args meth c w0)
  {k36 : SX9 → Int32 → Int32 → Option (Int32 × SX9)} (K36 : ∀ (xs : SX9) (l3 : Int32) (l4 : Int32) (H : Heap) (locs : List Loc) (ls : Array Slot), k36 xs l3 l4 = some o → mH g s w0 (wX9 g a i xs) H locs → lv_has ls 5 [(0, .ref (a i)), (1, .int pa), (2, .int pb), (3, .int l3), (4, .int l4)] → W p l e (rM 2 46) s m args below meth c H locs 0 0 (mZ g below args s w0 (wX9 g a i o.2) (some (.int o.1))) (F0 m 36 ls [])) :
  ∀ (xs : SX9) (l4 : Int32) (t0 : Int32) (t1 : Int32) (H : Heap) (locs : List Loc) (ls : Array Slot), qX9_whatIs_98 pa pb k36 xs l4 t0 t1 = some o → mH g s w0 (wX9 g a i xs) H locs → lv_has ls 5 [(0, .ref (a i)), (1, .int pa), (2, .int pb), (4, .int l4)] → W p l e (rM 2 46) s m args below meth c H locs 0 0 (mZ g below args s w0 (wX9 g a i o.2) (some (.int o.1))) (F0 m 98 ls [.int t1, .int t0]) := by
  have hx := X.1
  have hb := X.2.1
  intro xs l4 t0 t1 H locs ls h hH hl
  unfold qX9_whatIs_98 at h
  refine lv_ior hx hb dX9_whatIs_98 ?_
  obtain ⟨v1, ev1, h⟩ := ltt_x h
  refine s_in X (lv' := [(3, .int v1), (0, .ref (a i)), (1, .int pa), (2, .int pb), (4, .int l4)]) hl ev1 dX9_whatIs_99 rfl (by decide) rfl (fun ls hl => ?_)
  obtain ⟨v2, ev2, h⟩ := ltt_x h
  refine s_inc X (k := 4) (lv' := [(4, .int v2), (3, .int v1), (0, .ref (a i)), (1, .int pa), (2, .int pb)]) hl rfl (by rw [ev2]; rfl) dX9_whatIs_100 (by decide) rfl (fun ls hl => ?_)
  refine lv_goto (tgt := 36) hx hb dX9_whatIs_103 (by decide) ?_
  exact K36 xs v1 v2 H locs ls h hH (lv_sub hl [2, 3, 4, 1, 0] rfl)
set_option maxHeartbeats 4000000 in
set_option maxRecDepth 100000 in
theorem pX9_whatIs_90 {p : Program} {l : Launch} {e : Env} {s : State} {m : MethodId} {args : Array Value} {below : List Frame} {meth : Method} {c : Code} {g : GG} {w0 : va_W} {a : Nat → Nat} {i : Nat} {pa : Int32} {pb : Int32} {o : (Int32 × SX9)} (X : mX g yX9_whatIs cX9_whatIs 5 (some .int) p s m args meth c w0)
  {k98 : SX9 → Int32 → Int32 → Int32 → Option (Int32 × SX9)} (K98 : ∀ (xs : SX9) (l4 : Int32) (t0 : Int32) (t1 : Int32) (H : Heap) (locs : List Loc) (ls : Array Slot), k98 xs l4 t0 t1 = some o → mH g s w0 (wX9 g a i xs) H locs → lv_has ls 5 [(0, .ref (a i)), (1, .int pa), (2, .int pb), (4, .int l4)] → W p l e (rM 2 46) s m args below meth c H locs 0 0 (mZ g below args s w0 (wX9 g a i o.2) (some (.int o.1))) (F0 m 98 ls [.int t1, .int t0])) :
  ∀ (xs : SX9) (l4 : Int32) (t0 : Int32) (H : Heap) (locs : List Loc) (ls : Array Slot), qX9_whatIs_90 pa pb k98 xs l4 t0 = some o → mH g s w0 (wX9 g a i xs) H locs → lv_has ls 5 [(0, .ref (a i)), (1, .int pa), (2, .int pb), (4, .int l4)] → W p l e (rM 2 46) s m args below meth c H locs 0 0 (mZ g below args s w0 (wX9 g a i o.2) (some (.int o.1))) (F0 m 90 ls [.int t0]) := by
  have hx := X.1
  have hb := X.2.1
  intro xs l4 t0 H locs ls h hH hl
  unfold qX9_whatIs_90 at h
  refine lv_iconst (v := (1 : Int32)) hx hb dX9_whatIs_90 (by decide) ?_
  refine lv_iload hx hb dX9_whatIs_91 (lv_at hl 3 rfl) ?_
  refine lv_ishl hx hb dX9_whatIs_93 ?_
  refine lv_goto (tgt := 98) hx hb dX9_whatIs_94 (by decide) ?_
  exact K98 xs l4 t0 ((1 : Int32) <<< (l4 &&& 31)) H locs ls h hH (lv_sub hl [0, 1, 2, 3] rfl)
set_option maxHeartbeats 4000000 in
set_option maxRecDepth 100000 in
theorem pX9_whatIs_49 {p : Program} {l : Launch} {e : Env} {s : State} {m : MethodId} {args : Array Value} {below : List Frame} {meth : Method} {c : Code} {g : GG} {w0 : va_W} {a : Nat → Nat} {i : Nat} {pa : Int32} {pb : Int32} {o : (Int32 × SX9)} (X : mX g yX9_whatIs cX9_whatIs 5 (some .int) p s m args meth c w0)
  {k36 : SX9 → Int32 → Int32 → Option (Int32 × SX9)} (K36 : ∀ (xs : SX9) (l3 : Int32) (l4 : Int32) (H : Heap) (locs : List Loc) (ls : Array Slot), k36 xs l3 l4 = some o → mH g s w0 (wX9 g a i xs) H locs → lv_has ls 5 [(0, .ref (a i)), (1, .int pa), (2, .int pb), (3, .int l3), (4, .int l4)] → W p l e (rM 2 46) s m args below meth c H locs 0 0 (mZ g below args s w0 (wX9 g a i o.2) (some (.int o.1))) (F0 m 36 ls [])) :
  ∀ (xs : SX9) (l3 : Int32) (l4 : Int32) (t0 : Int32) (t1 : Int32) (H : Heap) (locs : List Loc) (ls : Array Slot), qX9_whatIs_49 pa pb k36 xs l3 l4 t0 t1 = some o → mH g s w0 (wX9 g a i xs) H locs → lv_has ls 5 [(0, .ref (a i)), (1, .int pa), (2, .int pb), (3, .int l3), (4, .int l4)] → W p l e (rM 2 46) s m args below meth c H locs 0 0 (mZ g below args s w0 (wX9 g a i o.2) (some (.int o.1))) (F0 m 49 ls [.int t1, .int t0]) := by
  have hx := X.1
  have hb := X.2.1
  intro xs l3 l4 t0 t1 H locs ls h hH hl
  unfold qX9_whatIs_49 at h
  refine lv_icmp_ge (tgt := 106) hx hb dX9_whatIs_49 (by decide) (fun c4 => ?_) (fun c4 => ?_)
  · have h := it_x h c4
    refine lv_iload_n hx hb dX9_whatIs_106 rfl (lv_at hl 3 rfl) ?_
    have h := Option.some.inj h
    subst h
    exact e_i X hH dX9_whatIs_107
  · have h := ie_x h c4
    refine lv_iload_n hx hb dX9_whatIs_52 rfl (lv_at hl 3 rfl) ?_
    refine lv_iload_n hx hb dX9_whatIs_53 rfl (lv_at hl 2 rfl) ?_
    refine lv_if_ne (tgt := 75) hx hb dX9_whatIs_54 (by decide) (fun c5 => ?_) (fun c5 => ?_)
    · have h := ie_x h c5
      refine lv_aload_n hx hb dX9_whatIs_75 rfl (lv_at hl 0 rfl) ?_
      refine lv_aload_n hx hb dX9_whatIs_76 rfl (lv_at hl 0 rfl) ?_
      refine f_get X hH 0 rfl rfl 4 (by decide) inX9 fX9_20 rfl dX9_whatIs_77 ?_
      refine lv_iload_n hx hb dX9_whatIs_80 rfl (lv_at hl 1 rfl) ?_
      obtain ⟨j1, ej1, hinj1, h⟩ := ga_x h
      refine a_il X hH 3 rfl hinj1 ej1 dX9_whatIs_81 ?_
      refine lv_iload hx hb dX9_whatIs_82 (lv_at hl 4 rfl) ?_
      obtain ⟨o3, ho3, h⟩ := bd_x h
      refine r_V X hH (ws1 := (wX9 g a i xs)) (As := [.int ((m_kind xs) j1), .int l4]) (rest := [.int l3]) (st1 := [.int o3, .int l3]) (uX9_isSo (a := a) (i := i) ho3) kX9_isSo mX9_361 iX9_isSo vX9_isSo zX9 okX9_isSo ⟨Nat.le_of_ble_eq_true rfl, Nat.le_of_ble_eq_true rfl⟩ rfl rfl (q0 := 0) rfl rfl (pm_all _) (pm_all _) rfl hl.1 rfl (Nat.le_of_ble_eq_true rfl) ⟨Nat.le_refl 0, Nat.le_refl 0⟩ rfl dX9_whatIs_84 (fun H locs hH => ?_)
      refine lv_if_eq (tgt := 97) hx hb dX9_whatIs_87 (by decide) (fun c6 => ?_) (fun c6 => ?_)
      · have h := it_x h c6
        exact pX9_whatIs_97 X (pX9_whatIs_98 X K36) xs l4 l3 H locs ls h hH (lv_sub hl [0, 1, 2, 4] rfl)
      · have h := ie_x h c6
        exact pX9_whatIs_90 X (pX9_whatIs_98 X K36) xs l4 l3 H locs ls h hH (lv_sub hl [0, 1, 2, 4] rfl)
    · have h := it_x h c5
      refine lv_aload_n hx hb dX9_whatIs_57 rfl (lv_at hl 0 rfl) ?_
      refine lv_iload hx hb dX9_whatIs_58 (lv_at hl 4 rfl) ?_
      refine lv_aload_n hx hb dX9_whatIs_60 rfl (lv_at hl 0 rfl) ?_
      refine f_get X hH 0 rfl rfl 5 (by decide) inX9 fX9_23 rfl dX9_whatIs_61 ?_
      refine lv_iload_n hx hb dX9_whatIs_64 rfl (lv_at hl 1 rfl) ?_
      obtain ⟨j2, ej2, hinj2, h⟩ := ga_x h
      refine a_il X hH 4 rfl hinj2 ej2 dX9_whatIs_65 ?_
      obtain ⟨o4, ho4, h⟩ := bd_x h
      refine r_V X hH (ws1 := (wX9 g a i xs)) (As := [.int l4, .int ((m_figure xs) j2)]) (rest := [.int l3]) (st1 := [.int o4, .int l3]) (uX9_isSo (a := a) (i := i) ho4) kX9_isSo mX9_361 iX9_isSo vX9_isSo zX9 okX9_isSo ⟨Nat.le_of_ble_eq_true rfl, Nat.le_of_ble_eq_true rfl⟩ rfl rfl (q0 := 0) rfl rfl (pm_all _) (pm_all _) rfl hl.1 rfl (Nat.le_of_ble_eq_true rfl) ⟨Nat.le_refl 0, Nat.le_refl 0⟩ rfl dX9_whatIs_66 (fun H locs hH => ?_)
      refine lv_if_eq (tgt := 97) hx hb dX9_whatIs_69 (by decide) (fun c7 => ?_) (fun c7 => ?_)
      · have h := it_x h c7
        exact pX9_whatIs_97 X (pX9_whatIs_98 X K36) xs l4 l3 H locs ls h hH (lv_sub hl [0, 1, 2, 4] rfl)
      · have h := ie_x h c7
        refine lv_goto (tgt := 90) hx hb dX9_whatIs_72 (by decide) ?_
        exact pX9_whatIs_90 X (pX9_whatIs_98 X K36) xs l4 l3 H locs ls h hH (lv_sub hl [0, 1, 2, 4] rfl)
set_option maxHeartbeats 4000000 in
set_option maxRecDepth 100000 in
theorem pX9_whatIs_36 {p : Program} {l : Launch} {e : Env} {s : State} {m : MethodId} {args : Array Value} {below : List Frame} {meth : Method} {c : Code} {g : GG} {w0 : va_W} {a : Nat → Nat} {i : Nat} {pa : Int32} {pb : Int32} {o : (Int32 × SX9)} (X : mX g yX9_whatIs cX9_whatIs 5 (some .int) p s m args meth c w0) :
  ∀ (fu : Nat) (xs : SX9) (l3 : Int32) (l4 : Int32) (H : Heap) (locs : List Loc) (ls : Array Slot), qX9_whatIs_36 pa pb fu xs l3 l4 = some o → mH g s w0 (wX9 g a i xs) H locs → lv_has ls 5 [(0, .ref (a i)), (1, .int pa), (2, .int pb), (3, .int l3), (4, .int l4)] → W p l e (rM 2 46) s m args below meth c H locs 0 0 (mZ g below args s w0 (wX9 g a i o.2) (some (.int o.1))) (F0 m 36 ls []) := by
  have hx := X.1
  have hb := X.2.1
  intro fu
  induction fu with
  | zero =>
    intro xs l3 l4 H locs ls h
    unfold qX9_whatIs_36 at h
    cases h
  | succ fu ih =>
    intro xs l3 l4 H locs ls h hH hl
    unfold qX9_whatIs_36 at h
    refine lv_iload hx hb dX9_whatIs_36 (lv_at hl 4 rfl) ?_
    refine lv_iload_n hx hb dX9_whatIs_38 rfl (lv_at hl 2 rfl) ?_
    refine lv_if_ne (tgt := 47) hx hb dX9_whatIs_39 (by decide) (fun c3 => ?_) (fun c3 => ?_)
    · have h := ie_x h c3
      refine lv_bipush (v := (10 : Int32)) hx hb dX9_whatIs_47 (by decide) ?_
      exact pX9_whatIs_49 X ih xs l3 l4 l4 (10 : Int32) H locs ls h hH (lv_sub hl [0, 1, 2, 3, 4] rfl)
    · have h := it_x h c3
      refine lv_bipush (v := (6 : Int32)) hx hb dX9_whatIs_42 (by decide) ?_
      refine lv_goto (tgt := 49) hx hb dX9_whatIs_44 (by decide) ?_
      exact pX9_whatIs_49 X ih xs l3 l4 l4 (6 : Int32) H locs ls h hH (lv_sub hl [0, 1, 2, 3, 4] rfl)
set_option maxHeartbeats 4000000 in
set_option maxRecDepth 100000 in
theorem uX9_whatIs {l : Launch} {g : GG} {a : Nat → Nat} {i : Nat} {xs : SX9} {pa : Int32} {pb : Int32} {o : (Int32 × SX9)} (h : fX9_whatIs xs pa pb = some o) : mC l g yX9_whatIs cX9_whatIs 5 (some .int) (rM 2 46) [.ref (a i), .int pa, .int pb] (wX9 g a i xs) (wX9 g a i o.2) (some (.int o.1)) := by
  refine mC.ofW (by decide) (fun p e s m below meth c X hH ls _ hl => ?_) (Nat.le_of_ble_eq_true rfl)
  have hx := X.1
  have hb := X.2.1
  have hl : lv_has ls 5 [(0, .ref (a i)), (1, .int pa), (2, .int pb)] := hl
  unfold fX9_whatIs at h
  suffices HH : ∀ (H : Heap) (locs : List Loc), mH g s (wX9 g a i xs) (wX9 g a i xs) H locs → W p l e (rM 2 46) s m _ below meth c H locs 0 0 (mZ g below _ s (wX9 g a i xs) (wX9 g a i o.2) (some (.int o.1))) (F0 m 0 ls []) from HH _ _ hH
  clear hH
  intro H locs hH
  refine lv_aload_n hx hb dX9_whatIs_0 rfl (lv_at hl 0 rfl) ?_
  refine lv_iload_n hx hb dX9_whatIs_1 rfl (lv_at hl 1 rfl) ?_
  obtain ⟨o1, ho1, h⟩ := bd_x h
  refine r_V X hH (ws1 := (wX9 g a i xs)) (As := [.int pa]) (rest := []) (st1 := [.int o1]) (uX9_isWay (a := a) (i := i) ho1) kX9_isWay mX9_145 iX9_isWay vX9_isWay zX9 okX9_isWay ⟨Nat.le_of_ble_eq_true rfl, Nat.le_of_ble_eq_true rfl⟩ rfl rfl (q0 := 0) rfl rfl (pm_all _) (pm_all _) rfl hl.1 rfl (Nat.le_of_ble_eq_true rfl) ⟨Nat.le_refl 0, Nat.le_refl 0⟩ rfl dX9_whatIs_2 (fun H locs hH => ?_)
  refine lv_if_ne (tgt := 14) hx hb dX9_whatIs_5 (by decide) (fun c1 => ?_) (fun c1 => ?_)
  · have h := ie_x h c1
    refine lv_iload_n hx hb dX9_whatIs_14 rfl (lv_at hl 2 rfl) ?_
    refine lv_i2l hx hb dX9_whatIs_15 rfl ?_
    refine lv_lconst (v := (0 : Int64)) hx hb dX9_whatIs_16 (by decide) ?_
    refine lv_lconst (v := (1 : Int64)) hx hb dX9_whatIs_17 (by decide) ?_
    obtain ⟨o2, ho2, h⟩ := bd_x h
    refine r_S X hH (ws1 := (wX9 g a i xs)) (As := [.long (pb.toInt64), .long (0 : Int64), .long (1 : Int64)]) (rest := []) (st1 := [.int o2]) (uX9_isIn  ho2) kX9_isIn mX9_116 sX9_isIn zX9 okX9_isIn ⟨Nat.le_of_ble_eq_true rfl, Nat.le_of_ble_eq_true rfl⟩ rfl rfl (pm_none _) (pm_none _) rfl hl.1 rfl (Nat.le_of_ble_eq_true rfl) ⟨Nat.le_refl 0, Nat.le_refl 0⟩ rfl dX9_whatIs_18 (fun H locs hH => ?_)
    refine lv_if_ne (tgt := 31) hx hb dX9_whatIs_21 (by decide) (fun c2 => ?_) (fun c2 => ?_)
    · have h := ie_x h c2
      refine lv_iconst (v := (0 : Int32)) hx hb dX9_whatIs_31 (by decide) ?_
      refine s_in X (lv' := [(3, .int (0 : Int32)), (0, .ref (a i)), (1, .int pa), (2, .int pb)]) hl rfl dX9_whatIs_32 rfl (by decide) rfl (fun ls hl => ?_)
      refine lv_iconst (v := (0 : Int32)) hx hb dX9_whatIs_33 (by decide) ?_
      refine s_i X (lv' := [(4, .int (0 : Int32)), (3, .int (0 : Int32)), (0, .ref (a i)), (1, .int pa), (2, .int pb)]) hl rfl dX9_whatIs_34 (by decide) rfl (fun ls hl => ?_)
      exact pX9_whatIs_36 X FU xs (0 : Int32) (0 : Int32) H locs ls h hH (lv_sub hl [2, 3, 4, 1, 0] rfl)
    · have h := it_x h c2
      refine lv_aload_n hx hb dX9_whatIs_24 rfl (lv_at hl 0 rfl) ?_
      refine lv_bipush (v := (-2 : Int32)) hx hb dX9_whatIs_25 (by decide) ?_
      obtain ⟨o5, ho5, h⟩ := bd_x h
      refine r_V X hH (ws1 := (wX9 g a i o5.2)) (As := [.int (-2 : Int32)]) (rest := []) (st1 := [.int o5.1]) (uX9_no (a := a) (i := i) ho5) kX9_no mX9_125 iX9_no vX9_no zX9 okX9_no ⟨Nat.le_of_ble_eq_true rfl, Nat.le_of_ble_eq_true rfl⟩ rfl rfl (q0 := 0) rfl rfl (pm_all _) (pm_all _) rfl hl.1 rfl (Nat.le_of_ble_eq_true rfl) ⟨Nat.le_refl 0, Nat.le_refl 0⟩ rfl dX9_whatIs_27 (fun H locs hH => ?_)
      have h := Option.some.inj h
      subst h
      exact e_i X hH dX9_whatIs_30
  · have h := it_x h c1
    refine lv_aload_n hx hb dX9_whatIs_8 rfl (lv_at hl 0 rfl) ?_
    refine lv_iconst (v := (-1 : Int32)) hx hb dX9_whatIs_9 (by decide) ?_
    obtain ⟨o6, ho6, h⟩ := bd_x h
    refine r_V X hH (ws1 := (wX9 g a i o6.2)) (As := [.int (-1 : Int32)]) (rest := []) (st1 := [.int o6.1]) (uX9_no (a := a) (i := i) ho6) kX9_no mX9_125 iX9_no vX9_no zX9 okX9_no ⟨Nat.le_of_ble_eq_true rfl, Nat.le_of_ble_eq_true rfl⟩ rfl rfl (q0 := 0) rfl rfl (pm_all _) (pm_all _) rfl hl.1 rfl (Nat.le_of_ble_eq_true rfl) ⟨Nat.le_refl 0, Nat.le_refl 0⟩ rfl dX9_whatIs_10 (fun H locs hH => ?_)
    have h := Option.some.inj h
    subst h
    exact e_i X hH dX9_whatIs_13

def fX9_isList (pa : Int32) : Option Int32 :=
  (fX9_isIn (pa.toInt64) (0 : Int64) (2 : Int64)).bind fun o1 =>
  gb o1 (some o1)
set_option maxHeartbeats 4000000 in
set_option maxRecDepth 100000 in
theorem uX9_isList {l : Launch} {g : GG}  {pa : Int32} {o : Int32} (h : fX9_isList pa = some o) : mC l g yX9_isList cX9_isList 1 (some .boolean) (rM 1 25) [.int pa] [] [] (some (.int o)) := by
  refine mC.ofW (by decide) (fun p e s m below meth c X hH ls _ hl => ?_) (Nat.le_of_ble_eq_true rfl)
  have hx := X.1
  have hb := X.2.1
  have hl : lv_has ls 1 [(0, .int pa)] := hl
  unfold fX9_isList at h
  suffices HH : ∀ (H : Heap) (locs : List Loc), mH g s [] [] H locs → W p l e (rM 1 25) s m _ below meth c H locs 0 0 (mZ g below _ s [] [] (some (.int o))) (F0 m 0 ls []) from HH _ _ hH
  clear hH
  intro H locs hH
  refine lv_iload_n hx hb dX9_isList_0 rfl (lv_at hl 0 rfl) ?_
  refine lv_i2l hx hb dX9_isList_1 rfl ?_
  refine lv_lconst (v := (0 : Int64)) hx hb dX9_isList_2 (by decide) ?_
  refine lv_ldc2 hx hb X.2.2.2.2.1 (X.2.2.2.2.2.1 _ nX9_364) dX9_isList_3 ?_
  obtain ⟨o1, ho1, h⟩ := bd_x h
  refine r_S X hH (ws1 := []) (As := [.long (pa.toInt64), .long (0 : Int64), .long (2 : Int64)]) (rest := []) (st1 := [.int o1]) (uX9_isIn  ho1) kX9_isIn mX9_116 sX9_isIn zX9 okX9_isIn ⟨Nat.le_of_ble_eq_true rfl, Nat.le_of_ble_eq_true rfl⟩ rfl rfl (pm_none _) (pm_none _) rfl hl.1 rfl (Nat.le_of_ble_eq_true rfl) ⟨Nat.le_refl 0, Nat.le_refl 0⟩ rfl dX9_isList_6 (fun H locs hH => ?_)
  obtain ⟨z1, h⟩ := gb_x h
  have h := Option.some.inj h
  subst h
  exact e_z X hH z1 dX9_isList_9

def qX9_list_42 (pa : Int32) (pb : Int32)  : Nat → SX9 → Int32 → Option (Int32 × SX9)
  | 0, _, _ => none
  | fu + 1, xs, l3 =>
  (if (20 : Int32) ≤ l3 then
  some ((1 : Int32), xs)
  else
  ga 60 (((20 : Int32) * pa) + l3) fun j2 =>
  ltt ((m_items_s xs (vp_updL (m_items xs) j2 (0 : Int64)))) fun xs2 =>
  ltt (l3 + (1 : Int32)) fun v1 =>
  qX9_list_42 pa pb  fu xs2 v1)
def fX9_list (xs : SX9) (pa : Int32) (pb : Int32) : Option (Int32 × SX9) :=
  (fX9_isList pa).bind fun o1 =>
  (if o1 = (0 : Int32) then
  (fX9_no xs (-1 : Int32)).bind fun o3 =>
  some (o3.1, o3.2)
  else
  (if pb ≤ (20 : Int32) then
  (if (0 : Int32) ≤ pb then
  ga 3 pa fun j1 =>
  ltt ((m_listMany_s xs (upd (m_listMany xs) j1 pb))) fun xs1 =>
  qX9_list_42 pa pb FU xs1 (0 : Int32)
  else
  some ((-14 : Int32), xs))
  else
  (fX9_no xs (-6 : Int32)).bind fun o2 =>
  some (o2.1, o2.2)))
set_option maxHeartbeats 4000000 in
set_option maxRecDepth 100000 in
theorem pX9_list_42 {p : Program} {l : Launch} {e : Env} {s : State} {m : MethodId} {args : Array Value} {below : List Frame} {meth : Method} {c : Code} {g : GG} {w0 : va_W} {a : Nat → Nat} {i : Nat} {pa : Int32} {pb : Int32} {o : (Int32 × SX9)} (X : mX g yX9_list cX9_list 4 (some .int) p s m args meth c w0) :
  ∀ (fu : Nat) (xs : SX9) (l3 : Int32) (H : Heap) (locs : List Loc) (ls : Array Slot), qX9_list_42 pa pb fu xs l3 = some o → mH g s w0 (wX9 g a i xs) H locs → lv_has ls 4 [(0, .ref (a i)), (1, .int pa), (2, .int pb), (3, .int l3)] → W p l e (rM 2 45) s m args below meth c H locs 0 0 (mZ g below args s w0 (wX9 g a i o.2) (some (.int o.1))) (F0 m 42 ls []) := by
  have hx := X.1
  have hb := X.2.1
  intro fu
  induction fu with
  | zero =>
    intro xs l3 H locs ls h
    unfold qX9_list_42 at h
    cases h
  | succ fu ih =>
    intro xs l3 H locs ls h hH hl
    unfold qX9_list_42 at h
    refine lv_iload_n hx hb dX9_list_42 rfl (lv_at hl 3 rfl) ?_
    refine lv_bipush (v := (20 : Int32)) hx hb dX9_list_43 (by decide) ?_
    refine lv_icmp_ge (tgt := 66) hx hb dX9_list_45 (by decide) (fun c4 => ?_) (fun c4 => ?_)
    · have h := it_x h c4
      refine lv_iconst (v := (1 : Int32)) hx hb dX9_list_66 (by decide) ?_
      have h := Option.some.inj h
      subst h
      exact e_i X hH dX9_list_67
    · have h := ie_x h c4
      refine lv_aload_n hx hb dX9_list_48 rfl (lv_at hl 0 rfl) ?_
      refine f_get X hH 0 rfl rfl 42 (by decide) inX9 fX9_98 rfl dX9_list_49 ?_
      refine lv_bipush (v := (20 : Int32)) hx hb dX9_list_52 (by decide) ?_
      refine lv_iload_n hx hb dX9_list_54 rfl (lv_at hl 1 rfl) ?_
      refine lv_imul hx hb dX9_list_55 ?_
      refine lv_iload_n hx hb dX9_list_56 rfl (lv_at hl 3 rfl) ?_
      refine lv_iadd hx hb dX9_list_57 ?_
      refine lv_lconst (v := (0 : Int64)) hx hb dX9_list_58 (by decide) ?_
      obtain ⟨j2, ej2, hinj2, h⟩ := ga_x h
      obtain ⟨xs2, exs2, h⟩ := ltt_x h
      refine a_ls X hH (ws1 := (wX9 g a i xs2)) 28 rfl hinj2 ej2 (by rw [exs2]; rfl) dX9_list_59 (fun H locs hH => ?_)
      obtain ⟨v1, ev1, h⟩ := ltt_x h
      refine s_inc X (k := 3) (lv' := [(3, .int v1), (0, .ref (a i)), (1, .int pa), (2, .int pb)]) hl rfl (by rw [ev1]; rfl) dX9_list_60 (by decide) rfl (fun ls hl => ?_)
      refine lv_goto (tgt := 42) hx hb dX9_list_63 (by decide) ?_
      exact ih xs2 v1 H locs ls h hH (lv_sub hl [1, 2, 3, 0] rfl)
set_option maxHeartbeats 4000000 in
set_option maxRecDepth 100000 in
theorem uX9_list {l : Launch} {g : GG} {a : Nat → Nat} {i : Nat} {xs : SX9} {pa : Int32} {pb : Int32} {o : (Int32 × SX9)} (h : fX9_list xs pa pb = some o) : mC l g yX9_list cX9_list 4 (some .int) (rM 2 45) [.ref (a i), .int pa, .int pb] (wX9 g a i xs) (wX9 g a i o.2) (some (.int o.1)) := by
  refine mC.ofW (by decide) (fun p e s m below meth c X hH ls _ hl => ?_) (Nat.le_of_ble_eq_true rfl)
  have hx := X.1
  have hb := X.2.1
  have hl : lv_has ls 4 [(0, .ref (a i)), (1, .int pa), (2, .int pb)] := hl
  unfold fX9_list at h
  suffices HH : ∀ (H : Heap) (locs : List Loc), mH g s (wX9 g a i xs) (wX9 g a i xs) H locs → W p l e (rM 2 45) s m _ below meth c H locs 0 0 (mZ g below _ s (wX9 g a i xs) (wX9 g a i o.2) (some (.int o.1))) (F0 m 0 ls []) from HH _ _ hH
  clear hH
  intro H locs hH
  refine lv_iload_n hx hb dX9_list_0 rfl (lv_at hl 1 rfl) ?_
  obtain ⟨o1, ho1, h⟩ := bd_x h
  refine r_S X hH (ws1 := (wX9 g a i xs)) (As := [.int pa]) (rest := []) (st1 := [.int o1]) (uX9_isList  ho1) kX9_isList mX9_366 sX9_isList zX9 okX9_isList ⟨Nat.le_of_ble_eq_true rfl, Nat.le_of_ble_eq_true rfl⟩ rfl rfl (pm_none _) (pm_none _) rfl hl.1 rfl (Nat.le_of_ble_eq_true rfl) ⟨Nat.le_refl 0, Nat.le_refl 0⟩ rfl dX9_list_1 (fun H locs hH => ?_)
  refine lv_if_ne (tgt := 13) hx hb dX9_list_4 (by decide) (fun c1 => ?_) (fun c1 => ?_)
  · have h := ie_x h c1
    refine lv_iload_n hx hb dX9_list_13 rfl (lv_at hl 2 rfl) ?_
    refine lv_bipush (v := (20 : Int32)) hx hb dX9_list_14 (by decide) ?_
    refine lv_icmp_le (tgt := 26) hx hb dX9_list_16 (by decide) (fun c2 => ?_) (fun c2 => ?_)
    · have h := it_x h c2
      refine lv_iload_n hx hb dX9_list_26 rfl (lv_at hl 2 rfl) ?_
      refine lv_if_ge (tgt := 33) hx hb dX9_list_27 (by decide) (fun c3 => ?_) (fun c3 => ?_)
      · have h := it_x h c3
        refine lv_aload_n hx hb dX9_list_33 rfl (lv_at hl 0 rfl) ?_
        refine f_get X hH 0 rfl rfl 43 (by decide) inX9 fX9_101 rfl dX9_list_34 ?_
        refine lv_iload_n hx hb dX9_list_37 rfl (lv_at hl 1 rfl) ?_
        refine lv_iload_n hx hb dX9_list_38 rfl (lv_at hl 2 rfl) ?_
        obtain ⟨j1, ej1, hinj1, h⟩ := ga_x h
        obtain ⟨xs1, exs1, h⟩ := ltt_x h
        refine a_is X hH (ws1 := (wX9 g a i xs1)) 29 rfl hinj1 ej1 (by rw [exs1]; rfl) dX9_list_39 (fun H locs hH => ?_)
        refine lv_iconst (v := (0 : Int32)) hx hb dX9_list_40 (by decide) ?_
        refine s_in X (lv' := [(3, .int (0 : Int32)), (0, .ref (a i)), (1, .int pa), (2, .int pb)]) hl rfl dX9_list_41 rfl (by decide) rfl (fun ls hl => ?_)
        exact pX9_list_42 X FU xs1 (0 : Int32) H locs ls h hH (lv_sub hl [1, 2, 3, 0] rfl)
      · have h := ie_x h c3
        refine lv_bipush (v := (-14 : Int32)) hx hb dX9_list_30 (by decide) ?_
        have h := Option.some.inj h
        subst h
        exact e_i X hH dX9_list_32
    · have h := ie_x h c2
      refine lv_aload_n hx hb dX9_list_19 rfl (lv_at hl 0 rfl) ?_
      refine lv_bipush (v := (-6 : Int32)) hx hb dX9_list_20 (by decide) ?_
      obtain ⟨o2, ho2, h⟩ := bd_x h
      refine r_V X hH (ws1 := (wX9 g a i o2.2)) (As := [.int (-6 : Int32)]) (rest := []) (st1 := [.int o2.1]) (uX9_no (a := a) (i := i) ho2) kX9_no mX9_125 iX9_no vX9_no zX9 okX9_no ⟨Nat.le_of_ble_eq_true rfl, Nat.le_of_ble_eq_true rfl⟩ rfl rfl (q0 := 0) rfl rfl (pm_all _) (pm_all _) rfl hl.1 rfl (Nat.le_of_ble_eq_true rfl) ⟨Nat.le_refl 0, Nat.le_refl 0⟩ rfl dX9_list_22 (fun H locs hH => ?_)
      have h := Option.some.inj h
      subst h
      exact e_i X hH dX9_list_25
  · have h := it_x h c1
    refine lv_aload_n hx hb dX9_list_7 rfl (lv_at hl 0 rfl) ?_
    refine lv_iconst (v := (-1 : Int32)) hx hb dX9_list_8 (by decide) ?_
    obtain ⟨o3, ho3, h⟩ := bd_x h
    refine r_V X hH (ws1 := (wX9 g a i o3.2)) (As := [.int (-1 : Int32)]) (rest := []) (st1 := [.int o3.1]) (uX9_no (a := a) (i := i) ho3) kX9_no mX9_125 iX9_no vX9_no zX9 okX9_no ⟨Nat.le_of_ble_eq_true rfl, Nat.le_of_ble_eq_true rfl⟩ rfl rfl (q0 := 0) rfl rfl (pm_all _) (pm_all _) rfl hl.1 rfl (Nat.le_of_ble_eq_true rfl) ⟨Nat.le_refl 0, Nat.le_refl 0⟩ rfl dX9_list_9 (fun H locs hH => ?_)
    have h := Option.some.inj h
    subst h
    exact e_i X hH dX9_list_12

def fX9_notPlace (xs : SX9) (pa : Int32) (pb : Int32) : Option Int32 :=
  ga 3 pa fun j1 =>
  (if (0 : Int32) ≤ ((m_listMany xs) j1) then
  ga 3 pa fun j2 =>
  (fX9_isIn (pb.toInt64) (0 : Int64) ((((m_listMany xs) j2) - (1 : Int32)).toInt64)).bind fun o1 =>
  (if o1 = (0 : Int32) then
  some (-13 : Int32)
  else
  some (0 : Int32))
  else
  some (-11 : Int32))
set_option maxHeartbeats 4000000 in
set_option maxRecDepth 100000 in
theorem uX9_notPlace {l : Launch} {g : GG} {a : Nat → Nat} {i : Nat} {xs : SX9} {pa : Int32} {pb : Int32} {o : Int32} (h : fX9_notPlace xs pa pb = some o) : mC l g yX9_notPlace cX9_notPlace 3 (some .int) (rM 1 25) [.ref (a i), .int pa, .int pb] (wX9 g a i xs) (wX9 g a i xs) (some (.int o)) := by
  refine mC.ofW (by decide) (fun p e s m below meth c X hH ls _ hl => ?_) (Nat.le_of_ble_eq_true rfl)
  have hx := X.1
  have hb := X.2.1
  have hl : lv_has ls 3 [(0, .ref (a i)), (1, .int pa), (2, .int pb)] := hl
  unfold fX9_notPlace at h
  suffices HH : ∀ (H : Heap) (locs : List Loc), mH g s (wX9 g a i xs) (wX9 g a i xs) H locs → W p l e (rM 1 25) s m _ below meth c H locs 0 0 (mZ g below _ s (wX9 g a i xs) (wX9 g a i xs) (some (.int o))) (F0 m 0 ls []) from HH _ _ hH
  clear hH
  intro H locs hH
  refine lv_aload_n hx hb dX9_notPlace_0 rfl (lv_at hl 0 rfl) ?_
  refine f_get X hH 0 rfl rfl 43 (by decide) inX9 fX9_101 rfl dX9_notPlace_1 ?_
  refine lv_iload_n hx hb dX9_notPlace_4 rfl (lv_at hl 1 rfl) ?_
  obtain ⟨j1, ej1, hinj1, h⟩ := ga_x h
  refine a_il X hH 29 rfl hinj1 ej1 dX9_notPlace_5 ?_
  refine lv_if_ge (tgt := 14) hx hb dX9_notPlace_6 (by decide) (fun c1 => ?_) (fun c1 => ?_)
  · have h := it_x h c1
    refine lv_iload_n hx hb dX9_notPlace_14 rfl (lv_at hl 2 rfl) ?_
    refine lv_i2l hx hb dX9_notPlace_15 rfl ?_
    refine lv_lconst (v := (0 : Int64)) hx hb dX9_notPlace_16 (by decide) ?_
    refine lv_aload_n hx hb dX9_notPlace_17 rfl (lv_at hl 0 rfl) ?_
    refine f_get X hH 0 rfl rfl 43 (by decide) inX9 fX9_101 rfl dX9_notPlace_18 ?_
    refine lv_iload_n hx hb dX9_notPlace_21 rfl (lv_at hl 1 rfl) ?_
    obtain ⟨j2, ej2, hinj2, h⟩ := ga_x h
    refine a_il X hH 29 rfl hinj2 ej2 dX9_notPlace_22 ?_
    refine lv_iconst (v := (1 : Int32)) hx hb dX9_notPlace_23 (by decide) ?_
    refine lv_isub hx hb dX9_notPlace_24 ?_
    refine lv_i2l hx hb dX9_notPlace_25 rfl ?_
    obtain ⟨o1, ho1, h⟩ := bd_x h
    refine r_S X hH (ws1 := (wX9 g a i xs)) (As := [.long (pb.toInt64), .long (0 : Int64), .long ((((m_listMany xs) j2) - (1 : Int32)).toInt64)]) (rest := []) (st1 := [.int o1]) (uX9_isIn  ho1) kX9_isIn mX9_116 sX9_isIn zX9 okX9_isIn ⟨Nat.le_of_ble_eq_true rfl, Nat.le_of_ble_eq_true rfl⟩ rfl rfl (pm_none _) (pm_none _) rfl hl.1 rfl (Nat.le_of_ble_eq_true rfl) ⟨Nat.le_refl 0, Nat.le_refl 0⟩ rfl dX9_notPlace_26 (fun H locs hH => ?_)
    refine lv_if_eq (tgt := 36) hx hb dX9_notPlace_29 (by decide) (fun c2 => ?_) (fun c2 => ?_)
    · have h := it_x h c2
      refine lv_bipush (v := (-13 : Int32)) hx hb dX9_notPlace_36 (by decide) ?_
      have h := Option.some.inj h
      subst h
      exact e_i X hH dX9_notPlace_38
    · have h := ie_x h c2
      refine lv_iconst (v := (0 : Int32)) hx hb dX9_notPlace_32 (by decide) ?_
      refine lv_goto (tgt := 38) hx hb dX9_notPlace_33 (by decide) ?_
      have h := Option.some.inj h
      subst h
      exact e_i X hH dX9_notPlace_38
  · have h := ie_x h c1
    refine lv_bipush (v := (-11 : Int32)) hx hb dX9_notPlace_9 (by decide) ?_
    refine lv_goto (tgt := 38) hx hb dX9_notPlace_11 (by decide) ?_
    have h := Option.some.inj h
    subst h
    exact e_i X hH dX9_notPlace_38

def fX9_put (xs : SX9) (pa : Int32) (pb : Int32) (pc_ : Int64) : Option (Int32 × SX9) :=
  (fX9_isList pa).bind fun o1 =>
  (if o1 = (0 : Int32) then
  (fX9_no xs (-1 : Int32)).bind fun o3 =>
  some (o3.1, o3.2)
  else
  (fX9_notPlace xs pa pb).bind fun o2 =>
  (if o2 = (0 : Int32) then
  ga 60 (((20 : Int32) * pa) + pb) fun j1 =>
  ltt ((m_items_s xs (vp_updL (m_items xs) j1 pc_))) fun xs1 =>
  some ((1 : Int32), xs1)
  else
  some (o2, xs)))
set_option maxHeartbeats 4000000 in
set_option maxRecDepth 100000 in
theorem uX9_put {l : Launch} {g : GG} {a : Nat → Nat} {i : Nat} {xs : SX9} {pa : Int32} {pb : Int32} {pc_ : Int64} {o : (Int32 × SX9)} (h : fX9_put xs pa pb pc_ = some o) : mC l g yX9_put cX9_put 6 (some .int) (rM 2 47) [.ref (a i), .int pa, .int pb, .long pc_] (wX9 g a i xs) (wX9 g a i o.2) (some (.int o.1)) := by
  refine mC.ofW (by decide) (fun p e s m below meth c X hH ls _ hl => ?_) (Nat.le_of_ble_eq_true rfl)
  have hx := X.1
  have hb := X.2.1
  have hl : lv_has ls 6 [(0, .ref (a i)), (1, .int pa), (2, .int pb), (3, .long pc_)] := hl
  unfold fX9_put at h
  suffices HH : ∀ (H : Heap) (locs : List Loc), mH g s (wX9 g a i xs) (wX9 g a i xs) H locs → W p l e (rM 2 47) s m _ below meth c H locs 0 0 (mZ g below _ s (wX9 g a i xs) (wX9 g a i o.2) (some (.int o.1))) (F0 m 0 ls []) from HH _ _ hH
  clear hH
  intro H locs hH
  refine lv_iload_n hx hb dX9_put_0 rfl (lv_at hl 1 rfl) ?_
  obtain ⟨o1, ho1, h⟩ := bd_x h
  refine r_S X hH (ws1 := (wX9 g a i xs)) (As := [.int pa]) (rest := []) (st1 := [.int o1]) (uX9_isList  ho1) kX9_isList mX9_366 sX9_isList zX9 okX9_isList ⟨Nat.le_of_ble_eq_true rfl, Nat.le_of_ble_eq_true rfl⟩ rfl rfl (pm_none _) (pm_none _) rfl hl.1 rfl (Nat.le_of_ble_eq_true rfl) ⟨Nat.le_refl 0, Nat.le_refl 0⟩ rfl dX9_put_1 (fun H locs hH => ?_)
  refine lv_if_ne (tgt := 13) hx hb dX9_put_4 (by decide) (fun c1 => ?_) (fun c1 => ?_)
  · have h := ie_x h c1
    refine lv_aload_n hx hb dX9_put_13 rfl (lv_at hl 0 rfl) ?_
    refine lv_iload_n hx hb dX9_put_14 rfl (lv_at hl 1 rfl) ?_
    refine lv_iload_n hx hb dX9_put_15 rfl (lv_at hl 2 rfl) ?_
    obtain ⟨o2, ho2, h⟩ := bd_x h
    refine r_V X hH (ws1 := (wX9 g a i xs)) (As := [.int pa, .int pb]) (rest := []) (st1 := [.int o2]) (uX9_notPlace (a := a) (i := i) ho2) kX9_notPlace mX9_369 iX9_notPlace vX9_notPlace zX9 okX9_notPlace ⟨Nat.le_of_ble_eq_true rfl, Nat.le_of_ble_eq_true rfl⟩ rfl rfl (q0 := 0) rfl rfl (pm_all _) (pm_all _) rfl hl.1 rfl (Nat.le_of_ble_eq_true rfl) ⟨Nat.le_refl 0, Nat.le_refl 0⟩ rfl dX9_put_16 (fun H locs hH => ?_)
    refine s_i X (lv' := [(5, .int o2), (0, .ref (a i)), (1, .int pa), (2, .int pb), (3, .long pc_)]) hl rfl dX9_put_19 (by decide) rfl (fun ls hl => ?_)
    refine lv_iload hx hb dX9_put_21 (lv_at hl 0 rfl) ?_
    refine lv_if_eq (tgt := 29) hx hb dX9_put_23 (by decide) (fun c2 => ?_) (fun c2 => ?_)
    · have h := it_x h c2
      refine lv_aload_n hx hb dX9_put_29 rfl (lv_at hl 1 rfl) ?_
      refine f_get X hH 0 rfl rfl 42 (by decide) inX9 fX9_98 rfl dX9_put_30 ?_
      refine lv_bipush (v := (20 : Int32)) hx hb dX9_put_33 (by decide) ?_
      refine lv_iload_n hx hb dX9_put_35 rfl (lv_at hl 2 rfl) ?_
      refine lv_imul hx hb dX9_put_36 ?_
      refine lv_iload_n hx hb dX9_put_37 rfl (lv_at hl 3 rfl) ?_
      refine lv_iadd hx hb dX9_put_38 ?_
      refine lv_lload_n hx hb dX9_put_39 rfl (lv_at hl 4 rfl) ?_
      obtain ⟨j1, ej1, hinj1, h⟩ := ga_x h
      obtain ⟨xs1, exs1, h⟩ := ltt_x h
      refine a_ls X hH (ws1 := (wX9 g a i xs1)) 28 rfl hinj1 ej1 (by rw [exs1]; rfl) dX9_put_40 (fun H locs hH => ?_)
      refine lv_iconst (v := (1 : Int32)) hx hb dX9_put_41 (by decide) ?_
      have h := Option.some.inj h
      subst h
      exact e_i X hH dX9_put_42
    · have h := ie_x h c2
      refine lv_iload hx hb dX9_put_26 (lv_at hl 0 rfl) ?_
      have h := Option.some.inj h
      subst h
      exact e_i X hH dX9_put_28
  · have h := it_x h c1
    refine lv_aload_n hx hb dX9_put_7 rfl (lv_at hl 0 rfl) ?_
    refine lv_iconst (v := (-1 : Int32)) hx hb dX9_put_8 (by decide) ?_
    obtain ⟨o3, ho3, h⟩ := bd_x h
    refine r_V X hH (ws1 := (wX9 g a i o3.2)) (As := [.int (-1 : Int32)]) (rest := []) (st1 := [.int o3.1]) (uX9_no (a := a) (i := i) ho3) kX9_no mX9_125 iX9_no vX9_no zX9 okX9_no ⟨Nat.le_of_ble_eq_true rfl, Nat.le_of_ble_eq_true rfl⟩ rfl rfl (q0 := 0) rfl rfl (pm_all _) (pm_all _) rfl hl.1 rfl (Nat.le_of_ble_eq_true rfl) ⟨Nat.le_refl 0, Nat.le_refl 0⟩ rfl dX9_put_9 (fun H locs hH => ?_)
    have h := Option.some.inj h
    subst h
    exact e_i X hH dX9_put_12

def fX9_look (xs : SX9) (pa : Int32) (pb : Int32) : Option (Int64 × SX9) :=
  (fX9_isList pa).bind fun o1 =>
  (if o1 = (0 : Int32) then
  (fX9_far xs (-1 : Int32)).bind fun o3 =>
  some (o3.1, o3.2)
  else
  (fX9_notPlace xs pa pb).bind fun o2 =>
  (if o2 = (0 : Int32) then
  ga 60 (((20 : Int32) * pa) + pb) fun j1 =>
  some (((m_items xs) j1), xs)
  else
  some (((4000000000000000000 : Int64) - (o2.toInt64)), xs)))
set_option maxHeartbeats 4000000 in
set_option maxRecDepth 100000 in
theorem uX9_look {l : Launch} {g : GG} {a : Nat → Nat} {i : Nat} {xs : SX9} {pa : Int32} {pb : Int32} {o : (Int64 × SX9)} (h : fX9_look xs pa pb = some o) : mC l g yX9_look cX9_look 4 (some .long) (rM 2 47) [.ref (a i), .int pa, .int pb] (wX9 g a i xs) (wX9 g a i o.2) (some (.long o.1)) := by
  refine mC.ofW (by decide) (fun p e s m below meth c X hH ls _ hl => ?_) (Nat.le_of_ble_eq_true rfl)
  have hx := X.1
  have hb := X.2.1
  have hl : lv_has ls 4 [(0, .ref (a i)), (1, .int pa), (2, .int pb)] := hl
  unfold fX9_look at h
  suffices HH : ∀ (H : Heap) (locs : List Loc), mH g s (wX9 g a i xs) (wX9 g a i xs) H locs → W p l e (rM 2 47) s m _ below meth c H locs 0 0 (mZ g below _ s (wX9 g a i xs) (wX9 g a i o.2) (some (.long o.1))) (F0 m 0 ls []) from HH _ _ hH
  clear hH
  intro H locs hH
  refine lv_iload_n hx hb dX9_look_0 rfl (lv_at hl 1 rfl) ?_
  obtain ⟨o1, ho1, h⟩ := bd_x h
  refine r_S X hH (ws1 := (wX9 g a i xs)) (As := [.int pa]) (rest := []) (st1 := [.int o1]) (uX9_isList  ho1) kX9_isList mX9_366 sX9_isList zX9 okX9_isList ⟨Nat.le_of_ble_eq_true rfl, Nat.le_of_ble_eq_true rfl⟩ rfl rfl (pm_none _) (pm_none _) rfl hl.1 rfl (Nat.le_of_ble_eq_true rfl) ⟨Nat.le_refl 0, Nat.le_refl 0⟩ rfl dX9_look_1 (fun H locs hH => ?_)
  refine lv_if_ne (tgt := 13) hx hb dX9_look_4 (by decide) (fun c1 => ?_) (fun c1 => ?_)
  · have h := ie_x h c1
    refine lv_aload_n hx hb dX9_look_13 rfl (lv_at hl 0 rfl) ?_
    refine lv_iload_n hx hb dX9_look_14 rfl (lv_at hl 1 rfl) ?_
    refine lv_iload_n hx hb dX9_look_15 rfl (lv_at hl 2 rfl) ?_
    obtain ⟨o2, ho2, h⟩ := bd_x h
    refine r_V X hH (ws1 := (wX9 g a i xs)) (As := [.int pa, .int pb]) (rest := []) (st1 := [.int o2]) (uX9_notPlace (a := a) (i := i) ho2) kX9_notPlace mX9_369 iX9_notPlace vX9_notPlace zX9 okX9_notPlace ⟨Nat.le_of_ble_eq_true rfl, Nat.le_of_ble_eq_true rfl⟩ rfl rfl (q0 := 0) rfl rfl (pm_all _) (pm_all _) rfl hl.1 rfl (Nat.le_of_ble_eq_true rfl) ⟨Nat.le_refl 0, Nat.le_refl 0⟩ rfl dX9_look_16 (fun H locs hH => ?_)
    refine s_in X (lv' := [(3, .int o2), (0, .ref (a i)), (1, .int pa), (2, .int pb)]) hl rfl dX9_look_19 rfl (by decide) rfl (fun ls hl => ?_)
    refine lv_iload_n hx hb dX9_look_20 rfl (lv_at hl 0 rfl) ?_
    refine lv_if_eq (tgt := 33) hx hb dX9_look_21 (by decide) (fun c2 => ?_) (fun c2 => ?_)
    · have h := it_x h c2
      refine lv_aload_n hx hb dX9_look_33 rfl (lv_at hl 1 rfl) ?_
      refine f_get X hH 0 rfl rfl 42 (by decide) inX9 fX9_98 rfl dX9_look_34 ?_
      refine lv_bipush (v := (20 : Int32)) hx hb dX9_look_37 (by decide) ?_
      refine lv_iload_n hx hb dX9_look_39 rfl (lv_at hl 2 rfl) ?_
      refine lv_imul hx hb dX9_look_40 ?_
      refine lv_iload_n hx hb dX9_look_41 rfl (lv_at hl 3 rfl) ?_
      refine lv_iadd hx hb dX9_look_42 ?_
      obtain ⟨j1, ej1, hinj1, h⟩ := ga_x h
      refine a_ll X hH 28 rfl hinj1 ej1 dX9_look_43 ?_
      have h := Option.some.inj h
      subst h
      exact e_l X hH dX9_look_44
    · have h := ie_x h c2
      refine lv_ldc2 hx hb X.2.2.2.2.1 (X.2.2.2.2.2.1 _ nX9_123) dX9_look_24 ?_
      refine lv_iload_n hx hb dX9_look_27 rfl (lv_at hl 0 rfl) ?_
      refine lv_i2l hx hb dX9_look_28 rfl ?_
      refine lv_lsub hx hb dX9_look_29 ?_
      refine lv_goto (tgt := 44) hx hb dX9_look_30 (by decide) ?_
      have h := Option.some.inj h
      subst h
      exact e_l X hH dX9_look_44
  · have h := it_x h c1
    refine lv_aload_n hx hb dX9_look_7 rfl (lv_at hl 0 rfl) ?_
    refine lv_iconst (v := (-1 : Int32)) hx hb dX9_look_8 (by decide) ?_
    obtain ⟨o3, ho3, h⟩ := bd_x h
    refine r_V X hH (ws1 := (wX9 g a i o3.2)) (As := [.int (-1 : Int32)]) (rest := []) (st1 := [.long o3.1]) (uX9_far (a := a) (i := i) ho3) kX9_far mX9_272 iX9_far vX9_far zX9 okX9_far ⟨Nat.le_of_ble_eq_true rfl, Nat.le_of_ble_eq_true rfl⟩ rfl rfl (q0 := 0) rfl rfl (pm_all _) (pm_all _) rfl hl.1 rfl (Nat.le_of_ble_eq_true rfl) ⟨Nat.le_refl 0, Nat.le_refl 0⟩ rfl dX9_look_9 (fun H locs hH => ?_)
    have h := Option.some.inj h
    subst h
    exact e_l X hH dX9_look_12

def fX9_isLaid (xs : SX9) (pa : Int32) (pb : Int64) (pc_ : Int64) : Option (Int32 × SX9) :=
  ga 3 pa fun j1 =>
  (fX9_isIn pb (0 : Int64) ((((m_listMany xs) j1) - (1 : Int32)).toInt64)).bind fun o1 =>
  (if o1 = (0 : Int32) then
  some ((0 : Int32), xs)
  else
  ga 60 (((20 : Int32) * pa) + (pb.toInt32)) fun j2 =>
  ltt ((m_items_s xs (vp_updL (m_items xs) j2 pc_))) fun xs1 =>
  some ((1 : Int32), xs1))
set_option maxHeartbeats 4000000 in
set_option maxRecDepth 100000 in
theorem uX9_isLaid {l : Launch} {g : GG} {a : Nat → Nat} {i : Nat} {xs : SX9} {pa : Int32} {pb : Int64} {pc_ : Int64} {o : (Int32 × SX9)} (h : fX9_isLaid xs pa pb pc_ = some o) : mC l g yX9_isLaid cX9_isLaid 6 (some .boolean) (rM 1 25) [.ref (a i), .int pa, .long pb, .long pc_] (wX9 g a i xs) (wX9 g a i o.2) (some (.int o.1)) := by
  refine mC.ofW (by decide) (fun p e s m below meth c X hH ls _ hl => ?_) (Nat.le_of_ble_eq_true rfl)
  have hx := X.1
  have hb := X.2.1
  have hl : lv_has ls 6 [(0, .ref (a i)), (1, .int pa), (2, .long pb), (4, .long pc_)] := hl
  unfold fX9_isLaid at h
  suffices HH : ∀ (H : Heap) (locs : List Loc), mH g s (wX9 g a i xs) (wX9 g a i xs) H locs → W p l e (rM 1 25) s m _ below meth c H locs 0 0 (mZ g below _ s (wX9 g a i xs) (wX9 g a i o.2) (some (.int o.1))) (F0 m 0 ls []) from HH _ _ hH
  clear hH
  intro H locs hH
  refine lv_lload_n hx hb dX9_isLaid_0 rfl (lv_at hl 2 rfl) ?_
  refine lv_lconst (v := (0 : Int64)) hx hb dX9_isLaid_1 (by decide) ?_
  refine lv_aload_n hx hb dX9_isLaid_2 rfl (lv_at hl 0 rfl) ?_
  refine f_get X hH 0 rfl rfl 43 (by decide) inX9 fX9_101 rfl dX9_isLaid_3 ?_
  refine lv_iload_n hx hb dX9_isLaid_6 rfl (lv_at hl 1 rfl) ?_
  obtain ⟨j1, ej1, hinj1, h⟩ := ga_x h
  refine a_il X hH 29 rfl hinj1 ej1 dX9_isLaid_7 ?_
  refine lv_iconst (v := (1 : Int32)) hx hb dX9_isLaid_8 (by decide) ?_
  refine lv_isub hx hb dX9_isLaid_9 ?_
  refine lv_i2l hx hb dX9_isLaid_10 rfl ?_
  obtain ⟨o1, ho1, h⟩ := bd_x h
  refine r_S X hH (ws1 := (wX9 g a i xs)) (As := [.long pb, .long (0 : Int64), .long ((((m_listMany xs) j1) - (1 : Int32)).toInt64)]) (rest := []) (st1 := [.int o1]) (uX9_isIn  ho1) kX9_isIn mX9_116 sX9_isIn zX9 okX9_isIn ⟨Nat.le_of_ble_eq_true rfl, Nat.le_of_ble_eq_true rfl⟩ rfl rfl (pm_none _) (pm_none _) rfl hl.1 rfl (Nat.le_of_ble_eq_true rfl) ⟨Nat.le_refl 0, Nat.le_refl 0⟩ rfl dX9_isLaid_11 (fun H locs hH => ?_)
  refine lv_if_ne (tgt := 19) hx hb dX9_isLaid_14 (by decide) (fun c1 => ?_) (fun c1 => ?_)
  · have h := ie_x h c1
    refine lv_aload_n hx hb dX9_isLaid_19 rfl (lv_at hl 0 rfl) ?_
    refine f_get X hH 0 rfl rfl 42 (by decide) inX9 fX9_98 rfl dX9_isLaid_20 ?_
    refine lv_bipush (v := (20 : Int32)) hx hb dX9_isLaid_23 (by decide) ?_
    refine lv_iload_n hx hb dX9_isLaid_25 rfl (lv_at hl 1 rfl) ?_
    refine lv_imul hx hb dX9_isLaid_26 ?_
    refine lv_lload_n hx hb dX9_isLaid_27 rfl (lv_at hl 2 rfl) ?_
    refine lv_l2i hx hb dX9_isLaid_28 rfl ?_
    refine lv_iadd hx hb dX9_isLaid_29 ?_
    refine lv_lload hx hb dX9_isLaid_30 (lv_at hl 3 rfl) ?_
    obtain ⟨j2, ej2, hinj2, h⟩ := ga_x h
    obtain ⟨xs1, exs1, h⟩ := ltt_x h
    refine a_ls X hH (ws1 := (wX9 g a i xs1)) 28 rfl hinj2 ej2 (by rw [exs1]; rfl) dX9_isLaid_32 (fun H locs hH => ?_)
    refine lv_iconst (v := (1 : Int32)) hx hb dX9_isLaid_33 (by decide) ?_
    have h := Option.some.inj h
    subst h
    exact e_z X hH (Or.inr rfl) dX9_isLaid_34
  · have h := it_x h c1
    refine lv_iconst (v := (0 : Int32)) hx hb dX9_isLaid_17 (by decide) ?_
    have h := Option.some.inj h
    subst h
    exact e_z X hH (Or.inl rfl) dX9_isLaid_18
