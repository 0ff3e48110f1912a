def fX9_isLess (pa : Int64) (pb : Int64) (pc_ : Int64) (pd : Int64) : Option Int32 :=
  gzl (pb) <|
  ltt ((pa / pb)) fun v1 =>
  gzl (pd) <|
  ltt ((pc_ / pd)) fun v2 =>
  (if v1 = v2 then
  gzl (pb) <|
  gzl (pd) <|
  (if ((pc_ - pc_ / pd * pd) * pb) ≤ ((pa - pa / pb * pb) * pd) then
  some (0 : Int32)
  else
  some (1 : Int32))
  else
  (if v2 ≤ v1 then
  some (0 : Int32)
  else
  some (1 : Int32)))
set_option maxHeartbeats 4000000 in
set_option maxRecDepth 100000 in
theorem uX9_isLess {l : Launch} {g : GG}  {pa : Int64} {pb : Int64} {pc_ : Int64} {pd : Int64} {o : Int32} (h : fX9_isLess pa pb pc_ pd = some o) : mC l g yX9_isLess cX9_isLess 12 (some .boolean) (rM 0 0) [.long pa, .long pb, .long pc_, .long pd] [] [] (some (.int o)) := by
  refine mC.ofW (by decide) (fun p e s m below meth c X hH ls _ hl => ?_) (Nat.le_of_ble_eq_true rfl)
  have hx := X.1
  have hb := X.2.1
  have hl : lv_has ls 12 [(0, .long pa), (2, .long pb), (4, .long pc_), (6, .long pd)] := hl
  unfold fX9_isLess at h
  suffices HH : ∀ (H : Heap) (locs : List Loc), mH g s [] [] H locs → W p l e (rM 0 0) s m _ below meth c H locs 0 0 (mZ g below _ s [] [] (some (.int o))) (F0 m 0 ls []) from HH _ _ hH
  clear hH
  intro H locs hH
  refine lv_lload_n hx hb dX9_isLess_0 rfl (lv_at hl 0 rfl) ?_
  refine lv_lload_n hx hb dX9_isLess_1 rfl (lv_at hl 1 rfl) ?_
  obtain ⟨z1, h⟩ := gzl_x h
  refine lv_ldiv hx hb dX9_isLess_2 z1 ?_
  obtain ⟨v1, ev1, h⟩ := ltt_x h
  refine s_l X (lv' := [(8, .long v1), (0, .long pa), (2, .long pb), (4, .long pc_), (6, .long pd)]) hl ev1 dX9_isLess_3 (by decide) rfl (fun ls hl => ?_)
  refine lv_lload hx hb dX9_isLess_5 (lv_at hl 3 rfl) ?_
  refine lv_lload hx hb dX9_isLess_7 (lv_at hl 4 rfl) ?_
  obtain ⟨z2, h⟩ := gzl_x h
  refine lv_ldiv hx hb dX9_isLess_9 z2 ?_
  obtain ⟨v2, ev2, h⟩ := ltt_x h
  refine s_l X (lv' := [(10, .long v2), (8, .long v1), (0, .long pa), (2, .long pb), (4, .long pc_), (6, .long pd)]) hl ev2 dX9_isLess_10 (by decide) rfl (fun ls hl => ?_)
  refine lv_lload hx hb dX9_isLess_12 (lv_at hl 1 rfl) ?_
  refine lv_lload hx hb dX9_isLess_14 (lv_at hl 0 rfl) ?_
  refine W.lcmp hx hb dX9_isLess_16 ?_
  refine lv_if_eq (tgt := 36) hx hb dX9_isLess_17 (by decide) (fun c1 => ?_) (fun c1 => ?_)
  · have h := it_x h ((lg_cmp_eq v1 v2).mp c1)
    refine lv_lload_n hx hb dX9_isLess_36 rfl (lv_at hl 2 rfl) ?_
    refine lv_lload_n hx hb dX9_isLess_37 rfl (lv_at hl 3 rfl) ?_
    obtain ⟨z3, h⟩ := gzl_x h
    refine lv_lrem hx hb dX9_isLess_38 z3 ?_
    refine lv_lload hx hb dX9_isLess_39 (lv_at hl 5 rfl) ?_
    refine lv_lmul hx hb dX9_isLess_41 ?_
    refine lv_lload hx hb dX9_isLess_42 (lv_at hl 4 rfl) ?_
    refine lv_lload hx hb dX9_isLess_44 (lv_at hl 5 rfl) ?_
    obtain ⟨z4, h⟩ := gzl_x h
    refine lv_lrem hx hb dX9_isLess_46 z4 ?_
    refine lv_lload_n hx hb dX9_isLess_47 rfl (lv_at hl 3 rfl) ?_
    refine lv_lmul hx hb dX9_isLess_48 ?_
    refine W.lcmp hx hb dX9_isLess_49 ?_
    refine lv_if_ge (tgt := 57) hx hb dX9_isLess_50 (by decide) (fun c2 => ?_) (fun c2 => ?_)
    · have h := it_x h ((lg_cmp_ge ((pa - pa / pb * pb) * pd) ((pc_ - pc_ / pd * pd) * pb)).mp c2)
      refine lv_iconst (v := (0 : Int32)) hx hb dX9_isLess_57 (by decide) ?_
      have h := Option.some.inj h
      subst h
      exact e_z X hH (Or.inl rfl) dX9_isLess_58
    · have h := ie_x h (mt (lg_cmp_ge ((pa - pa / pb * pb) * pd) ((pc_ - pc_ / pd * pd) * pb)).mpr c2)
      refine lv_iconst (v := (1 : Int32)) hx hb dX9_isLess_53 (by decide) ?_
      refine lv_goto (tgt := 58) hx hb dX9_isLess_54 (by decide) ?_
      have h := Option.some.inj h
      subst h
      exact e_z X hH (Or.inr rfl) dX9_isLess_58
  · have h := ie_x h (mt (lg_cmp_eq v1 v2).mpr c1)
    refine lv_lload hx hb dX9_isLess_20 (lv_at hl 1 rfl) ?_
    refine lv_lload hx hb dX9_isLess_22 (lv_at hl 0 rfl) ?_
    refine W.lcmp hx hb dX9_isLess_24 ?_
    refine lv_if_ge (tgt := 32) hx hb dX9_isLess_25 (by decide) (fun c3 => ?_) (fun c3 => ?_)
    · have h := it_x h ((lg_cmp_ge v1 v2).mp c3)
      refine lv_iconst (v := (0 : Int32)) hx hb dX9_isLess_32 (by decide) ?_
      refine lv_goto (tgt := 58) hx hb dX9_isLess_33 (by decide) ?_
      have h := Option.some.inj h
      subst h
      exact e_z X hH (Or.inl rfl) dX9_isLess_58
    · have h := ie_x h (mt (lg_cmp_ge v1 v2).mpr c3)
      refine lv_iconst (v := (1 : Int32)) hx hb dX9_isLess_28 (by decide) ?_
      refine lv_goto (tgt := 58) hx hb dX9_isLess_29 (by decide) ?_
      have h := Option.some.inj h
      subst h
      exact e_z X hH (Or.inr rfl) dX9_isLess_58

def qX9_added_21 (pa : Int32) (pb : Int32)  (xs : SX9) : Option (Int32 × SX9) :=
  (fX9_no xs (-1 : Int32)).bind fun o2 =>
  some (o2.1, o2.2)
def qX9_added_225 (pa : Int32) (pb : Int32) (k135 : SX9 → Int32 → Int64 → Int64 → Int32 → Int32 → Int32 → Option (Int32 × SX9)) (xs : SX9) (l3 : Int32) (l4 : Int64) (l6 : Int64) (l8 : Int32) (l9 : Int32) (l10 : Int32) : Option (Int32 × SX9) :=
  ltt (l10 + (1 : Int32)) fun v7 =>
  k135 xs l3 l4 l6 l8 l9 v7
def qX9_added_201 (pa : Int32) (pb : Int32) (k225 : SX9 → Int32 → Int64 → Int64 → Int32 → Int32 → Int32 → Option (Int32 × SX9)) (xs : SX9) (l9 : Int32) (l10 : Int32) : Option (Int32 × SX9) :=
  ltt ((((10 : Int32) * l9) + l10)) fun v8 =>
  ltt ((m_up xs)) fun v9 =>
  ltt ((m_down xs)) fun v10 =>
  k225 xs (1 : Int32) v9 v10 v8 l9 l10
def qX9_added_135 (pa : Int32) (pb : Int32) (k120 : SX9 → Int32 → Int64 → Int64 → Int32 → Int32 → Option (Int32 × SX9)) : Nat → SX9 → Int32 → Int64 → Int64 → Int32 → Int32 → Int32 → Option (Int32 × SX9)
  | 0, _, _, _, _, _, _, _ => none
  | fu + 1, xs, l3, l4, l6, l8, l9, l10 =>
  (if (m_points xs) ≤ l10 then
  ltt (l9 + (1 : Int32)) fun v6 =>
  k120 xs l3 l4 l6 l8 v6
  else
  ga 11 (m_many xs) fun j5 =>
  ltt ((m_first_s xs (upd (m_first xs) j5 l9))) fun xs7 =>
  ga 11 (m_many xs7) fun j6 =>
  ltt ((m_second_s xs7 (upd (m_second xs7) j6 l10))) fun xs8 =>
  (fX9_findTime xs8 pa pb (0 : Int32)).bind fun o6 =>
  (if o6.1 = (0 : Int32) then
  qX9_added_225 pa pb (qX9_added_135 pa pb k120 fu) o6.2 l3 l4 l6 l8 l9 l10
  else
  (if l3 = (0 : Int32) then
  qX9_added_201 pa pb (qX9_added_225 pa pb (qX9_added_135 pa pb k120 fu)) o6.2 l9 l10
  else
  (fX9_isLess (m_up o6.2) (m_down o6.2) l4 l6).bind fun o7 =>
  (if o7 = (0 : Int32) then
  qX9_added_225 pa pb (qX9_added_135 pa pb k120 fu) o6.2 l3 l4 l6 l8 l9 l10
  else
  qX9_added_201 pa pb (qX9_added_225 pa pb (qX9_added_135 pa pb k120 fu)) o6.2 l9 l10))))
def qX9_added_120 (pa : Int32) (pb : Int32)  : Nat → SX9 → Int32 → Int64 → Int64 → Int32 → Int32 → Option (Int32 × SX9)
  | 0, _, _, _, _, _, _ => none
  | fu + 1, xs, l3, l4, l6, l8, l9 =>
  (if (m_points xs) ≤ l9 then
  some (l8, xs)
  else
  ltt ((l9 + (1 : Int32))) fun v5 =>
  qX9_added_135 pa pb (qX9_added_120 pa pb  fu) FU xs l3 l4 l6 l8 l9 v5)
def fX9_added (xs : SX9) (pa : Int32) (pb : Int32) : Option (Int32 × SX9) :=
  (fX9_isPoint xs pa).bind fun o1 =>
  (if o1 = (0 : Int32) then
  qX9_added_21 pa pb xs
  else
  (fX9_isPoint xs pb).bind fun o3 =>
  (if o3 = (0 : Int32) then
  qX9_added_21 pa pb xs
  else
  (if pa = pb then
  qX9_added_21 pa pb xs
  else
  (fX9_allThere xs).bind fun o4 =>
  (fX9_findTime o4 pa pb (0 : Int32)).bind fun o5 =>
  ltt ((m_up o5.2)) fun v1 =>
  ltt ((m_down o5.2)) fun v2 =>
  ltt (((m_many o5.2) + (1 : Int32))) fun v3 =>
  ltt ((m_all_s o5.2 v3)) fun xs1 =>
  ltt ((((1 : Int32) <<< ((m_all xs1) &&& 31)) - (1 : Int32))) fun v4 =>
  ltt ((m_there_s xs1 v4)) fun xs2 =>
  ga 11 (m_many xs2) fun j1 =>
  ltt ((m_kind_s xs2 (upd (m_kind xs2) j1 (0 : Int32)))) fun xs3 =>
  ga 11 (m_many xs3) fun j2 =>
  ltt ((m_figure_s xs3 (upd (m_figure xs3) j2 (0 : Int32)))) fun xs4 =>
  ga 11 (m_many xs4) fun j3 =>
  ltt ((m_load_s xs4 (upd (m_load xs4) j3 (1 : Int32)))) fun xs5 =>
  ga 11 (m_many xs5) fun j4 =>
  ltt ((m_length_s xs5 (upd (m_length xs5) j4 (1 : Int32)))) fun xs6 =>
  qX9_added_120 pa pb FU xs6 o5.1 v1 v2 (-9 : Int32) (0 : Int32))))
set_option maxHeartbeats 4000000 in
set_option maxRecDepth 100000 in
theorem pX9_added_21 {p : Program} {l : Launch} {e : Env} {s : State} {m : MethodId} {args : Array Value} {below : List Frame} {meth : Method} {c : Code} {g : GG} {w0 : va_W} {a : Nat → Nat} {i : Nat} {pa : Int32} {pb : Int32} {o : (Int32 × SX9)} (X : mX g yX9_added cX9_added 11 (some .int) p s m args meth c w0) :
  ∀ (xs : SX9) (H : Heap) (locs : List Loc) (ls : Array Slot), qX9_added_21 pa pb xs = some o → mH g s w0 (wX9 g a i xs) H locs → lv_has ls 11 [(0, .ref (a i)), (1, .int pa), (2, .int pb)] → W p l e (rM 5 117) s m args below meth c H locs 0 0 (mZ g below args s w0 (wX9 g a i o.2) (some (.int o.1))) (F0 m 21 ls []) := by
  have hx := X.1
  have hb := X.2.1
  intro xs H locs ls h hH hl
  unfold qX9_added_21 at h
  refine lv_aload_n hx hb dX9_added_21 rfl (lv_at hl 0 rfl) ?_
  refine lv_iconst (v := (-1 : Int32)) hx hb dX9_added_22 (by decide) ?_
  obtain ⟨o2, ho2, h⟩ := bd_x h
  refine r_V X hH (ws1 := (wX9 g a i o2.2)) (As := [.int (-1 : Int32)]) (rest := []) (st1 := [.int o2.1]) (uX9_no (a := a) (i := i) ho2) kX9_no mX9_125 iX9_no vX9_no zX9 okX9_no ⟨Nat.le_of_ble_eq_true rfl, Nat.le_of_ble_eq_true rfl⟩ rfl rfl (q0 := 0) rfl rfl (pm_all _) (pm_all _) rfl hl.1 rfl (Nat.le_of_ble_eq_true rfl) ⟨Nat.le_refl 0, Nat.le_refl 0⟩ rfl dX9_added_23 (fun H locs hH => ?_)
  have h := Option.some.inj h
  subst h
  exact e_i X hH dX9_added_26
set_option maxHeartbeats 4000000 in
set_option maxRecDepth 100000 in
theorem pX9_added_225 {p : Program} {l : Launch} {e : Env} {s : State} {m : MethodId} {args : Array Value} {below : List Frame} {meth : Method} {c : Code} {g : GG} {w0 : va_W} {a : Nat → Nat} {i : Nat} {pa : Int32} {pb : Int32} {o : (Int32 × SX9)} (X : mX g yX9_added cX9_added 11 (some .int) p s m args meth c w0)
  {k135 : SX9 → Int32 → Int64 → Int64 → Int32 → Int32 → Int32 → Option (Int32 × SX9)} (K135 : ∀ (xs : SX9) (l3 : Int32) (l4 : Int64) (l6 : Int64) (l8 : Int32) (l9 : Int32) (l10 : Int32) (H : Heap) (locs : List Loc) (ls : Array Slot), k135 xs l3 l4 l6 l8 l9 l10 = some o → mH g s w0 (wX9 g a i xs) H locs → lv_has ls 11 [(0, .ref (a i)), (1, .int pa), (2, .int pb), (3, .int l3), (4, .long l4), (6, .long l6), (8, .int l8), (9, .int l9), (10, .int l10)] → W p l e (rM 5 117) s m args below meth c H locs 0 0 (mZ g below args s w0 (wX9 g a i o.2) (some (.int o.1))) (F0 m 135 ls [])) :
  ∀ (xs : SX9) (l3 : Int32) (l4 : Int64) (l6 : Int64) (l8 : Int32) (l9 : Int32) (l10 : Int32) (H : Heap) (locs : List Loc) (ls : Array Slot), qX9_added_225 pa pb k135 xs l3 l4 l6 l8 l9 l10 = some o → mH g s w0 (wX9 g a i xs) H locs → lv_has ls 11 [(0, .ref (a i)), (1, .int pa), (2, .int pb), (3, .int l3), (4, .long l4), (6, .long l6), (8, .int l8), (9, .int l9), (10, .int l10)] → W p l e (rM 5 117) s m args below meth c H locs 0 0 (mZ g below args s w0 (wX9 g a i o.2) (some (.int o.1))) (F0 m 225 ls []) := by
  have hx := X.1
  have hb := X.2.1
  intro xs l3 l4 l6 l8 l9 l10 H locs ls h hH hl
  unfold qX9_added_225 at h
  obtain ⟨v7, ev7, h⟩ := ltt_x h
  refine s_inc X (k := 8) (lv' := [(10, .int v7), (0, .ref (a i)), (1, .int pa), (2, .int pb), (3, .int l3), (4, .long l4), (6, .long l6), (8, .int l8), (9, .int l9)]) hl rfl (by rw [ev7]; rfl) dX9_added_225 (by decide) rfl (fun ls hl => ?_)
  refine lv_goto (tgt := 135) hx hb dX9_added_228 (by decide) ?_
  exact K135 xs l3 l4 l6 l8 l9 v7 H locs ls h hH (lv_sub hl [1, 2, 3, 4, 5, 6, 7, 8, 0] rfl)
set_option maxHeartbeats 4000000 in
set_option maxRecDepth 100000 in
theorem pX9_added_201 {p : Program} {l : Launch} {e : Env} {s : State} {m : MethodId} {args : Array Value} {below : List Frame} {meth : Method} {c : Code} {g : GG} {w0 : va_W} {a : Nat → Nat} {i : Nat} {pa : Int32} {pb : Int32} {o : (Int32 × SX9)} (X : mX g yX9_added cX9_added 11 (some .int) p s m args meth c w0)
  {k225 : SX9 → Int32 → Int64 → Int64 → Int32 → Int32 → Int32 → Option (Int32 × SX9)} (K225 : ∀ (xs : SX9) (l3 : Int32) (l4 : Int64) (l6 : Int64) (l8 : Int32) (l9 : Int32) (l10 : Int32) (H : Heap) (locs : List Loc) (ls : Array Slot), k225 xs l3 l4 l6 l8 l9 l10 = some o → mH g s w0 (wX9 g a i xs) H locs → lv_has ls 11 [(0, .ref (a i)), (1, .int pa), (2, .int pb), (3, .int l3), (4, .long l4), (6, .long l6), (8, .int l8), (9, .int l9), (10, .int l10)] → W p l e (rM 5 117) s m args below meth c H locs 0 0 (mZ g below args s w0 (wX9 g a i o.2) (some (.int o.1))) (F0 m 225 ls [])) :
  ∀ (xs : SX9) (l9 : Int32) (l10 : Int32) (H : Heap) (locs : List Loc) (ls : Array Slot), qX9_added_201 pa pb k225 xs l9 l10 = some o → mH g s w0 (wX9 g a i xs) H locs → lv_has ls 11 [(0, .ref (a i)), (1, .int pa), (2, .int pb), (9, .int l9), (10, .int l10)] → W p l e (rM 5 117) s m args below meth c H locs 0 0 (mZ g below args s w0 (wX9 g a i o.2) (some (.int o.1))) (F0 m 201 ls []) := by
  have hx := X.1
  have hb := X.2.1
  intro xs l9 l10 H locs ls h hH hl
  unfold qX9_added_201 at h
  refine lv_iconst (v := (1 : Int32)) hx hb dX9_added_201 (by decide) ?_
  refine s_in X (lv' := [(3, .int (1 : Int32)), (0, .ref (a i)), (1, .int pa), (2, .int pb), (9, .int l9), (10, .int l10)]) hl rfl dX9_added_202 rfl (by decide) rfl (fun ls hl => ?_)
  refine lv_bipush (v := (10 : Int32)) hx hb dX9_added_203 (by decide) ?_
  refine lv_iload hx hb dX9_added_205 (lv_at hl 4 rfl) ?_
  refine lv_imul hx hb dX9_added_207 ?_
  refine lv_iload hx hb dX9_added_208 (lv_at hl 5 rfl) ?_
  refine lv_iadd hx hb dX9_added_210 ?_
  obtain ⟨v8, ev8, h⟩ := ltt_x h
  refine s_i X (lv' := [(8, .int v8), (3, .int (1 : Int32)), (0, .ref (a i)), (1, .int pa), (2, .int pb), (9, .int l9), (10, .int l10)]) hl ev8 dX9_added_211 (by decide) rfl (fun ls hl => ?_)
  refine lv_aload_n hx hb dX9_added_213 rfl (lv_at hl 2 rfl) ?_
  refine f_get X hH 0 rfl rfl 26 (by decide) inX9 fX9_248 rfl dX9_added_214 ?_
  obtain ⟨v9, ev9, h⟩ := ltt_x h
  refine s_l X (lv' := [(4, .long v9), (8, .int v8), (3, .int (1 : Int32)), (0, .ref (a i)), (1, .int pa), (2, .int pb), (9, .int l9), (10, .int l10)]) hl ev9 dX9_added_217 (by decide) rfl (fun ls hl => ?_)
  refine lv_aload_n hx hb dX9_added_219 rfl (lv_at hl 3 rfl) ?_
  refine f_get X hH 0 rfl rfl 27 (by decide) inX9 fX9_252 rfl dX9_added_220 ?_
  obtain ⟨v10, ev10, h⟩ := ltt_x h
  refine s_l X (lv' := [(6, .long v10), (4, .long v9), (8, .int v8), (3, .int (1 : Int32)), (0, .ref (a i)), (1, .int pa), (2, .int pb), (9, .int l9), (10, .int l10)]) hl ev10 dX9_added_223 (by decide) rfl (fun ls hl => ?_)
  exact K225 xs (1 : Int32) v9 v10 v8 l9 l10 H locs ls h hH (lv_sub hl [4, 5, 6, 3, 1, 0, 2, 7, 8] rfl)
set_option maxHeartbeats 4000000 in
set_option maxRecDepth 100000 in
theorem pX9_added_135 {p : Program} {l : Launch} {e : Env} {s : State} {m : MethodId} {args : Array Value} {below : List Frame} {meth : Method} {c : Code} {g : GG} {w0 : va_W} {a : Nat → Nat} {i : Nat} {pa : Int32} {pb : Int32} {o : (Int32 × SX9)} (X : mX g yX9_added cX9_added 11 (some .int) p s m args meth c w0)
  {k120 : SX9 → Int32 → Int64 → Int64 → Int32 → Int32 → Option (Int32 × SX9)} (K120 : ∀ (xs : SX9) (l3 : Int32) (l4 : Int64) (l6 : Int64) (l8 : Int32) (l9 : Int32) (H : Heap) (locs : List Loc) (ls : Array Slot), k120 xs l3 l4 l6 l8 l9 = some o → mH g s w0 (wX9 g a i xs) H locs → lv_has ls 11 [(0, .ref (a i)), (1, .int pa), (2, .int pb), (3, .int l3), (4, .long l4), (6, .long l6), (8, .int l8), (9, .int l9)] → W p l e (rM 5 117) s m args below meth c H locs 0 0 (mZ g below args s w0 (wX9 g a i o.2) (some (.int o.1))) (F0 m 120 ls [])) :
  ∀ (fu : Nat) (xs : SX9) (l3 : Int32) (l4 : Int64) (l6 : Int64) (l8 : Int32) (l9 : Int32) (l10 : Int32) (H : Heap) (locs : List Loc) (ls : Array Slot), qX9_added_135 pa pb k120 fu xs l3 l4 l6 l8 l9 l10 = some o → mH g s w0 (wX9 g a i xs) H locs → lv_has ls 11 [(0, .ref (a i)), (1, .int pa), (2, .int pb), (3, .int l3), (4, .long l4), (6, .long l6), (8, .int l8), (9, .int l9), (10, .int l10)] → W p l e (rM 5 117) s m args below meth c H locs 0 0 (mZ g below args s w0 (wX9 g a i o.2) (some (.int o.1))) (F0 m 135 ls []) := by
  have hx := X.1
  have hb := X.2.1
  intro fu
  induction fu with
  | zero =>
    intro xs l3 l4 l6 l8 l9 l10 H locs ls h
    unfold qX9_added_135 at h
    cases h
  | succ fu ih =>
    intro xs l3 l4 l6 l8 l9 l10 H locs ls h hH hl
    unfold qX9_added_135 at h
    refine lv_iload hx hb dX9_added_135 (lv_at hl 8 rfl) ?_
    refine lv_aload_n hx hb dX9_added_137 rfl (lv_at hl 0 rfl) ?_
    refine f_get X hH 0 rfl rfl 0 (by decide) inX9 fX9_7 rfl dX9_added_138 ?_
    refine lv_icmp_ge (tgt := 231) hx hb dX9_added_141 (by decide) (fun c5 => ?_) (fun c5 => ?_)
    · have h := it_x h c5
      obtain ⟨v6, ev6, h⟩ := ltt_x h
      refine s_inc X (k := 7) (lv' := [(9, .int v6), (0, .ref (a i)), (1, .int pa), (2, .int pb), (3, .int l3), (4, .long l4), (6, .long l6), (8, .int l8), (10, .int l10)]) hl rfl (by rw [ev6]; rfl) dX9_added_231 (by decide) rfl (fun ls hl => ?_)
      refine lv_goto (tgt := 120) hx hb dX9_added_234 (by decide) ?_
      exact K120 xs l3 l4 l6 l8 v6 H locs ls h hH (lv_sub hl [1, 2, 3, 4, 5, 6, 7, 0] rfl)
    · have h := ie_x h c5
      refine lv_aload_n hx hb dX9_added_144 rfl (lv_at hl 0 rfl) ?_
      refine f_get X hH 0 rfl rfl 2 (by decide) inX9 fX9_13 rfl dX9_added_145 ?_
      refine lv_aload_n hx hb dX9_added_148 rfl (lv_at hl 0 rfl) ?_
      refine f_get X hH 0 rfl rfl 1 (by decide) inX9 fX9_120 rfl dX9_added_149 ?_
      refine lv_iload hx hb dX9_added_152 (lv_at hl 7 rfl) ?_
      obtain ⟨j5, ej5, hinj5, h⟩ := ga_x h
      obtain ⟨xs7, exs7, h⟩ := ltt_x h
      refine a_is X hH (ws1 := (wX9 g a i xs7)) 1 rfl hinj5 ej5 (by rw [exs7]; rfl) dX9_added_154 (fun H locs hH => ?_)
      refine lv_aload_n hx hb dX9_added_155 rfl (lv_at hl 0 rfl) ?_
      refine f_get X hH 0 rfl rfl 3 (by decide) inX9 fX9_17 rfl dX9_added_156 ?_
      refine lv_aload_n hx hb dX9_added_159 rfl (lv_at hl 0 rfl) ?_
      refine f_get X hH 0 rfl rfl 1 (by decide) inX9 fX9_120 rfl dX9_added_160 ?_
      refine lv_iload hx hb dX9_added_163 (lv_at hl 8 rfl) ?_
      obtain ⟨j6, ej6, hinj6, h⟩ := ga_x h
      obtain ⟨xs8, exs8, h⟩ := ltt_x h
      refine a_is X hH (ws1 := (wX9 g a i xs8)) 2 rfl hinj6 ej6 (by rw [exs8]; rfl) dX9_added_165 (fun H locs hH => ?_)
      refine lv_aload_n hx hb dX9_added_166 rfl (lv_at hl 0 rfl) ?_
      refine lv_iload_n hx hb dX9_added_167 rfl (lv_at hl 1 rfl) ?_
      refine lv_iload_n hx hb dX9_added_168 rfl (lv_at hl 2 rfl) ?_
      refine lv_iconst (v := (0 : Int32)) hx hb dX9_added_169 (by decide) ?_
      obtain ⟨o6, ho6, h⟩ := bd_x h
      refine r_V X hH (ws1 := (wX9 g a i o6.2)) (As := [.int pa, .int pb, .int (0 : Int32)]) (rest := []) (st1 := [.int o6.1]) (uX9_findTime (a := a) (i := i) ho6) kX9_findTime mX9_275 iX9_findTime vX9_findTime zX9 okX9_findTime ⟨Nat.le_of_ble_eq_true rfl, Nat.le_of_ble_eq_true rfl⟩ rfl rfl (q0 := 0) rfl rfl (pm_all _) (pm_all _) rfl hl.1 rfl (Nat.le_of_ble_eq_true rfl) ⟨Nat.le_refl 0, Nat.le_refl 0⟩ rfl dX9_added_170 (fun H locs hH => ?_)
      refine lv_if_eq (tgt := 225) hx hb dX9_added_173 (by decide) (fun c6 => ?_) (fun c6 => ?_)
      · have h := it_x h c6
        exact pX9_added_225 X ih o6.2 l3 l4 l6 l8 l9 l10 H locs ls h hH (lv_sub hl [0, 1, 2, 3, 4, 5, 6, 7, 8] rfl)
      · have h := ie_x h c6
        refine lv_iload_n hx hb dX9_added_176 rfl (lv_at hl 3 rfl) ?_
        refine lv_if_eq (tgt := 201) hx hb dX9_added_177 (by decide) (fun c7 => ?_) (fun c7 => ?_)
        · have h := it_x h c7
          exact pX9_added_201 X (pX9_added_225 X ih) o6.2 l9 l10 H locs ls h hH (lv_sub hl [0, 1, 2, 7, 8] rfl)
        · have h := ie_x h c7
          refine lv_aload_n hx hb dX9_added_180 rfl (lv_at hl 0 rfl) ?_
          refine f_get X hH 0 rfl rfl 26 (by decide) inX9 fX9_248 rfl dX9_added_181 ?_
          refine lv_aload_n hx hb dX9_added_184 rfl (lv_at hl 0 rfl) ?_
          refine f_get X hH 0 rfl rfl 27 (by decide) inX9 fX9_252 rfl dX9_added_185 ?_
          refine lv_lload hx hb dX9_added_188 (lv_at hl 4 rfl) ?_
          refine lv_lload hx hb dX9_added_190 (lv_at hl 5 rfl) ?_
          obtain ⟨o7, ho7, h⟩ := bd_x h
          refine r_S X hH (ws1 := (wX9 g a i o6.2)) (As := [.long (m_up o6.2), .long (m_down o6.2), .long l4, .long l6]) (rest := []) (st1 := [.int o7]) (uX9_isLess  ho7) kX9_isLess mX9_306 sX9_isLess zX9 okX9_isLess ⟨Nat.le_of_ble_eq_true rfl, Nat.le_of_ble_eq_true rfl⟩ rfl rfl (pm_none _) (pm_none _) rfl hl.1 rfl (Nat.le_of_ble_eq_true rfl) ⟨Nat.le_refl 0, Nat.le_refl 0⟩ rfl dX9_added_192 (fun H locs hH => ?_)
          refine lv_if_ne (tgt := 201) hx hb dX9_added_195 (by decide) (fun c8 => ?_) (fun c8 => ?_)
          · have h := ie_x h c8
            exact pX9_added_201 X (pX9_added_225 X ih) o6.2 l9 l10 H locs ls h hH (lv_sub hl [0, 1, 2, 7, 8] rfl)
          · have h := it_x h c8
            refine lv_goto (tgt := 225) hx hb dX9_added_198 (by decide) ?_
            exact pX9_added_225 X ih o6.2 l3 l4 l6 l8 l9 l10 H locs ls h hH (lv_sub hl [0, 1, 2, 3, 4, 5, 6, 7, 8] rfl)
set_option maxHeartbeats 4000000 in
set_option maxRecDepth 100000 in
theorem pX9_added_120 {p : Program} {l : Launch} {e : Env} {s : State} {m : MethodId} {args : Array Value} {below : List Frame} {meth : Method} {c : Code} {g : GG} {w0 : va_W} {a : Nat → Nat} {i : Nat} {pa : Int32} {pb : Int32} {o : (Int32 × SX9)} (X : mX g yX9_added cX9_added 11 (some .int) p s m args meth c w0) :
  ∀ (fu : Nat) (xs : SX9) (l3 : Int32) (l4 : Int64) (l6 : Int64) (l8 : Int32) (l9 : Int32) (H : Heap) (locs : List Loc) (ls : Array Slot), qX9_added_120 pa pb fu xs l3 l4 l6 l8 l9 = some o → mH g s w0 (wX9 g a i xs) H locs → lv_has ls 11 [(0, .ref (a i)), (1, .int pa), (2, .int pb), (3, .int l3), (4, .long l4), (6, .long l6), (8, .int l8), (9, .int l9)] → W p l e (rM 5 117) s m args below meth c H locs 0 0 (mZ g below args s w0 (wX9 g a i o.2) (some (.int o.1))) (F0 m 120 ls []) := by
  have hx := X.1
  have hb := X.2.1
  intro fu
  induction fu with
  | zero =>
    intro xs l3 l4 l6 l8 l9 H locs ls h
    unfold qX9_added_120 at h
    cases h
  | succ fu ih =>
    intro xs l3 l4 l6 l8 l9 H locs ls h hH hl
    unfold qX9_added_120 at h
    refine lv_iload hx hb dX9_added_120 (lv_at hl 7 rfl) ?_
    refine lv_aload_n hx hb dX9_added_122 rfl (lv_at hl 0 rfl) ?_
    refine f_get X hH 0 rfl rfl 0 (by decide) inX9 fX9_7 rfl dX9_added_123 ?_
    refine lv_icmp_ge (tgt := 237) hx hb dX9_added_126 (by decide) (fun c4 => ?_) (fun c4 => ?_)
    · have h := it_x h c4
      refine lv_iload hx hb dX9_added_237 (lv_at hl 6 rfl) ?_
      have h := Option.some.inj h
      subst h
      exact e_i X hH dX9_added_239
    · have h := ie_x h c4
      refine lv_iload hx hb dX9_added_129 (lv_at hl 7 rfl) ?_
      refine lv_iconst (v := (1 : Int32)) hx hb dX9_added_131 (by decide) ?_
      refine lv_iadd hx hb dX9_added_132 ?_
      obtain ⟨v5, ev5, h⟩ := ltt_x h
      refine s_i X (lv' := [(10, .int v5), (0, .ref (a i)), (1, .int pa), (2, .int pb), (3, .int l3), (4, .long l4), (6, .long l6), (8, .int l8), (9, .int l9)]) hl ev5 dX9_added_133 (by decide) rfl (fun ls hl => ?_)
      exact pX9_added_135 X ih FU xs l3 l4 l6 l8 l9 v5 H locs ls h hH (lv_sub hl [1, 2, 3, 4, 5, 6, 7, 8, 0] rfl)
set_option maxHeartbeats 4000000 in
set_option maxRecDepth 100000 in
theorem uX9_added {l : Launch} {g : GG} {a : Nat → Nat} {i : Nat} {xs : SX9} {pa : Int32} {pb : Int32} {o : (Int32 × SX9)} (h : fX9_added xs pa pb = some o) : mC l g yX9_added cX9_added 11 (some .int) (rM 5 117) [.ref (a i), .int pa, .int pb] (wX9 g a i xs) (wX9 g a i o.2) (some (.int o.1)) := by
  refine mC.ofW (by decide) (fun p e s m below meth c X hH ls _ hl => ?_) (Nat.le_of_ble_eq_true rfl)
  have hx := X.1
  have hb := X.2.1
  have hl : lv_has ls 11 [(0, .ref (a i)), (1, .int pa), (2, .int pb)] := hl
  unfold fX9_added at h
  suffices HH : ∀ (H : Heap) (locs : List Loc), mH g s (wX9 g a i xs) (wX9 g a i xs) H locs → W p l e (rM 5 117) s m _ below meth c H locs 0 0 (mZ g below _ s (wX9 g a i xs) (wX9 g a i o.2) (some (.int o.1))) (F0 m 0 ls []) from HH _ _ hH
  clear hH
  intro H locs hH
  refine lv_aload_n hx hb dX9_added_0 rfl (lv_at hl 0 rfl) ?_
  refine lv_iload_n hx hb dX9_added_1 rfl (lv_at hl 1 rfl) ?_
  obtain ⟨o1, ho1, h⟩ := bd_x h
  refine r_V X hH (ws1 := (wX9 g a i xs)) (As := [.int pa]) (rest := []) (st1 := [.int o1]) (uX9_isPoint (a := a) (i := i) ho1) kX9_isPoint mX9_141 iX9_isPoint vX9_isPoint zX9 okX9_isPoint ⟨Nat.le_of_ble_eq_true rfl, Nat.le_of_ble_eq_true rfl⟩ rfl rfl (q0 := 0) rfl rfl (pm_all _) (pm_all _) rfl hl.1 rfl (Nat.le_of_ble_eq_true rfl) ⟨Nat.le_refl 0, Nat.le_refl 0⟩ rfl dX9_added_2 (fun H locs hH => ?_)
  refine lv_if_eq (tgt := 21) hx hb dX9_added_5 (by decide) (fun c1 => ?_) (fun c1 => ?_)
  · have h := it_x h c1
    exact pX9_added_21 X  xs H locs ls h hH (lv_sub hl [0, 1, 2] rfl)
  · have h := ie_x h c1
    refine lv_aload_n hx hb dX9_added_8 rfl (lv_at hl 0 rfl) ?_
    refine lv_iload_n hx hb dX9_added_9 rfl (lv_at hl 2 rfl) ?_
    obtain ⟨o3, ho3, h⟩ := bd_x h
    refine r_V X hH (ws1 := (wX9 g a i xs)) (As := [.int pb]) (rest := []) (st1 := [.int o3]) (uX9_isPoint (a := a) (i := i) ho3) kX9_isPoint mX9_141 iX9_isPoint vX9_isPoint zX9 okX9_isPoint ⟨Nat.le_of_ble_eq_true rfl, Nat.le_of_ble_eq_true rfl⟩ rfl rfl (q0 := 0) rfl rfl (pm_all _) (pm_all _) rfl hl.1 rfl (Nat.le_of_ble_eq_true rfl) ⟨Nat.le_refl 0, Nat.le_refl 0⟩ rfl dX9_added_10 (fun H locs hH => ?_)
    refine lv_if_eq (tgt := 21) hx hb dX9_added_13 (by decide) (fun c2 => ?_) (fun c2 => ?_)
    · have h := it_x h c2
      exact pX9_added_21 X  xs H locs ls h hH (lv_sub hl [0, 1, 2] rfl)
    · have h := ie_x h c2
      refine lv_iload_n hx hb dX9_added_16 rfl (lv_at hl 1 rfl) ?_
      refine lv_iload_n hx hb dX9_added_17 rfl (lv_at hl 2 rfl) ?_
      refine lv_icmp_ne (tgt := 27) hx hb dX9_added_18 (by decide) (fun c3 => ?_) (fun c3 => ?_)
      · have h := ie_x h c3
        refine lv_aload_n hx hb dX9_added_27 rfl (lv_at hl 0 rfl) ?_
        obtain ⟨o4, ho4, h⟩ := bd_x h
        refine r_V X hH (ws1 := (wX9 g a i o4)) (As := []) (rest := []) (st1 := []) (uX9_allThere (a := a) (i := i) ho4) kX9_allThere mX9_230 iX9_allThere vX9_allThere zX9 okX9_allThere ⟨Nat.le_of_ble_eq_true rfl, Nat.le_of_ble_eq_true rfl⟩ rfl rfl (q0 := 0) rfl rfl (pm_all _) (pm_all _) rfl hl.1 rfl (Nat.le_of_ble_eq_true rfl) ⟨Nat.le_refl 0, Nat.le_refl 0⟩ rfl dX9_added_28 (fun H locs hH => ?_)
        refine lv_aload_n hx hb dX9_added_31 rfl (lv_at hl 0 rfl) ?_
        refine lv_iload_n hx hb dX9_added_32 rfl (lv_at hl 1 rfl) ?_
        refine lv_iload_n hx hb dX9_added_33 rfl (lv_at hl 2 rfl) ?_
        refine lv_iconst (v := (0 : Int32)) hx hb dX9_added_34 (by decide) ?_
        obtain ⟨o5, ho5, h⟩ := bd_x h
        refine r_V X hH (ws1 := (wX9 g a i o5.2)) (As := [.int pa, .int pb, .int (0 : Int32)]) (rest := []) (st1 := [.int o5.1]) (uX9_findTime (a := a) (i := i) ho5) kX9_findTime mX9_275 iX9_findTime vX9_findTime zX9 okX9_findTime ⟨Nat.le_of_ble_eq_true rfl, Nat.le_of_ble_eq_true rfl⟩ rfl rfl (q0 := 0) rfl rfl (pm_all _) (pm_all _) rfl hl.1 rfl (Nat.le_of_ble_eq_true rfl) ⟨Nat.le_refl 0, Nat.le_refl 0⟩ rfl dX9_added_35 (fun H locs hH => ?_)
        refine s_in X (lv' := [(3, .int o5.1), (0, .ref (a i)), (1, .int pa), (2, .int pb)]) hl rfl dX9_added_38 rfl (by decide) rfl (fun ls hl => ?_)
        refine lv_aload_n hx hb dX9_added_39 rfl (lv_at hl 1 rfl) ?_
        refine f_get X hH 0 rfl rfl 26 (by decide) inX9 fX9_248 rfl dX9_added_40 ?_
        obtain ⟨v1, ev1, h⟩ := ltt_x h
        refine s_l X (lv' := [(4, .long v1), (3, .int o5.1), (0, .ref (a i)), (1, .int pa), (2, .int pb)]) hl ev1 dX9_added_43 (by decide) rfl (fun ls hl => ?_)
        refine lv_aload_n hx hb dX9_added_45 rfl (lv_at hl 2 rfl) ?_
        refine f_get X hH 0 rfl rfl 27 (by decide) inX9 fX9_252 rfl dX9_added_46 ?_
        obtain ⟨v2, ev2, h⟩ := ltt_x h
        refine s_l X (lv' := [(6, .long v2), (4, .long v1), (3, .int o5.1), (0, .ref (a i)), (1, .int pa), (2, .int pb)]) hl ev2 dX9_added_49 (by decide) rfl (fun ls hl => ?_)
        refine lv_bipush (v := (-9 : Int32)) hx hb dX9_added_51 (by decide) ?_
        refine s_i X (lv' := [(8, .int (-9 : Int32)), (6, .long v2), (4, .long v1), (3, .int o5.1), (0, .ref (a i)), (1, .int pa), (2, .int pb)]) hl rfl dX9_added_53 (by decide) rfl (fun ls hl => ?_)
        refine lv_aload_n hx hb dX9_added_55 rfl (lv_at hl 4 rfl) ?_
        refine lv_aload_n hx hb dX9_added_56 rfl (lv_at hl 4 rfl) ?_
        refine f_get X hH 0 rfl rfl 1 (by decide) inX9 fX9_120 rfl dX9_added_57 ?_
        refine lv_iconst (v := (1 : Int32)) hx hb dX9_added_60 (by decide) ?_
        refine lv_iadd hx hb dX9_added_61 ?_
        obtain ⟨v3, ev3, h⟩ := ltt_x h
        refine lv_topi (fun y0 e0 => ?_)
        rw [← ev3] at e0
        subst y0
        obtain ⟨xs1, exs1, h⟩ := ltt_x h
        refine f_put X hH (ws1 := (wX9 g a i xs1)) 0 rfl rfl 20 (by decide) inX9 tyX9 tyX9_ok nmX9 fX9_220 rfl rfl rfl (Nat.le_of_ble_eq_true rfl) (by rw [exs1]; rfl) dX9_added_62 (fun H locs hH => ?_)
        refine lv_aload_n hx hb dX9_added_65 rfl (lv_at hl 4 rfl) ?_
        refine lv_iconst (v := (1 : Int32)) hx hb dX9_added_66 (by decide) ?_
        refine lv_aload_n hx hb dX9_added_67 rfl (lv_at hl 4 rfl) ?_
        refine f_get X hH 0 rfl rfl 20 (by decide) inX9 fX9_220 rfl dX9_added_68 ?_
        refine lv_ishl hx hb dX9_added_71 ?_
        refine lv_iconst (v := (1 : Int32)) hx hb dX9_added_72 (by decide) ?_
        refine lv_isub hx hb dX9_added_73 ?_
        obtain ⟨v4, ev4, h⟩ := ltt_x h
        refine lv_topi (fun y0 e0 => ?_)
        rw [← ev4] at e0
        subst y0
        obtain ⟨xs2, exs2, h⟩ := ltt_x h
        refine f_put X hH (ws1 := (wX9 g a i xs2)) 0 rfl rfl 19 (by decide) inX9 tyX9 tyX9_ok nmX9 fX9_223 rfl rfl rfl (Nat.le_of_ble_eq_true rfl) (by rw [exs2]; rfl) dX9_added_74 (fun H locs hH => ?_)
        refine lv_aload_n hx hb dX9_added_77 rfl (lv_at hl 4 rfl) ?_
        refine f_get X hH 0 rfl rfl 4 (by decide) inX9 fX9_20 rfl dX9_added_78 ?_
        refine lv_aload_n hx hb dX9_added_81 rfl (lv_at hl 4 rfl) ?_
        refine f_get X hH 0 rfl rfl 1 (by decide) inX9 fX9_120 rfl dX9_added_82 ?_
        refine lv_iconst (v := (0 : Int32)) hx hb dX9_added_85 (by decide) ?_
        obtain ⟨j1, ej1, hinj1, h⟩ := ga_x h
        obtain ⟨xs3, exs3, h⟩ := ltt_x h
        refine a_is X hH (ws1 := (wX9 g a i xs3)) 3 rfl hinj1 ej1 (by rw [exs3]; rfl) dX9_added_86 (fun H locs hH => ?_)
        refine lv_aload_n hx hb dX9_added_87 rfl (lv_at hl 4 rfl) ?_
        refine f_get X hH 0 rfl rfl 5 (by decide) inX9 fX9_23 rfl dX9_added_88 ?_
        refine lv_aload_n hx hb dX9_added_91 rfl (lv_at hl 4 rfl) ?_
        refine f_get X hH 0 rfl rfl 1 (by decide) inX9 fX9_120 rfl dX9_added_92 ?_
        refine lv_iconst (v := (0 : Int32)) hx hb dX9_added_95 (by decide) ?_
        obtain ⟨j2, ej2, hinj2, h⟩ := ga_x h
        obtain ⟨xs4, exs4, h⟩ := ltt_x h
        refine a_is X hH (ws1 := (wX9 g a i xs4)) 4 rfl hinj2 ej2 (by rw [exs4]; rfl) dX9_added_96 (fun H locs hH => ?_)
        refine lv_aload_n hx hb dX9_added_97 rfl (lv_at hl 4 rfl) ?_
        refine f_get X hH 0 rfl rfl 6 (by decide) inX9 fX9_26 rfl dX9_added_98 ?_
        refine lv_aload_n hx hb dX9_added_101 rfl (lv_at hl 4 rfl) ?_
        refine f_get X hH 0 rfl rfl 1 (by decide) inX9 fX9_120 rfl dX9_added_102 ?_
        refine lv_iconst (v := (1 : Int32)) hx hb dX9_added_105 (by decide) ?_
        obtain ⟨j3, ej3, hinj3, h⟩ := ga_x h
        obtain ⟨xs5, exs5, h⟩ := ltt_x h
        refine a_is X hH (ws1 := (wX9 g a i xs5)) 5 rfl hinj3 ej3 (by rw [exs5]; rfl) dX9_added_106 (fun H locs hH => ?_)
        refine lv_aload_n hx hb dX9_added_107 rfl (lv_at hl 4 rfl) ?_
        refine f_get X hH 0 rfl rfl 7 (by decide) inX9 fX9_29 rfl dX9_added_108 ?_
        refine lv_aload_n hx hb dX9_added_111 rfl (lv_at hl 4 rfl) ?_
        refine f_get X hH 0 rfl rfl 1 (by decide) inX9 fX9_120 rfl dX9_added_112 ?_
        refine lv_iconst (v := (1 : Int32)) hx hb dX9_added_115 (by decide) ?_
        obtain ⟨j4, ej4, hinj4, h⟩ := ga_x h
        obtain ⟨xs6, exs6, h⟩ := ltt_x h
        refine a_is X hH (ws1 := (wX9 g a i xs6)) 6 rfl hinj4 ej4 (by rw [exs6]; rfl) dX9_added_116 (fun H locs hH => ?_)
        refine lv_iconst (v := (0 : Int32)) hx hb dX9_added_117 (by decide) ?_
        refine s_i X (lv' := [(9, .int (0 : Int32)), (8, .int (-9 : Int32)), (6, .long v2), (4, .long v1), (3, .int o5.1), (0, .ref (a i)), (1, .int pa), (2, .int pb)]) hl rfl dX9_added_118 (by decide) rfl (fun ls hl => ?_)
        exact pX9_added_120 X FU xs6 o5.1 v1 v2 (-9 : Int32) (0 : Int32) H locs ls h hH (lv_sub hl [5, 6, 7, 4, 3, 2, 1, 0] rfl)
      · have h := it_x h c3
        exact pX9_added_21 X  xs H locs ls h hH (lv_sub hl [0, 1, 2] rfl)

def qX9_missed_21 (pa : Int32) (pb : Int32)  (xs : SX9) : Option (Int32 × SX9) :=
  (fX9_no xs (-1 : Int32)).bind fun o2 =>
  some (o2.1, o2.2)
def qX9_missed_123 (pa : Int32) (pb : Int32) (k140 : SX9 → Int32 → Int32 → Int64 → Int64 → Int32 → Option (Int32 × SX9)) (xs : SX9) (l9 : Int32) (t0 : Int32) : Option (Int32 × SX9) :=
  ltt ((m_up xs)) fun v2 =>
  ltt ((m_down xs)) fun v3 =>
  k140 xs l9 t0 v2 v3 l9
def qX9_missed_113 (pa : Int32) (pb : Int32) (k140 : SX9 → Int32 → Int32 → Int64 → Int64 → Int32 → Option (Int32 × SX9)) (xs : SX9) (l9 : Int32) (l10 : Int32) : Option (Int32 × SX9) :=
  (if l10 = (0 : Int32) then
  qX9_missed_123 pa pb k140 xs l9 (1 : Int32)
  else
  qX9_missed_123 pa pb k140 xs l9 (0 : Int32))
def qX9_missed_140 (pa : Int32) (pb : Int32) (k42 : SX9 → Int32 → Int32 → Int64 → Int64 → Int32 → Option (Int32 × SX9)) (xs : SX9) (l3 : Int32) (l4 : Int32) (l5 : Int64) (l7 : Int64) (l9 : Int32) : Option (Int32 × SX9) :=
  ltt (l9 + (1 : Int32)) fun v4 =>
  k42 xs l3 l4 l5 l7 v4
def qX9_missed_42 (pa : Int32) (pb : Int32)  : Nat → SX9 → Int32 → Int32 → Int64 → Int64 → Int32 → Option (Int32 × SX9)
  | 0, _, _, _, _, _, _ => none
  | fu + 1, xs, l3, l4, l5, l7, l9 =>
  (if (m_many xs) ≤ l9 then
  some (l3, xs)
  else
  (if l4 = (0 : Int32) then
  (fX9_allThere xs).bind fun o4 =>
  ltt (((m_there o4) &&& (((1 : Int32) <<< (l9 &&& 31)) ^^^ (-1 : Int32)))) fun v1 =>
  ltt ((m_there_s o4 v1)) fun xs1 =>
  (fX9_findResistance xs1 pa pb).bind fun o5 =>
  (if o5.1 = (0 : Int32) then
  qX9_missed_113 pa pb (qX9_missed_140 pa pb (qX9_missed_42 pa pb  fu)) o5.2 l9 o5.1
  else
  (if l3 < (0 : Int32) then
  qX9_missed_113 pa pb (qX9_missed_140 pa pb (qX9_missed_42 pa pb  fu)) o5.2 l9 o5.1
  else
  (fX9_isLess l5 l7 (m_up o5.2) (m_down o5.2)).bind fun o6 =>
  (if o6 = (0 : Int32) then
  qX9_missed_140 pa pb (qX9_missed_42 pa pb  fu) o5.2 l3 l4 l5 l7 l9
  else
  qX9_missed_113 pa pb (qX9_missed_140 pa pb (qX9_missed_42 pa pb  fu)) o5.2 l9 o5.1)))
  else
  some (l3, xs)))
def fX9_missed (xs : SX9) (pa : Int32) (pb : Int32) : Option (Int32 × SX9) :=
  (fX9_isPoint xs pa).bind fun o1 =>
  (if o1 = (0 : Int32) then
  qX9_missed_21 pa pb xs
  else
  (fX9_isPoint xs pb).bind fun o3 =>
  (if o3 = (0 : Int32) then
  qX9_missed_21 pa pb xs
  else
  (if pa = pb then
  qX9_missed_21 pa pb xs
  else
  qX9_missed_42 pa pb FU xs (-9 : Int32) (0 : Int32) (0 : Int64) (1 : Int64) (0 : Int32))))
set_option maxHeartbeats 4000000 in
set_option maxRecDepth 100000 in
theorem pX9_missed_21 {p : Program} {l : Launch} {e : Env} {s : State} {m : MethodId} {args : Array Value} {below : List Frame} {meth : Method} {c : Code} {g : GG} {w0 : va_W} {a : Nat → Nat} {i : Nat} {pa : Int32} {pb : Int32} {o : (Int32 × SX9)} (X : mX g yX9_missed cX9_missed 11 (some .int) p s m args meth c w0) :
  ∀ (xs : SX9) (H : Heap) (locs : List Loc) (ls : Array Slot), qX9_missed_21 pa pb xs = some o → mH g s w0 (wX9 g a i xs) H locs → lv_has ls 11 [(0, .ref (a i)), (1, .int pa), (2, .int pb)] → W p l e (rM 6 136) s m args below meth c H locs 0 0 (mZ g below args s w0 (wX9 g a i o.2) (some (.int o.1))) (F0 m 21 ls []) := by
  have hx := X.1
  have hb := X.2.1
  intro xs H locs ls h hH hl
  unfold qX9_missed_21 at h
  refine lv_aload_n hx hb dX9_missed_21 rfl (lv_at hl 0 rfl) ?_
  refine lv_iconst (v := (-1 : Int32)) hx hb dX9_missed_22 (by decide) ?_
  obtain ⟨o2, ho2, h⟩ := bd_x h
  refine r_V X hH (ws1 := (wX9 g a i o2.2)) (As := [.int (-1 : Int32)]) (rest := []) (st1 := [.int o2.1]) (uX9_no (a := a) (i := i) ho2) kX9_no mX9_125 iX9_no vX9_no zX9 okX9_no ⟨Nat.le_of_ble_eq_true rfl, Nat.le_of_ble_eq_true rfl⟩ rfl rfl (q0 := 0) rfl rfl (pm_all _) (pm_all _) rfl hl.1 rfl (Nat.le_of_ble_eq_true rfl) ⟨Nat.le_refl 0, Nat.le_refl 0⟩ rfl dX9_missed_23 (fun H locs hH => ?_)
  have h := Option.some.inj h
  subst h
  exact e_i X hH dX9_missed_26
set_option maxHeartbeats 4000000 in
set_option maxRecDepth 100000 in
theorem pX9_missed_123 {p : Program} {l : Launch} {e : Env} {s : State} {m : MethodId} {args : Array Value} {below : List Frame} {meth : Method} {c : Code} {g : GG} {w0 : va_W} {a : Nat → Nat} {i : Nat} {pa : Int32} {pb : Int32} {o : (Int32 × SX9)} (X : mX g yX9_missed cX9_missed 11 (some .int) p s m args meth c w0)
  {k140 : SX9 → Int32 → Int32 → Int64 → Int64 → Int32 → Option (Int32 × SX9)} (K140 : ∀ (xs : SX9) (l3 : Int32) (l4 : Int32) (l5 : Int64) (l7 : Int64) (l9 : Int32) (H : Heap) (locs : List Loc) (ls : Array Slot), k140 xs l3 l4 l5 l7 l9 = some o → mH g s w0 (wX9 g a i xs) H locs → lv_has ls 11 [(0, .ref (a i)), (1, .int pa), (2, .int pb), (3, .int l3), (4, .int l4), (5, .long l5), (7, .long l7), (9, .int l9)] → W p l e (rM 6 136) s m args below meth c H locs 0 0 (mZ g below args s w0 (wX9 g a i o.2) (some (.int o.1))) (F0 m 140 ls [])) :
  ∀ (xs : SX9) (l9 : Int32) (t0 : Int32) (H : Heap) (locs : List Loc) (ls : Array Slot), qX9_missed_123 pa pb k140 xs l9 t0 = some o → mH g s w0 (wX9 g a i xs) H locs → lv_has ls 11 [(0, .ref (a i)), (1, .int pa), (2, .int pb), (9, .int l9)] → W p l e (rM 6 136) s m args below meth c H locs 0 0 (mZ g below args s w0 (wX9 g a i o.2) (some (.int o.1))) (F0 m 123 ls [.int t0]) := by
  have hx := X.1
  have hb := X.2.1
  intro xs l9 t0 H locs ls h hH hl
  unfold qX9_missed_123 at h
  refine s_i X (lv' := [(4, .int t0), (0, .ref (a i)), (1, .int pa), (2, .int pb), (9, .int l9)]) hl rfl dX9_missed_123 (by decide) rfl (fun ls hl => ?_)
  refine lv_iload hx hb dX9_missed_125 (lv_at hl 4 rfl) ?_
  refine s_in X (lv' := [(3, .int l9), (4, .int t0), (0, .ref (a i)), (1, .int pa), (2, .int pb), (9, .int l9)]) hl rfl dX9_missed_127 rfl (by decide) rfl (fun ls hl => ?_)
  refine lv_aload_n hx hb dX9_missed_128 rfl (lv_at hl 2 rfl) ?_
  refine f_get X hH 0 rfl rfl 26 (by decide) inX9 fX9_248 rfl dX9_missed_129 ?_
  obtain ⟨v2, ev2, h⟩ := ltt_x h
  refine s_l X (lv' := [(5, .long v2), (3, .int l9), (4, .int t0), (0, .ref (a i)), (1, .int pa), (2, .int pb), (9, .int l9)]) hl ev2 dX9_missed_132 (by decide) rfl (fun ls hl => ?_)
  refine lv_aload_n hx hb dX9_missed_134 rfl (lv_at hl 3 rfl) ?_
  refine f_get X hH 0 rfl rfl 27 (by decide) inX9 fX9_252 rfl dX9_missed_135 ?_
  obtain ⟨v3, ev3, h⟩ := ltt_x h
  refine s_l X (lv' := [(7, .long v3), (5, .long v2), (3, .int l9), (4, .int t0), (0, .ref (a i)), (1, .int pa), (2, .int pb), (9, .int l9)]) hl ev3 dX9_missed_138 (by decide) rfl (fun ls hl => ?_)
  exact K140 xs l9 t0 v2 v3 l9 H locs ls h hH (lv_sub hl [4, 5, 6, 2, 3, 1, 0, 7] rfl)
set_option maxHeartbeats 4000000 in
set_option maxRecDepth 100000 in
theorem pX9_missed_113 {p : Program} {l : Launch} {e : Env} {s : State} {m : MethodId} {args : Array Value} {below : List Frame} {meth : Method} {c : Code} {g : GG} {w0 : va_W} {a : Nat → Nat} {i : Nat} {pa : Int32} {pb : Int32} {o : (Int32 × SX9)} (X : mX g yX9_missed cX9_missed 11 (some .int) p s m args meth c w0)
  {k140 : SX9 → Int32 → Int32 → Int64 → Int64 → Int32 → Option (Int32 × SX9)} (K140 : ∀ (xs : SX9) (l3 : Int32) (l4 : Int32) (l5 : Int64) (l7 : Int64) (l9 : Int32) (H : Heap) (locs : List Loc) (ls : Array Slot), k140 xs l3 l4 l5 l7 l9 = some o → mH g s w0 (wX9 g a i xs) H locs → lv_has ls 11 [(0, .ref (a i)), (1, .int pa), (2, .int pb), (3, .int l3), (4, .int l4), (5, .long l5), (7, .long l7), (9, .int l9)] → W p l e (rM 6 136) s m args below meth c H locs 0 0 (mZ g below args s w0 (wX9 g a i o.2) (some (.int o.1))) (F0 m 140 ls [])) :
  ∀ (xs : SX9) (l9 : Int32) (l10 : Int32) (H : Heap) (locs : List Loc) (ls : Array Slot), qX9_missed_113 pa pb k140 xs l9 l10 = some o → mH g s w0 (wX9 g a i xs) H locs → lv_has ls 11 [(0, .ref (a i)), (1, .int pa), (2, .int pb), (9, .int l9), (10, .int l10)] → W p l e (rM 6 136) s m args below meth c H locs 0 0 (mZ g below args s w0 (wX9 g a i o.2) (some (.int o.1))) (F0 m 113 ls []) := by
  have hx := X.1
  have hb := X.2.1
  intro xs l9 l10 H locs ls h hH hl
  unfold qX9_missed_113 at h
  refine lv_iload hx hb dX9_missed_113 (lv_at hl 4 rfl) ?_
  refine lv_if_ne (tgt := 122) hx hb dX9_missed_115 (by decide) (fun c7 => ?_) (fun c7 => ?_)
  · have h := ie_x h c7
    refine lv_iconst (v := (0 : Int32)) hx hb dX9_missed_122 (by decide) ?_
    exact pX9_missed_123 X K140 xs l9 (0 : Int32) H locs ls h hH (lv_sub hl [0, 1, 2, 3] rfl)
  · have h := it_x h c7
    refine lv_iconst (v := (1 : Int32)) hx hb dX9_missed_118 (by decide) ?_
    refine lv_goto (tgt := 123) hx hb dX9_missed_119 (by decide) ?_
    exact pX9_missed_123 X K140 xs l9 (1 : Int32) H locs ls h hH (lv_sub hl [0, 1, 2, 3] rfl)
set_option maxHeartbeats 4000000 in
set_option maxRecDepth 100000 in
theorem pX9_missed_140 {p : Program} {l : Launch} {e : Env} {s : State} {m : MethodId} {args : Array Value} {below : List Frame} {meth : Method} {c : Code} {g : GG} {w0 : va_W} {a : Nat → Nat} {i : Nat} {pa : Int32} {pb : Int32} {o : (Int32 × SX9)} (X : mX g yX9_missed cX9_missed 11 (some .int) p s m args meth c w0)
  {k42 : SX9 → Int32 → Int32 → Int64 → Int64 → Int32 → Option (Int32 × SX9)} (K42 : ∀ (xs : SX9) (l3 : Int32) (l4 : Int32) (l5 : Int64) (l7 : Int64) (l9 : Int32) (H : Heap) (locs : List Loc) (ls : Array Slot), k42 xs l3 l4 l5 l7 l9 = some o → mH g s w0 (wX9 g a i xs) H locs → lv_has ls 11 [(0, .ref (a i)), (1, .int pa), (2, .int pb), (3, .int l3), (4, .int l4), (5, .long l5), (7, .long l7), (9, .int l9)] → W p l e (rM 6 136) s m args below meth c H locs 0 0 (mZ g below args s w0 (wX9 g a i o.2) (some (.int o.1))) (F0 m 42 ls [])) :
  ∀ (xs : SX9) (l3 : Int32) (l4 : Int32) (l5 : Int64) (l7 : Int64) (l9 : Int32) (H : Heap) (locs : List Loc) (ls : Array Slot), qX9_missed_140 pa pb k42 xs l3 l4 l5 l7 l9 = some o → mH g s w0 (wX9 g a i xs) H locs → lv_has ls 11 [(0, .ref (a i)), (1, .int pa), (2, .int pb), (3, .int l3), (4, .int l4), (5, .long l5), (7, .long l7), (9, .int l9)] → W p l e (rM 6 136) s m args below meth c H locs 0 0 (mZ g below args s w0 (wX9 g a i o.2) (some (.int o.1))) (F0 m 140 ls []) := by
  have hx := X.1
  have hb := X.2.1
  intro xs l3 l4 l5 l7 l9 H locs ls h hH hl
  unfold qX9_missed_140 at h
  obtain ⟨v4, ev4, h⟩ := ltt_x h
  refine s_inc X (k := 7) (lv' := [(9, .int v4), (0, .ref (a i)), (1, .int pa), (2, .int pb), (3, .int l3), (4, .int l4), (5, .long l5), (7, .long l7)]) hl rfl (by rw [ev4]; rfl) dX9_missed_140 (by decide) rfl (fun ls hl => ?_)
  refine lv_goto (tgt := 42) hx hb dX9_missed_143 (by decide) ?_
  exact K42 xs l3 l4 l5 l7 v4 H locs ls h hH (lv_sub hl [1, 2, 3, 4, 5, 6, 7, 0] rfl)
set_option maxHeartbeats 4000000 in
set_option maxRecDepth 100000 in
theorem pX9_missed_42 {p : Program} {l : Launch} {e : Env} {s : State} {m : MethodId} {args : Array Value} {below : List Frame} {meth : Method} {c : Code} {g : GG} {w0 : va_W} {a : Nat → Nat} {i : Nat} {pa : Int32} {pb : Int32} {o : (Int32 × SX9)} (X : mX g yX9_missed cX9_missed 11 (some .int) p s m args meth c w0) :
  ∀ (fu : Nat) (xs : SX9) (l3 : Int32) (l4 : Int32) (l5 : Int64) (l7 : Int64) (l9 : Int32) (H : Heap) (locs : List Loc) (ls : Array Slot), qX9_missed_42 pa pb fu xs l3 l4 l5 l7 l9 = some o → mH g s w0 (wX9 g a i xs) H locs → lv_has ls 11 [(0, .ref (a i)), (1, .int pa), (2, .int pb), (3, .int l3), (4, .int l4), (5, .long l5), (7, .long l7), (9, .int l9)] → W p l e (rM 6 136) s m args below meth c H locs 0 0 (mZ g below args s w0 (wX9 g a i o.2) (some (.int o.1))) (F0 m 42 ls []) := by
  have hx := X.1
  have hb := X.2.1
  intro fu
  induction fu with
  | zero =>
    intro xs l3 l4 l5 l7 l9 H locs ls h
    unfold qX9_missed_42 at h
    cases h
  | succ fu ih =>
    intro xs l3 l4 l5 l7 l9 H locs ls h hH hl
    unfold qX9_missed_42 at h
    refine lv_iload hx hb dX9_missed_42 (lv_at hl 7 rfl) ?_
    refine lv_aload_n hx hb dX9_missed_44 rfl (lv_at hl 0 rfl) ?_
    refine f_get X hH 0 rfl rfl 1 (by decide) inX9 fX9_120 rfl dX9_missed_45 ?_
    refine lv_icmp_ge (tgt := 146) hx hb dX9_missed_48 (by decide) (fun c4 => ?_) (fun c4 => ?_)
    · have h := it_x h c4
      refine lv_iload_n hx hb dX9_missed_146 rfl (lv_at hl 3 rfl) ?_
      have h := Option.some.inj h
      subst h
      exact e_i X hH dX9_missed_147
    · have h := ie_x h c4
      refine lv_iload hx hb dX9_missed_51 (lv_at hl 4 rfl) ?_
      refine lv_if_ne (tgt := 146) hx hb dX9_missed_53 (by decide) (fun c5 => ?_) (fun c5 => ?_)
      · have h := ie_x h c5
        refine lv_iload_n hx hb dX9_missed_146 rfl (lv_at hl 3 rfl) ?_
        have h := Option.some.inj h
        subst h
        exact e_i X hH dX9_missed_147
      · have h := it_x h c5
        refine lv_aload_n hx hb dX9_missed_56 rfl (lv_at hl 0 rfl) ?_
        obtain ⟨o4, ho4, h⟩ := bd_x h
        refine r_V X hH (ws1 := (wX9 g a i o4)) (As := []) (rest := []) (st1 := []) (uX9_allThere (a := a) (i := i) ho4) kX9_allThere mX9_230 iX9_allThere vX9_allThere zX9 okX9_allThere ⟨Nat.le_of_ble_eq_true rfl, Nat.le_of_ble_eq_true rfl⟩ rfl rfl (q0 := 0) rfl rfl (pm_all _) (pm_all _) rfl hl.1 rfl (Nat.le_of_ble_eq_true rfl) ⟨Nat.le_refl 0, Nat.le_refl 0⟩ rfl dX9_missed_57 (fun H locs hH => ?_)
        refine lv_aload_n hx hb dX9_missed_60 rfl (lv_at hl 0 rfl) ?_
        refine lv_dup hx hb dX9_missed_61 rfl ?_
        refine f_get X hH 0 rfl rfl 19 (by decide) inX9 fX9_223 rfl dX9_missed_62 ?_
        refine lv_iconst (v := (1 : Int32)) hx hb dX9_missed_65 (by decide) ?_
        refine lv_iload hx hb dX9_missed_66 (lv_at hl 7 rfl) ?_
        refine lv_ishl hx hb dX9_missed_68 ?_
        refine lv_iconst (v := (-1 : Int32)) hx hb dX9_missed_69 (by decide) ?_
        refine lv_ixor hx hb dX9_missed_70 ?_
        refine lv_iand hx hb dX9_missed_71 ?_
        obtain ⟨v1, ev1, h⟩ := ltt_x h
        refine lv_topi (fun y0 e0 => ?_)
        rw [← ev1] at e0
        subst y0
        obtain ⟨xs1, exs1, h⟩ := ltt_x h
        refine f_put X hH (ws1 := (wX9 g a i xs1)) 0 rfl rfl 19 (by decide) inX9 tyX9 tyX9_ok nmX9 fX9_223 rfl rfl rfl (Nat.le_of_ble_eq_true rfl) (by rw [exs1]; rfl) dX9_missed_72 (fun H locs hH => ?_)
        refine lv_aload_n hx hb dX9_missed_75 rfl (lv_at hl 0 rfl) ?_
        refine lv_iload_n hx hb dX9_missed_76 rfl (lv_at hl 1 rfl) ?_
        refine lv_iload_n hx hb dX9_missed_77 rfl (lv_at hl 2 rfl) ?_
        obtain ⟨o5, ho5, h⟩ := bd_x h
        refine r_V X hH (ws1 := (wX9 g a i o5.2)) (As := [.int pa, .int pb]) (rest := []) (st1 := [.int o5.1]) (uX9_findResistance (a := a) (i := i) ho5) kX9_findResistance mX9_303 iX9_findResistance vX9_findResistance zX9 okX9_findResistance ⟨Nat.le_of_ble_eq_true rfl, Nat.le_of_ble_eq_true rfl⟩ rfl rfl (q0 := 0) rfl rfl (pm_all _) (pm_all _) rfl hl.1 rfl (Nat.le_of_ble_eq_true rfl) ⟨Nat.le_refl 0, Nat.le_refl 0⟩ rfl dX9_missed_78 (fun H locs hH => ?_)
        refine s_i X (lv' := [(10, .int o5.1), (0, .ref (a i)), (1, .int pa), (2, .int pb), (3, .int l3), (4, .int l4), (5, .long l5), (7, .long l7), (9, .int l9)]) hl rfl dX9_missed_81 (by decide) rfl (fun ls hl => ?_)
        refine lv_iload hx hb dX9_missed_83 (lv_at hl 0 rfl) ?_
        refine lv_if_eq (tgt := 113) hx hb dX9_missed_85 (by decide) (fun c6 => ?_) (fun c6 => ?_)
        · have h := it_x h c6
          exact pX9_missed_113 X (pX9_missed_140 X ih) o5.2 l9 o5.1 H locs ls h hH (lv_sub hl [1, 2, 3, 8, 0] rfl)
        · have h := ie_x h c6
          refine lv_iload_n hx hb dX9_missed_88 rfl (lv_at hl 4 rfl) ?_
          refine lv_if_lt (tgt := 113) hx hb dX9_missed_89 (by decide) (fun c8 => ?_) (fun c8 => ?_)
          · have h := it_x h c8
            exact pX9_missed_113 X (pX9_missed_140 X ih) o5.2 l9 o5.1 H locs ls h hH (lv_sub hl [1, 2, 3, 8, 0] rfl)
          · have h := ie_x h c8
            refine lv_lload hx hb dX9_missed_92 (lv_at hl 6 rfl) ?_
            refine lv_lload hx hb dX9_missed_94 (lv_at hl 7 rfl) ?_
            refine lv_aload_n hx hb dX9_missed_96 rfl (lv_at hl 1 rfl) ?_
            refine f_get X hH 0 rfl rfl 26 (by decide) inX9 fX9_248 rfl dX9_missed_97 ?_
            refine lv_aload_n hx hb dX9_missed_100 rfl (lv_at hl 1 rfl) ?_
            refine f_get X hH 0 rfl rfl 27 (by decide) inX9 fX9_252 rfl dX9_missed_101 ?_
            obtain ⟨o6, ho6, h⟩ := bd_x h
            refine r_S X hH (ws1 := (wX9 g a i o5.2)) (As := [.long l5, .long l7, .long (m_up o5.2), .long (m_down o5.2)]) (rest := []) (st1 := [.int o6]) (uX9_isLess  ho6) kX9_isLess mX9_306 sX9_isLess zX9 okX9_isLess ⟨Nat.le_of_ble_eq_true rfl, Nat.le_of_ble_eq_true rfl⟩ rfl rfl (pm_none _) (pm_none _) rfl hl.1 rfl (Nat.le_of_ble_eq_true rfl) ⟨Nat.le_refl 0, Nat.le_refl 0⟩ rfl dX9_missed_104 (fun H locs hH => ?_)
            refine lv_if_ne (tgt := 113) hx hb dX9_missed_107 (by decide) (fun c9 => ?_) (fun c9 => ?_)
            · have h := ie_x h c9
              exact pX9_missed_113 X (pX9_missed_140 X ih) o5.2 l9 o5.1 H locs ls h hH (lv_sub hl [1, 2, 3, 8, 0] rfl)
            · have h := it_x h c9
              refine lv_goto (tgt := 140) hx hb dX9_missed_110 (by decide) ?_
              exact pX9_missed_140 X ih o5.2 l3 l4 l5 l7 l9 H locs ls h hH (lv_sub hl [1, 2, 3, 4, 5, 6, 7, 8] rfl)
set_option maxHeartbeats 4000000 in
set_option maxRecDepth 100000 in
theorem uX9_missed {l : Launch} {g : GG} {a : Nat → Nat} {i : Nat} {xs : SX9} {pa : Int32} {pb : Int32} {o : (Int32 × SX9)} (h : fX9_missed xs pa pb = some o) : mC l g yX9_missed cX9_missed 11 (some .int) (rM 6 136) [.ref (a i), .int pa, .int pb] (wX9 g a i xs) (wX9 g a i o.2) (some (.int o.1)) := by
  refine mC.ofW (by decide) (fun p e s m below meth c X hH ls _ hl => ?_) (Nat.le_of_ble_eq_true rfl)
  have hx := X.1
  have hb := X.2.1
  have hl : lv_has ls 11 [(0, .ref (a i)), (1, .int pa), (2, .int pb)] := hl
  unfold fX9_missed at h
  suffices HH : ∀ (H : Heap) (locs : List Loc), mH g s (wX9 g a i xs) (wX9 g a i xs) H locs → W p l e (rM 6 136) s m _ below meth c H locs 0 0 (mZ g below _ s (wX9 g a i xs) (wX9 g a i o.2) (some (.int o.1))) (F0 m 0 ls []) from HH _ _ hH
  clear hH
  intro H locs hH
  refine lv_aload_n hx hb dX9_missed_0 rfl (lv_at hl 0 rfl) ?_
  refine lv_iload_n hx hb dX9_missed_1 rfl (lv_at hl 1 rfl) ?_
  obtain ⟨o1, ho1, h⟩ := bd_x h
  refine r_V X hH (ws1 := (wX9 g a i xs)) (As := [.int pa]) (rest := []) (st1 := [.int o1]) (uX9_isPoint (a := a) (i := i) ho1) kX9_isPoint mX9_141 iX9_isPoint vX9_isPoint zX9 okX9_isPoint ⟨Nat.le_of_ble_eq_true rfl, Nat.le_of_ble_eq_true rfl⟩ rfl rfl (q0 := 0) rfl rfl (pm_all _) (pm_all _) rfl hl.1 rfl (Nat.le_of_ble_eq_true rfl) ⟨Nat.le_refl 0, Nat.le_refl 0⟩ rfl dX9_missed_2 (fun H locs hH => ?_)
  refine lv_if_eq (tgt := 21) hx hb dX9_missed_5 (by decide) (fun c1 => ?_) (fun c1 => ?_)
  · have h := it_x h c1
    exact pX9_missed_21 X  xs H locs ls h hH (lv_sub hl [0, 1, 2] rfl)
  · have h := ie_x h c1
    refine lv_aload_n hx hb dX9_missed_8 rfl (lv_at hl 0 rfl) ?_
    refine lv_iload_n hx hb dX9_missed_9 rfl (lv_at hl 2 rfl) ?_
    obtain ⟨o3, ho3, h⟩ := bd_x h
    refine r_V X hH (ws1 := (wX9 g a i xs)) (As := [.int pb]) (rest := []) (st1 := [.int o3]) (uX9_isPoint (a := a) (i := i) ho3) kX9_isPoint mX9_141 iX9_isPoint vX9_isPoint zX9 okX9_isPoint ⟨Nat.le_of_ble_eq_true rfl, Nat.le_of_ble_eq_true rfl⟩ rfl rfl (q0 := 0) rfl rfl (pm_all _) (pm_all _) rfl hl.1 rfl (Nat.le_of_ble_eq_true rfl) ⟨Nat.le_refl 0, Nat.le_refl 0⟩ rfl dX9_missed_10 (fun H locs hH => ?_)
    refine lv_if_eq (tgt := 21) hx hb dX9_missed_13 (by decide) (fun c2 => ?_) (fun c2 => ?_)
    · have h := it_x h c2
      exact pX9_missed_21 X  xs H locs ls h hH (lv_sub hl [0, 1, 2] rfl)
    · have h := ie_x h c2
      refine lv_iload_n hx hb dX9_missed_16 rfl (lv_at hl 1 rfl) ?_
      refine lv_iload_n hx hb dX9_missed_17 rfl (lv_at hl 2 rfl) ?_
      refine lv_icmp_ne (tgt := 27) hx hb dX9_missed_18 (by decide) (fun c3 => ?_) (fun c3 => ?_)
      · have h := ie_x h c3
        refine lv_bipush (v := (-9 : Int32)) hx hb dX9_missed_27 (by decide) ?_
        refine s_in X (lv' := [(3, .int (-9 : Int32)), (0, .ref (a i)), (1, .int pa), (2, .int pb)]) hl rfl dX9_missed_29 rfl (by decide) rfl (fun ls hl => ?_)
        refine lv_iconst (v := (0 : Int32)) hx hb dX9_missed_30 (by decide) ?_
        refine s_i X (lv' := [(4, .int (0 : Int32)), (3, .int (-9 : Int32)), (0, .ref (a i)), (1, .int pa), (2, .int pb)]) hl rfl dX9_missed_31 (by decide) rfl (fun ls hl => ?_)
        refine lv_lconst (v := (0 : Int64)) hx hb dX9_missed_33 (by decide) ?_
        refine s_l X (lv' := [(5, .long (0 : Int64)), (4, .int (0 : Int32)), (3, .int (-9 : Int32)), (0, .ref (a i)), (1, .int pa), (2, .int pb)]) hl rfl dX9_missed_34 (by decide) rfl (fun ls hl => ?_)
        refine lv_lconst (v := (1 : Int64)) hx hb dX9_missed_36 (by decide) ?_
        refine s_l X (lv' := [(7, .long (1 : Int64)), (5, .long (0 : Int64)), (4, .int (0 : Int32)), (3, .int (-9 : Int32)), (0, .ref (a i)), (1, .int pa), (2, .int pb)]) hl rfl dX9_missed_37 (by decide) rfl (fun ls hl => ?_)
        refine lv_iconst (v := (0 : Int32)) hx hb dX9_missed_39 (by decide) ?_
        refine s_i X (lv' := [(9, .int (0 : Int32)), (7, .long (1 : Int64)), (5, .long (0 : Int64)), (4, .int (0 : Int32)), (3, .int (-9 : Int32)), (0, .ref (a i)), (1, .int pa), (2, .int pb)]) hl rfl dX9_missed_40 (by decide) rfl (fun ls hl => ?_)
        exact pX9_missed_42 X FU xs (-9 : Int32) (0 : Int32) (0 : Int64) (1 : Int64) (0 : Int32) H locs ls h hH (lv_sub hl [5, 6, 7, 4, 3, 2, 1, 0] rfl)
      · have h := it_x h c3
        exact pX9_missed_21 X  xs H locs ls h hH (lv_sub hl [0, 1, 2] rfl)

def qX9_bridges_21 (pa : Int32) (pb : Int32)  (xs : SX9) : Option (Int32 × SX9) :=
  (fX9_no xs (-1 : Int32)).bind fun o2 =>
  some (o2.1, o2.2)
def qX9_bridges_104 (pa : Int32) (pb : Int32) (k55 : SX9 → Int32 → Int32 → Option (Int32 × SX9)) (xs : SX9) (l4 : Int32) (t0 : Int32) (t1 : Int32) : Option (Int32 × SX9) :=
  ltt ((t0 ||| t1)) fun v2 =>
  ltt (l4 + (1 : Int32)) fun v3 =>
  k55 xs v2 v3
def qX9_bridges_55 (pa : Int32) (pb : Int32)  : Nat → SX9 → Int32 → Int32 → Option (Int32 × SX9)
  | 0, _, _, _ => none
  | fu + 1, xs, l3, l4 =>
  (if (m_many xs) ≤ l4 then
  some (l3, xs)
  else
  ltt (((((1 : Int32) <<< ((m_many xs) &&& 31)) - (1 : Int32)) &&& (((1 : Int32) <<< (l4 &&& 31)) ^^^ (-1 : Int32)))) fun v1 =>
  ltt ((m_there_s xs v1)) fun xs1 =>
  (fX9_reach xs1 pa).bind fun o7 =>
  (fX9_has o7 pb).bind fun o8 =>
  (if o8 = (0 : Int32) then
  qX9_bridges_104 pa pb (qX9_bridges_55 pa pb  fu) xs1 l4 l3 ((1 : Int32) <<< (l4 &&& 31))
  else
  qX9_bridges_104 pa pb (qX9_bridges_55 pa pb  fu) xs1 l4 l3 (0 : Int32)))
def fX9_bridges (xs : SX9) (pa : Int32) (pb : Int32) : Option (Int32 × SX9) :=
  (fX9_isPoint xs pa).bind fun o1 =>
  (if o1 = (0 : Int32) then
  qX9_bridges_21 pa pb xs
  else
  (fX9_isPoint xs pb).bind fun o3 =>
  (if o3 = (0 : Int32) then
  qX9_bridges_21 pa pb xs
  else
  (if pa = pb then
  qX9_bridges_21 pa pb xs
  else
  (fX9_allThere xs).bind fun o4 =>
  (fX9_reach o4 pa).bind fun o5 =>
  (fX9_has o5 pb).bind fun o6 =>
  (if o6 = (0 : Int32) then
  (fX9_no o4 (-3 : Int32)).bind fun o9 =>
  some (o9.1, o9.2)
  else
  qX9_bridges_55 pa pb FU o4 (0 : Int32) (0 : Int32)))))
set_option maxHeartbeats 4000000 in
set_option maxRecDepth 100000 in
theorem pX9_bridges_21 {p : Program} {l : Launch} {e : Env} {s : State} {m : MethodId} {args : Array Value} {below : List Frame} {meth : Method} {c : Code} {g : GG} {w0 : va_W} {a : Nat → Nat} {i : Nat} {pa : Int32} {pb : Int32} {o : (Int32 × SX9)} (X : mX g yX9_bridges cX9_bridges 5 (some .int) p s m args meth c w0) :
  ∀ (xs : SX9) (H : Heap) (locs : List Loc) (ls : Array Slot), qX9_bridges_21 pa pb xs = some o → mH g s w0 (wX9 g a i xs) H locs → lv_has ls 5 [(0, .ref (a i)), (1, .int pa), (2, .int pb)] → W p l e (rM 2 46) s m args below meth c H locs 0 0 (mZ g below args s w0 (wX9 g a i o.2) (some (.int o.1))) (F0 m 21 ls []) := by
  have hx := X.1
  have hb := X.2.1
  intro xs H locs ls h hH hl
  unfold qX9_bridges_21 at h
  refine lv_aload_n hx hb dX9_bridges_21 rfl (lv_at hl 0 rfl) ?_
  refine lv_iconst (v := (-1 : Int32)) hx hb dX9_bridges_22 (by decide) ?_
  obtain ⟨o2, ho2, h⟩ := bd_x h
  refine r_V X hH (ws1 := (wX9 g a i o2.2)) (As := [.int (-1 : Int32)]) (rest := []) (st1 := [.int o2.1]) (uX9_no (a := a) (i := i) ho2) kX9_no mX9_125 iX9_no vX9_no zX9 okX9_no ⟨Nat.le_of_ble_eq_true rfl, Nat.le_of_ble_eq_true rfl⟩ rfl rfl (q0 := 0) rfl rfl (pm_all _) (pm_all _) rfl hl.1 rfl (Nat.le_of_ble_eq_true rfl) ⟨Nat.le_refl 0, Nat.le_refl 0⟩ rfl dX9_bridges_23 (fun H locs hH => ?_)
  have h := Option.some.inj h
  subst h
  exact e_i X hH dX9_bridges_26
set_option maxHeartbeats 4000000 in
set_option maxRecDepth 100000 in
theorem pX9_bridges_104 {p : Program} {l : Launch} {e : Env} {s : State} {m : MethodId} {args : Array Value} {below : List Frame} {meth : Method} {c : Code} {g : GG} {w0 : va_W} {a : Nat → Nat} {i : Nat} {pa : Int32} {pb : Int32} {o : (Int32 × SX9)} (X : mX g yX9_bridges cX9_bridges 5 (some .int) p s m args meth c w0)
  {k55 : SX9 → Int32 → Int32 → Option (Int32 × SX9)} (K55 : ∀ (xs : SX9) (l3 : Int32) (l4 : Int32) (H : Heap) (locs : List Loc) (ls : Array Slot), k55 xs l3 l4 = some o → mH g s w0 (wX9 g a i xs) H locs → lv_has ls 5 [(0, .ref (a i)), (1, .int pa), (2, .int pb), (3, .int l3), (4, .int l4)] → W p l e (rM 2 46) s m args below meth c H locs 0 0 (mZ g below args s w0 (wX9 g a i o.2) (some (.int o.1))) (F0 m 55 ls [])) :
  ∀ (xs : SX9) (l4 : Int32) (t0 : Int32) (t1 : Int32) (H : Heap) (locs : List Loc) (ls : Array Slot), qX9_bridges_104 pa pb k55 xs l4 t0 t1 = some o → mH g s w0 (wX9 g a i xs) H locs → lv_has ls 5 [(0, .ref (a i)), (1, .int pa), (2, .int pb), (4, .int l4)] → W p l e (rM 2 46) s m args below meth c H locs 0 0 (mZ g below args s w0 (wX9 g a i o.2) (some (.int o.1))) (F0 m 104 ls [.int t1, .int t0]) := by
  have hx := X.1
  have hb := X.2.1
  intro xs l4 t0 t1 H locs ls h hH hl
  unfold qX9_bridges_104 at h
  refine lv_ior hx hb dX9_bridges_104 ?_
  obtain ⟨v2, ev2, h⟩ := ltt_x h
  refine s_in X (lv' := [(3, .int v2), (0, .ref (a i)), (1, .int pa), (2, .int pb), (4, .int l4)]) hl ev2 dX9_bridges_105 rfl (by decide) rfl (fun ls hl => ?_)
  obtain ⟨v3, ev3, h⟩ := ltt_x h
  refine s_inc X (k := 4) (lv' := [(4, .int v3), (3, .int v2), (0, .ref (a i)), (1, .int pa), (2, .int pb)]) hl rfl (by rw [ev3]; rfl) dX9_bridges_106 (by decide) rfl (fun ls hl => ?_)
  refine lv_goto (tgt := 55) hx hb dX9_bridges_109 (by decide) ?_
  exact K55 xs v2 v3 H locs ls h hH (lv_sub hl [2, 3, 4, 1, 0] rfl)
set_option maxHeartbeats 4000000 in
set_option maxRecDepth 100000 in
theorem pX9_bridges_55 {p : Program} {l : Launch} {e : Env} {s : State} {m : MethodId} {args : Array Value} {below : List Frame} {meth : Method} {c : Code} {g : GG} {w0 : va_W} {a : Nat → Nat} {i : Nat} {pa : Int32} {pb : Int32} {o : (Int32 × SX9)} (X : mX g yX9_bridges cX9_bridges 5 (some .int) p s m args meth c w0) :
  ∀ (fu : Nat) (xs : SX9) (l3 : Int32) (l4 : Int32) (H : Heap) (locs : List Loc) (ls : Array Slot), qX9_bridges_55 pa pb fu xs l3 l4 = some o → mH g s w0 (wX9 g a i xs) H locs → lv_has ls 5 [(0, .ref (a i)), (1, .int pa), (2, .int pb), (3, .int l3), (4, .int l4)] → W p l e (rM 2 46) s m args below meth c H locs 0 0 (mZ g below args s w0 (wX9 g a i o.2) (some (.int o.1))) (F0 m 55 ls []) := by
  have hx := X.1
  have hb := X.2.1
  intro fu
  induction fu with
  | zero =>
    intro xs l3 l4 H locs ls h
    unfold qX9_bridges_55 at h
    cases h
  | succ fu ih =>
    intro xs l3 l4 H locs ls h hH hl
    unfold qX9_bridges_55 at h
    refine lv_iload hx hb dX9_bridges_55 (lv_at hl 4 rfl) ?_
    refine lv_aload_n hx hb dX9_bridges_57 rfl (lv_at hl 0 rfl) ?_
    refine f_get X hH 0 rfl rfl 1 (by decide) inX9 fX9_120 rfl dX9_bridges_58 ?_
    refine lv_icmp_ge (tgt := 112) hx hb dX9_bridges_61 (by decide) (fun c5 => ?_) (fun c5 => ?_)
    · have h := it_x h c5
      refine lv_iload_n hx hb dX9_bridges_112 rfl (lv_at hl 3 rfl) ?_
      have h := Option.some.inj h
      subst h
      exact e_i X hH dX9_bridges_113
    · have h := ie_x h c5
      refine lv_aload_n hx hb dX9_bridges_64 rfl (lv_at hl 0 rfl) ?_
      refine lv_iconst (v := (1 : Int32)) hx hb dX9_bridges_65 (by decide) ?_
      refine lv_aload_n hx hb dX9_bridges_66 rfl (lv_at hl 0 rfl) ?_
      refine f_get X hH 0 rfl rfl 1 (by decide) inX9 fX9_120 rfl dX9_bridges_67 ?_
      refine lv_ishl hx hb dX9_bridges_70 ?_
      refine lv_iconst (v := (1 : Int32)) hx hb dX9_bridges_71 (by decide) ?_
      refine lv_isub hx hb dX9_bridges_72 ?_
      refine lv_iconst (v := (1 : Int32)) hx hb dX9_bridges_73 (by decide) ?_
      refine lv_iload hx hb dX9_bridges_74 (lv_at hl 4 rfl) ?_
      refine lv_ishl hx hb dX9_bridges_76 ?_
      refine lv_iconst (v := (-1 : Int32)) hx hb dX9_bridges_77 (by decide) ?_
      refine lv_ixor hx hb dX9_bridges_78 ?_
      refine lv_iand hx hb dX9_bridges_79 ?_
      obtain ⟨v1, ev1, h⟩ := ltt_x h
      refine lv_topi (fun y0 e0 => ?_)
      rw [← ev1] at e0
      subst y0
      obtain ⟨xs1, exs1, h⟩ := ltt_x h
      refine f_put X hH (ws1 := (wX9 g a i xs1)) 0 rfl rfl 19 (by decide) inX9 tyX9 tyX9_ok nmX9 fX9_223 rfl rfl rfl (Nat.le_of_ble_eq_true rfl) (by rw [exs1]; rfl) dX9_bridges_80 (fun H locs hH => ?_)
      refine lv_iload_n hx hb dX9_bridges_83 rfl (lv_at hl 3 rfl) ?_
      refine lv_aload_n hx hb dX9_bridges_84 rfl (lv_at hl 0 rfl) ?_
      refine lv_iload_n hx hb dX9_bridges_85 rfl (lv_at hl 1 rfl) ?_
      obtain ⟨o7, ho7, h⟩ := bd_x h
      refine r_V X hH (ws1 := (wX9 g a i xs1)) (As := [.int pa]) (rest := [.int l3]) (st1 := [.int o7, .int l3]) (uX9_reach (a := a) (i := i) ho7) kX9_reach mX9_233 iX9_reach vX9_reach zX9 okX9_reach ⟨Nat.le_of_ble_eq_true rfl, Nat.le_of_ble_eq_true rfl⟩ rfl rfl (q0 := 0) rfl rfl (pm_all _) (pm_all _) rfl hl.1 rfl (Nat.le_of_ble_eq_true rfl) ⟨Nat.le_refl 0, Nat.le_refl 0⟩ rfl dX9_bridges_86 (fun H locs hH => ?_)
      refine lv_iload_n hx hb dX9_bridges_89 rfl (lv_at hl 2 rfl) ?_
      obtain ⟨o8, ho8, h⟩ := bd_x h
      refine r_S X hH (ws1 := (wX9 g a i xs1)) (As := [.int o7, .int pb]) (rest := [.int l3]) (st1 := [.int o8, .int l3]) (uX9_has  ho8) kX9_has mX9_226 sX9_has zX9 okX9_has ⟨Nat.le_of_ble_eq_true rfl, Nat.le_of_ble_eq_true rfl⟩ rfl rfl (pm_none _) (pm_none _) rfl hl.1 rfl (Nat.le_of_ble_eq_true rfl) ⟨Nat.le_refl 0, Nat.le_refl 0⟩ rfl dX9_bridges_90 (fun H locs hH => ?_)
      refine lv_if_eq (tgt := 100) hx hb dX9_bridges_93 (by decide) (fun c6 => ?_) (fun c6 => ?_)
      · have h := it_x h c6
        refine lv_iconst (v := (1 : Int32)) hx hb dX9_bridges_100 (by decide) ?_
        refine lv_iload hx hb dX9_bridges_101 (lv_at hl 4 rfl) ?_
        refine lv_ishl hx hb dX9_bridges_103 ?_
        exact pX9_bridges_104 X ih xs1 l4 l3 ((1 : Int32) <<< (l4 &&& 31)) H locs ls h hH (lv_sub hl [0, 1, 2, 4] rfl)
      · have h := ie_x h c6
        refine lv_iconst (v := (0 : Int32)) hx hb dX9_bridges_96 (by decide) ?_
        refine lv_goto (tgt := 104) hx hb dX9_bridges_97 (by decide) ?_
        exact pX9_bridges_104 X ih xs1 l4 l3 (0 : Int32) H locs ls h hH (lv_sub hl [0, 1, 2, 4] rfl)
set_option maxHeartbeats 4000000 in
set_option maxRecDepth 100000 in
theorem uX9_bridges {l : Launch} {g : GG} {a : Nat → Nat} {i : Nat} {xs : SX9} {pa : Int32} {pb : Int32} {o : (Int32 × SX9)} (h : fX9_bridges xs pa pb = some o) : mC l g yX9_bridges cX9_bridges 5 (some .int) (rM 2 46) [.ref (a i), .int pa, .int pb] (wX9 g a i xs) (wX9 g a i o.2) (some (.int o.1)) := by
  refine mC.ofW (by decide) (fun p e s m below meth c X hH ls _ hl => ?_) (Nat.le_of_ble_eq_true rfl)
  have hx := X.1
  have hb := X.2.1
  have hl : lv_has ls 5 [(0, .ref (a i)), (1, .int pa), (2, .int pb)] := hl
  unfold fX9_bridges at h
  suffices HH : ∀ (H : Heap) (locs : List Loc), mH g s (wX9 g a i xs) (wX9 g a i xs) H locs → W p l e (rM 2 46) s m _ below meth c H locs 0 0 (mZ g below _ s (wX9 g a i xs) (wX9 g a i o.2) (some (.int o.1))) (F0 m 0 ls []) from HH _ _ hH
  clear hH
  intro H locs hH
  refine lv_aload_n hx hb dX9_bridges_0 rfl (lv_at hl 0 rfl) ?_
  refine lv_iload_n hx hb dX9_bridges_1 rfl (lv_at hl 1 rfl) ?_
  obtain ⟨o1, ho1, h⟩ := bd_x h
  refine r_V X hH (ws1 := (wX9 g a i xs)) (As := [.int pa]) (rest := []) (st1 := [.int o1]) (uX9_isPoint (a := a) (i := i) ho1) kX9_isPoint mX9_141 iX9_isPoint vX9_isPoint zX9 okX9_isPoint ⟨Nat.le_of_ble_eq_true rfl, Nat.le_of_ble_eq_true rfl⟩ rfl rfl (q0 := 0) rfl rfl (pm_all _) (pm_all _) rfl hl.1 rfl (Nat.le_of_ble_eq_true rfl) ⟨Nat.le_refl 0, Nat.le_refl 0⟩ rfl dX9_bridges_2 (fun H locs hH => ?_)
  refine lv_if_eq (tgt := 21) hx hb dX9_bridges_5 (by decide) (fun c1 => ?_) (fun c1 => ?_)
  · have h := it_x h c1
    exact pX9_bridges_21 X  xs H locs ls h hH (lv_sub hl [0, 1, 2] rfl)
  · have h := ie_x h c1
    refine lv_aload_n hx hb dX9_bridges_8 rfl (lv_at hl 0 rfl) ?_
    refine lv_iload_n hx hb dX9_bridges_9 rfl (lv_at hl 2 rfl) ?_
    obtain ⟨o3, ho3, h⟩ := bd_x h
    refine r_V X hH (ws1 := (wX9 g a i xs)) (As := [.int pb]) (rest := []) (st1 := [.int o3]) (uX9_isPoint (a := a) (i := i) ho3) kX9_isPoint mX9_141 iX9_isPoint vX9_isPoint zX9 okX9_isPoint ⟨Nat.le_of_ble_eq_true rfl, Nat.le_of_ble_eq_true rfl⟩ rfl rfl (q0 := 0) rfl rfl (pm_all _) (pm_all _) rfl hl.1 rfl (Nat.le_of_ble_eq_true rfl) ⟨Nat.le_refl 0, Nat.le_refl 0⟩ rfl dX9_bridges_10 (fun H locs hH => ?_)
    refine lv_if_eq (tgt := 21) hx hb dX9_bridges_13 (by decide) (fun c2 => ?_) (fun c2 => ?_)
    · have h := it_x h c2
      exact pX9_bridges_21 X  xs H locs ls h hH (lv_sub hl [0, 1, 2] rfl)
    · have h := ie_x h c2
      refine lv_iload_n hx hb dX9_bridges_16 rfl (lv_at hl 1 rfl) ?_
      refine lv_iload_n hx hb dX9_bridges_17 rfl (lv_at hl 2 rfl) ?_
      refine lv_icmp_ne (tgt := 27) hx hb dX9_bridges_18 (by decide) (fun c3 => ?_) (fun c3 => ?_)
      · have h := ie_x h c3
        refine lv_aload_n hx hb dX9_bridges_27 rfl (lv_at hl 0 rfl) ?_
        obtain ⟨o4, ho4, h⟩ := bd_x h
        refine r_V X hH (ws1 := (wX9 g a i o4)) (As := []) (rest := []) (st1 := []) (uX9_allThere (a := a) (i := i) ho4) kX9_allThere mX9_230 iX9_allThere vX9_allThere zX9 okX9_allThere ⟨Nat.le_of_ble_eq_true rfl, Nat.le_of_ble_eq_true rfl⟩ rfl rfl (q0 := 0) rfl rfl (pm_all _) (pm_all _) rfl hl.1 rfl (Nat.le_of_ble_eq_true rfl) ⟨Nat.le_refl 0, Nat.le_refl 0⟩ rfl dX9_bridges_28 (fun H locs hH => ?_)
        refine lv_aload_n hx hb dX9_bridges_31 rfl (lv_at hl 0 rfl) ?_
        refine lv_iload_n hx hb dX9_bridges_32 rfl (lv_at hl 1 rfl) ?_
        obtain ⟨o5, ho5, h⟩ := bd_x h
        refine r_V X hH (ws1 := (wX9 g a i o4)) (As := [.int pa]) (rest := []) (st1 := [.int o5]) (uX9_reach (a := a) (i := i) ho5) kX9_reach mX9_233 iX9_reach vX9_reach zX9 okX9_reach ⟨Nat.le_of_ble_eq_true rfl, Nat.le_of_ble_eq_true rfl⟩ rfl rfl (q0 := 0) rfl rfl (pm_all _) (pm_all _) rfl hl.1 rfl (Nat.le_of_ble_eq_true rfl) ⟨Nat.le_refl 0, Nat.le_refl 0⟩ rfl dX9_bridges_33 (fun H locs hH => ?_)
        refine lv_iload_n hx hb dX9_bridges_36 rfl (lv_at hl 2 rfl) ?_
        obtain ⟨o6, ho6, h⟩ := bd_x h
        refine r_S X hH (ws1 := (wX9 g a i o4)) (As := [.int o5, .int pb]) (rest := []) (st1 := [.int o6]) (uX9_has  ho6) kX9_has mX9_226 sX9_has zX9 okX9_has ⟨Nat.le_of_ble_eq_true rfl, Nat.le_of_ble_eq_true rfl⟩ rfl rfl (pm_none _) (pm_none _) rfl hl.1 rfl (Nat.le_of_ble_eq_true rfl) ⟨Nat.le_refl 0, Nat.le_refl 0⟩ rfl dX9_bridges_37 (fun H locs hH => ?_)
        refine lv_if_ne (tgt := 50) hx hb dX9_bridges_40 (by decide) (fun c4 => ?_) (fun c4 => ?_)
        · have h := ie_x h c4
          refine lv_iconst (v := (0 : Int32)) hx hb dX9_bridges_50 (by decide) ?_
          refine s_in X (lv' := [(3, .int (0 : Int32)), (0, .ref (a i)), (1, .int pa), (2, .int pb)]) hl rfl dX9_bridges_51 rfl (by decide) rfl (fun ls hl => ?_)
          refine lv_iconst (v := (0 : Int32)) hx hb dX9_bridges_52 (by decide) ?_
          refine s_i X (lv' := [(4, .int (0 : Int32)), (3, .int (0 : Int32)), (0, .ref (a i)), (1, .int pa), (2, .int pb)]) hl rfl dX9_bridges_53 (by decide) rfl (fun ls hl => ?_)
          exact pX9_bridges_55 X FU o4 (0 : Int32) (0 : Int32) H locs ls h hH (lv_sub hl [2, 3, 4, 1, 0] rfl)
        · have h := it_x h c4
          refine lv_aload_n hx hb dX9_bridges_43 rfl (lv_at hl 0 rfl) ?_
          refine lv_bipush (v := (-3 : Int32)) hx hb dX9_bridges_44 (by decide) ?_
          obtain ⟨o9, ho9, h⟩ := bd_x h
          refine r_V X hH (ws1 := (wX9 g a i o9.2)) (As := [.int (-3 : Int32)]) (rest := []) (st1 := [.int o9.1]) (uX9_no (a := a) (i := i) ho9) kX9_no mX9_125 iX9_no vX9_no zX9 okX9_no ⟨Nat.le_of_ble_eq_true rfl, Nat.le_of_ble_eq_true rfl⟩ rfl rfl (q0 := 0) rfl rfl (pm_all _) (pm_all _) rfl hl.1 rfl (Nat.le_of_ble_eq_true rfl) ⟨Nat.le_refl 0, Nat.le_refl 0⟩ rfl dX9_bridges_46 (fun H locs hH => ?_)
          have h := Option.some.inj h
          subst h
          exact e_i X hH dX9_bridges_49
      · have h := it_x h c3
        exact pX9_bridges_21 X  xs H locs ls h hH (lv_sub hl [0, 1, 2] rfl)

def qX9_farthest_76 (pa : Int32) (k26 : SX9 → Int32 → Int64 → Int32 → Option (Int32 × SX9)) (xs : SX9) (l2 : Int32) (l3 : Int64) (l5 : Int32) : Option (Int32 × SX9) :=
  ltt (l5 + (1 : Int32)) fun v1 =>
  k26 xs l2 l3 v1
def qX9_farthest_68 (pa : Int32) (k76 : SX9 → Int32 → Int64 → Int32 → Option (Int32 × SX9)) (xs : SX9) (l5 : Int32) : Option (Int32 × SX9) :=
  ltt ((m_up xs)) fun v2 =>
  k76 xs l5 v2 l5
def qX9_farthest_26 (pa : Int32)  : Nat → SX9 → Int32 → Int64 → Int32 → Option (Int32 × SX9)
  | 0, _, _, _, _ => none
  | fu + 1, xs, l2, l3, l5 =>
  (if (m_points xs) ≤ l5 then
  some (l2, xs)
  else
  (if l5 = pa then
  qX9_farthest_76 pa (qX9_farthest_26 pa  fu) xs l2 l3 l5
  else
  (fX9_findTime xs pa l5 (0 : Int32)).bind fun o3 =>
  (if o3.1 = (0 : Int32) then
  qX9_farthest_76 pa (qX9_farthest_26 pa  fu) o3.2 l2 l3 l5
  else
  (if l2 < (0 : Int32) then
  qX9_farthest_68 pa (qX9_farthest_76 pa (qX9_farthest_26 pa  fu)) o3.2 l5
  else
  (if l3 < (m_up o3.2) then
  qX9_farthest_68 pa (qX9_farthest_76 pa (qX9_farthest_26 pa  fu)) o3.2 l5
  else
  qX9_farthest_76 pa (qX9_farthest_26 pa  fu) o3.2 l2 l3 l5)))))
def fX9_farthest (xs : SX9) (pa : Int32) : Option (Int32 × SX9) :=
  (fX9_isPoint xs pa).bind fun o1 =>
  (if o1 = (0 : Int32) then
  (fX9_no xs (-1 : Int32)).bind fun o4 =>
  some (o4.1, o4.2)
  else
  (fX9_allThere xs).bind fun o2 =>
  qX9_farthest_26 pa FU o2 (-9 : Int32) (0 : Int64) (0 : Int32))
set_option maxHeartbeats 4000000 in
set_option maxRecDepth 100000 in
theorem pX9_farthest_76 {p : Program} {l : Launch} {e : Env} {s : State} {m : MethodId} {args : Array Value} {below : List Frame} {meth : Method} {c : Code} {g : GG} {w0 : va_W} {a : Nat → Nat} {i : Nat} {pa : Int32} {o : (Int32 × SX9)} (X : mX g yX9_farthest cX9_farthest 6 (some .int) p s m args meth c w0)
  {k26 : SX9 → Int32 → Int64 → Int32 → Option (Int32 × SX9)} (K26 : ∀ (xs : SX9) (l2 : Int32) (l3 : Int64) (l5 : Int32) (H : Heap) (locs : List Loc) (ls : Array Slot), k26 xs l2 l3 l5 = some o → mH g s w0 (wX9 g a i xs) H locs → lv_has ls 6 [(0, .ref (a i)), (1, .int pa), (2, .int l2), (3, .long l3), (5, .int l5)] → W p l e (rM 5 117) s m args below meth c H locs 0 0 (mZ g below args s w0 (wX9 g a i o.2) (some (.int o.1))) (F0 m 26 ls [])) :
  ∀ (xs : SX9) (l2 : Int32) (l3 : Int64) (l5 : Int32) (H : Heap) (locs : List Loc) (ls : Array Slot), qX9_farthest_76 pa k26 xs l2 l3 l5 = some o → mH g s w0 (wX9 g a i xs) H locs → lv_has ls 6 [(0, .ref (a i)), (1, .int pa), (2, .int l2), (3, .long l3), (5, .int l5)] → W p l e (rM 5 117) s m args below meth c H locs 0 0 (mZ g below args s w0 (wX9 g a i o.2) (some (.int o.1))) (F0 m 76 ls []) := by
  have hx := X.1
  have hb := X.2.1
  intro xs l2 l3 l5 H locs ls h hH hl
  unfold qX9_farthest_76 at h
  obtain ⟨v1, ev1, h⟩ := ltt_x h
  refine s_inc X (k := 4) (lv' := [(5, .int v1), (0, .ref (a i)), (1, .int pa), (2, .int l2), (3, .long l3)]) hl rfl (by rw [ev1]; rfl) dX9_farthest_76 (by decide) rfl (fun ls hl => ?_)
  refine lv_goto (tgt := 26) hx hb dX9_farthest_79 (by decide) ?_
  exact K26 xs l2 l3 v1 H locs ls h hH (lv_sub hl [1, 2, 3, 4, 0] rfl)
set_option maxHeartbeats 4000000 in
set_option maxRecDepth 100000 in
theorem pX9_farthest_68 {p : Program} {l : Launch} {e : Env} {s : State} {m : MethodId} {args : Array Value} {below : List Frame} {meth : Method} {c : Code} {g : GG} {w0 : va_W} {a : Nat → Nat} {i : Nat} {pa : Int32} {o : (Int32 × SX9)} (X : mX g yX9_farthest cX9_farthest 6 (some .int) p s m args meth c w0)
  {k76 : SX9 → Int32 → Int64 → Int32 → Option (Int32 × SX9)} (K76 : ∀ (xs : SX9) (l2 : Int32) (l3 : Int64) (l5 : Int32) (H : Heap) (locs : List Loc) (ls : Array Slot), k76 xs l2 l3 l5 = some o → mH g s w0 (wX9 g a i xs) H locs → lv_has ls 6 [(0, .ref (a i)), (1, .int pa), (2, .int l2), (3, .long l3), (5, .int l5)] → W p l e (rM 5 117) s m args below meth c H locs 0 0 (mZ g below args s w0 (wX9 g a i o.2) (some (.int o.1))) (F0 m 76 ls [])) :
  ∀ (xs : SX9) (l5 : Int32) (H : Heap) (locs : List Loc) (ls : Array Slot), qX9_farthest_68 pa k76 xs l5 = some o → mH g s w0 (wX9 g a i xs) H locs → lv_has ls 6 [(0, .ref (a i)), (1, .int pa), (5, .int l5)] → W p l e (rM 5 117) s m args below meth c H locs 0 0 (mZ g below args s w0 (wX9 g a i o.2) (some (.int o.1))) (F0 m 68 ls []) := by
  have hx := X.1
  have hb := X.2.1
  intro xs l5 H locs ls h hH hl
  unfold qX9_farthest_68 at h
  refine lv_iload hx hb dX9_farthest_68 (lv_at hl 2 rfl) ?_
  refine s_in X (lv' := [(2, .int l5), (0, .ref (a i)), (1, .int pa), (5, .int l5)]) hl rfl dX9_farthest_70 rfl (by decide) rfl (fun ls hl => ?_)
  refine lv_aload_n hx hb dX9_farthest_71 rfl (lv_at hl 1 rfl) ?_
  refine f_get X hH 0 rfl rfl 26 (by decide) inX9 fX9_248 rfl dX9_farthest_72 ?_
  obtain ⟨v2, ev2, h⟩ := ltt_x h
  refine s_ln X (lv' := [(3, .long v2), (2, .int l5), (0, .ref (a i)), (1, .int pa), (5, .int l5)]) hl ev2 dX9_farthest_75 rfl (by decide) rfl (fun ls hl => ?_)
  exact K76 xs l5 v2 l5 H locs ls h hH (lv_sub hl [2, 3, 1, 0, 4] rfl)
set_option maxHeartbeats 4000000 in
set_option maxRecDepth 100000 in
theorem pX9_farthest_26 {p : Program} {l : Launch} {e : Env} {s : State} {m : MethodId} {args : Array Value} {below : List Frame} {meth : Method} {c : Code} {g : GG} {w0 : va_W} {a : Nat → Nat} {i : Nat} {pa : Int32} {o : (Int32 × SX9)} (X : mX g yX9_farthest cX9_farthest 6 (some .int) p s m args meth c w0) :
  ∀ (fu : Nat) (xs : SX9) (l2 : Int32) (l3 : Int64) (l5 : Int32) (H : Heap) (locs : List Loc) (ls : Array Slot), qX9_farthest_26 pa fu xs l2 l3 l5 = some o → mH g s w0 (wX9 g a i xs) H locs → lv_has ls 6 [(0, .ref (a i)), (1, .int pa), (2, .int l2), (3, .long l3), (5, .int l5)] → W p l e (rM 5 117) s m args below meth c H locs 0 0 (mZ g below args s w0 (wX9 g a i o.2) (some (.int o.1))) (F0 m 26 ls []) := by
  have hx := X.1
  have hb := X.2.1
  intro fu
  induction fu with
  | zero =>
    intro xs l2 l3 l5 H locs ls h
    unfold qX9_farthest_26 at h
    cases h
  | succ fu ih =>
    intro xs l2 l3 l5 H locs ls h hH hl
    unfold qX9_farthest_26 at h
    refine lv_iload hx hb dX9_farthest_26 (lv_at hl 4 rfl) ?_
    refine lv_aload_n hx hb dX9_farthest_28 rfl (lv_at hl 0 rfl) ?_
    refine f_get X hH 0 rfl rfl 0 (by decide) inX9 fX9_7 rfl dX9_farthest_29 ?_
    refine lv_icmp_ge (tgt := 82) hx hb dX9_farthest_32 (by decide) (fun c2 => ?_) (fun c2 => ?_)
    · have h := it_x h c2
      refine lv_iload_n hx hb dX9_farthest_82 rfl (lv_at hl 2 rfl) ?_
      have h := Option.some.inj h
      subst h
      exact e_i X hH dX9_farthest_83
    · have h := ie_x h c2
      refine lv_iload hx hb dX9_farthest_35 (lv_at hl 4 rfl) ?_
      refine lv_iload_n hx hb dX9_farthest_37 rfl (lv_at hl 1 rfl) ?_
      refine lv_icmp_eq (tgt := 76) hx hb dX9_farthest_38 (by decide) (fun c3 => ?_) (fun c3 => ?_)
      · have h := it_x h c3
        exact pX9_farthest_76 X ih xs l2 l3 l5 H locs ls h hH (lv_sub hl [0, 1, 2, 3, 4] rfl)
      · have h := ie_x h c3
        refine lv_aload_n hx hb dX9_farthest_41 rfl (lv_at hl 0 rfl) ?_
        refine lv_iload_n hx hb dX9_farthest_42 rfl (lv_at hl 1 rfl) ?_
        refine lv_iload hx hb dX9_farthest_43 (lv_at hl 4 rfl) ?_
        refine lv_iconst (v := (0 : Int32)) hx hb dX9_farthest_45 (by decide) ?_
        obtain ⟨o3, ho3, h⟩ := bd_x h
        refine r_V X hH (ws1 := (wX9 g a i o3.2)) (As := [.int pa, .int l5, .int (0 : Int32)]) (rest := []) (st1 := [.int o3.1]) (uX9_findTime (a := a) (i := i) ho3) kX9_findTime mX9_275 iX9_findTime vX9_findTime zX9 okX9_findTime ⟨Nat.le_of_ble_eq_true rfl, Nat.le_of_ble_eq_true rfl⟩ rfl rfl (q0 := 0) rfl rfl (pm_all _) (pm_all _) rfl hl.1 rfl (Nat.le_of_ble_eq_true rfl) ⟨Nat.le_refl 0, Nat.le_refl 0⟩ rfl dX9_farthest_46 (fun H locs hH => ?_)
        refine lv_if_eq (tgt := 76) hx hb dX9_farthest_49 (by decide) (fun c4 => ?_) (fun c4 => ?_)
        · have h := it_x h c4
          exact pX9_farthest_76 X ih o3.2 l2 l3 l5 H locs ls h hH (lv_sub hl [0, 1, 2, 3, 4] rfl)
        · have h := ie_x h c4
          refine lv_iload_n hx hb dX9_farthest_52 rfl (lv_at hl 2 rfl) ?_
          refine lv_if_lt (tgt := 68) hx hb dX9_farthest_53 (by decide) (fun c5 => ?_) (fun c5 => ?_)
          · have h := it_x h c5
            exact pX9_farthest_68 X (pX9_farthest_76 X ih) o3.2 l5 H locs ls h hH (lv_sub hl [0, 1, 4] rfl)
          · have h := ie_x h c5
            refine lv_aload_n hx hb dX9_farthest_56 rfl (lv_at hl 0 rfl) ?_
            refine f_get X hH 0 rfl rfl 26 (by decide) inX9 fX9_248 rfl dX9_farthest_57 ?_
            refine lv_lload_n hx hb dX9_farthest_60 rfl (lv_at hl 3 rfl) ?_
            refine W.lcmp hx hb dX9_farthest_61 ?_
            refine lv_if_gt (tgt := 68) hx hb dX9_farthest_62 (by decide) (fun c6 => ?_) (fun c6 => ?_)
            · have h := it_x h ((lg_cmp_gt (m_up o3.2) l3).mp c6)
              exact pX9_farthest_68 X (pX9_farthest_76 X ih) o3.2 l5 H locs ls h hH (lv_sub hl [0, 1, 4] rfl)
            · have h := ie_x h (mt (lg_cmp_gt (m_up o3.2) l3).mpr c6)
              refine lv_goto (tgt := 76) hx hb dX9_farthest_65 (by decide) ?_
              exact pX9_farthest_76 X ih o3.2 l2 l3 l5 H locs ls h hH (lv_sub hl [0, 1, 2, 3, 4] rfl)
set_option maxHeartbeats 4000000 in
set_option maxRecDepth 100000 in
theorem uX9_farthest {l : Launch} {g : GG} {a : Nat → Nat} {i : Nat} {xs : SX9} {pa : Int32} {o : (Int32 × SX9)} (h : fX9_farthest xs pa = some o) : mC l g yX9_farthest cX9_farthest 6 (some .int) (rM 5 117) [.ref (a i), .int pa] (wX9 g a i xs) (wX9 g a i o.2) (some (.int o.1)) := by
  refine mC.ofW (by decide) (fun p e s m below meth c X hH ls _ hl => ?_) (Nat.le_of_ble_eq_true rfl)
  have hx := X.1
  have hb := X.2.1
  have hl : lv_has ls 6 [(0, .ref (a i)), (1, .int pa)] := hl
  unfold fX9_farthest at h
  suffices HH : ∀ (H : Heap) (locs : List Loc), mH g s (wX9 g a i xs) (wX9 g a i xs) H locs → W p l e (rM 5 117) s m _ below meth c H locs 0 0 (mZ g below _ s (wX9 g a i xs) (wX9 g a i o.2) (some (.int o.1))) (F0 m 0 ls []) from HH _ _ hH
  clear hH
  intro H locs hH
  refine lv_aload_n hx hb dX9_farthest_0 rfl (lv_at hl 0 rfl) ?_
  refine lv_iload_n hx hb dX9_farthest_1 rfl (lv_at hl 1 rfl) ?_
  obtain ⟨o1, ho1, h⟩ := bd_x h
  refine r_V X hH (ws1 := (wX9 g a i xs)) (As := [.int pa]) (rest := []) (st1 := [.int o1]) (uX9_isPoint (a := a) (i := i) ho1) kX9_isPoint mX9_141 iX9_isPoint vX9_isPoint zX9 okX9_isPoint ⟨Nat.le_of_ble_eq_true rfl, Nat.le_of_ble_eq_true rfl⟩ rfl rfl (q0 := 0) rfl rfl (pm_all _) (pm_all _) rfl hl.1 rfl (Nat.le_of_ble_eq_true rfl) ⟨Nat.le_refl 0, Nat.le_refl 0⟩ rfl dX9_farthest_2 (fun H locs hH => ?_)
  refine lv_if_ne (tgt := 14) hx hb dX9_farthest_5 (by decide) (fun c1 => ?_) (fun c1 => ?_)
  · have h := ie_x h c1
    refine lv_aload_n hx hb dX9_farthest_14 rfl (lv_at hl 0 rfl) ?_
    obtain ⟨o2, ho2, h⟩ := bd_x h
    refine r_V X hH (ws1 := (wX9 g a i o2)) (As := []) (rest := []) (st1 := []) (uX9_allThere (a := a) (i := i) ho2) kX9_allThere mX9_230 iX9_allThere vX9_allThere zX9 okX9_allThere ⟨Nat.le_of_ble_eq_true rfl, Nat.le_of_ble_eq_true rfl⟩ rfl rfl (q0 := 0) rfl rfl (pm_all _) (pm_all _) rfl hl.1 rfl (Nat.le_of_ble_eq_true rfl) ⟨Nat.le_refl 0, Nat.le_refl 0⟩ rfl dX9_farthest_15 (fun H locs hH => ?_)
    refine lv_bipush (v := (-9 : Int32)) hx hb dX9_farthest_18 (by decide) ?_
    refine s_in X (lv' := [(2, .int (-9 : Int32)), (0, .ref (a i)), (1, .int pa)]) hl rfl dX9_farthest_20 rfl (by decide) rfl (fun ls hl => ?_)
    refine lv_lconst (v := (0 : Int64)) hx hb dX9_farthest_21 (by decide) ?_
    refine s_ln X (lv' := [(3, .long (0 : Int64)), (2, .int (-9 : Int32)), (0, .ref (a i)), (1, .int pa)]) hl rfl dX9_farthest_22 rfl (by decide) rfl (fun ls hl => ?_)
    refine lv_iconst (v := (0 : Int32)) hx hb dX9_farthest_23 (by decide) ?_
    refine s_i X (lv' := [(5, .int (0 : Int32)), (3, .long (0 : Int64)), (2, .int (-9 : Int32)), (0, .ref (a i)), (1, .int pa)]) hl rfl dX9_farthest_24 (by decide) rfl (fun ls hl => ?_)
    exact pX9_farthest_26 X FU o2 (-9 : Int32) (0 : Int64) (0 : Int32) H locs ls h hH (lv_sub hl [3, 4, 2, 1, 0] rfl)
  · have h := it_x h c1
    refine lv_aload_n hx hb dX9_farthest_8 rfl (lv_at hl 0 rfl) ?_
    refine lv_iconst (v := (-1 : Int32)) hx hb dX9_farthest_9 (by decide) ?_
    obtain ⟨o4, ho4, h⟩ := bd_x h
    refine r_V X hH (ws1 := (wX9 g a i o4.2)) (As := [.int (-1 : Int32)]) (rest := []) (st1 := [.int o4.1]) (uX9_no (a := a) (i := i) ho4) kX9_no mX9_125 iX9_no vX9_no zX9 okX9_no ⟨Nat.le_of_ble_eq_true rfl, Nat.le_of_ble_eq_true rfl⟩ rfl rfl (q0 := 0) rfl rfl (pm_all _) (pm_all _) rfl hl.1 rfl (Nat.le_of_ble_eq_true rfl) ⟨Nat.le_refl 0, Nat.le_refl 0⟩ rfl dX9_farthest_10 (fun H locs hH => ?_)
    have h := Option.some.inj h
    subst h
    exact e_i X hH dX9_farthest_13

def qX9_middle_94  (k100 : SX9 → Int32 → Int64 → Int32 → Option (Int32 × SX9)) (xs : SX9) (l4 : Int32) (l5 : Int64) : Option (Int32 × SX9) :=
  k100 xs l4 l5 l4
def qX9_middle_100  (k31 : SX9 → Int32 → Int64 → Int32 → Option (Int32 × SX9)) (xs : SX9) (l1 : Int32) (l2 : Int64) (l4 : Int32) : Option (Int32 × SX9) :=
  ltt (l4 + (1 : Int32)) fun v1 =>
  k31 xs l1 l2 v1
def qX9_middle_46  (k31 : SX9 → Int32 → Int64 → Int32 → Option (Int32 × SX9)) : Nat → SX9 → Int32 → Int64 → Int32 → Int64 → Int32 → Option (Int32 × SX9)
  | 0, _, _, _, _, _, _ => none
  | fu + 1, xs, l1, l2, l4, l5, l7 =>
  (if (m_points xs) ≤ l7 then
  (if l1 < (0 : Int32) then
  qX9_middle_94 (qX9_middle_100 k31) xs l4 l5
  else
  (if l5 < l2 then
  qX9_middle_94 (qX9_middle_100 k31) xs l4 l5
  else
  qX9_middle_100 k31 xs l1 l2 l4))
  else
  (fX9_findTime xs l4 l7 (0 : Int32)).bind fun o3 =>
  ltt ((l5 + (m_up o3.2))) fun v2 =>
  ltt (l7 + (1 : Int32)) fun v3 =>
  qX9_middle_46 k31 fu o3.2 l1 l2 l4 v2 v3)
def qX9_middle_31   : Nat → SX9 → Int32 → Int64 → Int32 → Option (Int32 × SX9)
  | 0, _, _, _, _ => none
  | fu + 1, xs, l1, l2, l4 =>
  (if (m_points xs) ≤ l4 then
  some (l1, xs)
  else
  qX9_middle_46 (qX9_middle_31  fu) FU xs l1 l2 l4 (0 : Int64) (0 : Int32))
def fX9_middle (xs : SX9) : Option (Int32 × SX9) :=
  (fX9_allThere xs).bind fun o1 =>
  (fX9_reach o1 (0 : Int32)).bind fun o2 =>
  (if o2 = (((1 : Int32) <<< ((m_points o1) &&& 31)) - (1 : Int32)) then
  qX9_middle_31 FU o1 (-9 : Int32) (0 : Int64) (0 : Int32)
  else
  some ((-9 : Int32), o1))
set_option maxHeartbeats 4000000 in
set_option maxRecDepth 100000 in
theorem pX9_middle_94 {p : Program} {l : Launch} {e : Env} {s : State} {m : MethodId} {args : Array Value} {below : List Frame} {meth : Method} {c : Code} {g : GG} {w0 : va_W} {a : Nat → Nat} {i : Nat}  {o : (Int32 × SX9)} (X : mX g yX9_middle cX9_middle 8 (some .int) p s m args meth c w0)
  {k100 : SX9 → Int32 → Int64 → Int32 → Option (Int32 × SX9)} (K100 : ∀ (xs : SX9) (l1 : Int32) (l2 : Int64) (l4 : Int32) (H : Heap) (locs : List Loc) (ls : Array Slot), k100 xs l1 l2 l4 = some o → mH g s w0 (wX9 g a i xs) H locs → lv_has ls 8 [(0, .ref (a i)), (1, .int l1), (2, .long l2), (4, .int l4)] → W p l e (rM 5 117) s m args below meth c H locs 0 0 (mZ g below args s w0 (wX9 g a i o.2) (some (.int o.1))) (F0 m 100 ls [])) :
  ∀ (xs : SX9) (l4 : Int32) (l5 : Int64) (H : Heap) (locs : List Loc) (ls : Array Slot), qX9_middle_94 k100 xs l4 l5 = some o → mH g s w0 (wX9 g a i xs) H locs → lv_has ls 8 [(0, .ref (a i)), (4, .int l4), (5, .long l5)] → W p l e (rM 5 117) s m args below meth c H locs 0 0 (mZ g below args s w0 (wX9 g a i o.2) (some (.int o.1))) (F0 m 94 ls []) := by
  have hx := X.1
  have hb := X.2.1
  intro xs l4 l5 H locs ls h hH hl
  unfold qX9_middle_94 at h
  refine lv_iload hx hb dX9_middle_94 (lv_at hl 1 rfl) ?_
  refine s_in X (lv' := [(1, .int l4), (0, .ref (a i)), (4, .int l4), (5, .long l5)]) hl rfl dX9_middle_96 rfl (by decide) rfl (fun ls hl => ?_)
  refine lv_lload hx hb dX9_middle_97 (lv_at hl 3 rfl) ?_
  refine s_ln X (lv' := [(2, .long l5), (1, .int l4), (0, .ref (a i)), (4, .int l4), (5, .long l5)]) hl rfl dX9_middle_99 rfl (by decide) rfl (fun ls hl => ?_)
  exact K100 xs l4 l5 l4 H locs ls h hH (lv_sub hl [2, 1, 0, 3] rfl)
set_option maxHeartbeats 4000000 in
set_option maxRecDepth 100000 in
theorem pX9_middle_100 {p : Program} {l : Launch} {e : Env} {s : State} {m : MethodId} {args : Array Value} {below : List Frame} {meth : Method} {c : Code} {g : GG} {w0 : va_W} {a : Nat → Nat} {i : Nat}  {o : (Int32 × SX9)} (X : mX g yX9_middle cX9_middle 8 (some .int) p s m args meth c w0)
  {k31 : SX9 → Int32 → Int64 → Int32 → Option (Int32 × SX9)} (K31 : ∀ (xs : SX9) (l1 : Int32) (l2 : Int64) (l4 : Int32) (H : Heap) (locs : List Loc) (ls : Array Slot), k31 xs l1 l2 l4 = some o → mH g s w0 (wX9 g a i xs) H locs → lv_has ls 8 [(0, .ref (a i)), (1, .int l1), (2, .long l2), (4, .int l4)] → W p l e (rM 5 117) s m args below meth c H locs 0 0 (mZ g below args s w0 (wX9 g a i o.2) (some (.int o.1))) (F0 m 31 ls [])) :
  ∀ (xs : SX9) (l1 : Int32) (l2 : Int64) (l4 : Int32) (H : Heap) (locs : List Loc) (ls : Array Slot), qX9_middle_100 k31 xs l1 l2 l4 = some o → mH g s w0 (wX9 g a i xs) H locs → lv_has ls 8 [(0, .ref (a i)), (1, .int l1), (2, .long l2), (4, .int l4)] → W p l e (rM 5 117) s m args below meth c H locs 0 0 (mZ g below args s w0 (wX9 g a i o.2) (some (.int o.1))) (F0 m 100 ls []) := by
  have hx := X.1
  have hb := X.2.1
  intro xs l1 l2 l4 H locs ls h hH hl
  unfold qX9_middle_100 at h
  obtain ⟨v1, ev1, h⟩ := ltt_x h
  refine s_inc X (k := 3) (lv' := [(4, .int v1), (0, .ref (a i)), (1, .int l1), (2, .long l2)]) hl rfl (by rw [ev1]; rfl) dX9_middle_100 (by decide) rfl (fun ls hl => ?_)
  refine lv_goto (tgt := 31) hx hb dX9_middle_103 (by decide) ?_
  exact K31 xs l1 l2 v1 H locs ls h hH (lv_sub hl [1, 2, 3, 0] rfl)
set_option maxHeartbeats 4000000 in
set_option maxRecDepth 100000 in
theorem pX9_middle_46 {p : Program} {l : Launch} {e : Env} {s : State} {m : MethodId} {args : Array Value} {below : List Frame} {meth : Method} {c : Code} {g : GG} {w0 : va_W} {a : Nat → Nat} {i : Nat}  {o : (Int32 × SX9)} (X : mX g yX9_middle cX9_middle 8 (some .int) p s m args meth c w0)
  {k31 : SX9 → Int32 → Int64 → Int32 → Option (Int32 × SX9)} (K31 : ∀ (xs : SX9) (l1 : Int32) (l2 : Int64) (l4 : Int32) (H : Heap) (locs : List Loc) (ls : Array Slot), k31 xs l1 l2 l4 = some o → mH g s w0 (wX9 g a i xs) H locs → lv_has ls 8 [(0, .ref (a i)), (1, .int l1), (2, .long l2), (4, .int l4)] → W p l e (rM 5 117) s m args below meth c H locs 0 0 (mZ g below args s w0 (wX9 g a i o.2) (some (.int o.1))) (F0 m 31 ls [])) :
  ∀ (fu : Nat) (xs : SX9) (l1 : Int32) (l2 : Int64) (l4 : Int32) (l5 : Int64) (l7 : Int32) (H : Heap) (locs : List Loc) (ls : Array Slot), qX9_middle_46 k31 fu xs l1 l2 l4 l5 l7 = some o → mH g s w0 (wX9 g a i xs) H locs → lv_has ls 8 [(0, .ref (a i)), (1, .int l1), (2, .long l2), (4, .int l4), (5, .long l5), (7, .int l7)] → W p l e (rM 5 117) s m args below meth c H locs 0 0 (mZ g below args s w0 (wX9 g a i o.2) (some (.int o.1))) (F0 m 46 ls []) := by
  have hx := X.1
  have hb := X.2.1
  intro fu
  induction fu with
  | zero =>
    intro xs l1 l2 l4 l5 l7 H locs ls h
    unfold qX9_middle_46 at h
    cases h
  | succ fu ih =>
    intro xs l1 l2 l4 l5 l7 H locs ls h hH hl
    unfold qX9_middle_46 at h
    refine lv_iload hx hb dX9_middle_46 (lv_at hl 5 rfl) ?_
    refine lv_aload_n hx hb dX9_middle_48 rfl (lv_at hl 0 rfl) ?_
    refine f_get X hH 0 rfl rfl 0 (by decide) inX9 fX9_7 rfl dX9_middle_49 ?_
    refine lv_icmp_ge (tgt := 80) hx hb dX9_middle_52 (by decide) (fun c3 => ?_) (fun c3 => ?_)
    · have h := it_x h c3
      refine lv_iload_n hx hb dX9_middle_80 rfl (lv_at hl 1 rfl) ?_
      refine lv_if_lt (tgt := 94) hx hb dX9_middle_81 (by decide) (fun c4 => ?_) (fun c4 => ?_)
      · have h := it_x h c4
        exact pX9_middle_94 X (pX9_middle_100 X K31) xs l4 l5 H locs ls h hH (lv_sub hl [0, 3, 4] rfl)
      · have h := ie_x h c4
        refine lv_lload hx hb dX9_middle_84 (lv_at hl 4 rfl) ?_
        refine lv_lload_n hx hb dX9_middle_86 rfl (lv_at hl 2 rfl) ?_
        refine W.lcmp hx hb dX9_middle_87 ?_
        refine lv_if_lt (tgt := 94) hx hb dX9_middle_88 (by decide) (fun c5 => ?_) (fun c5 => ?_)
        · have h := it_x h ((lg_cmp_lt l5 l2).mp c5)
          exact pX9_middle_94 X (pX9_middle_100 X K31) xs l4 l5 H locs ls h hH (lv_sub hl [0, 3, 4] rfl)
        · have h := ie_x h (mt (lg_cmp_lt l5 l2).mpr c5)
          refine lv_goto (tgt := 100) hx hb dX9_middle_91 (by decide) ?_
          exact pX9_middle_100 X K31 xs l1 l2 l4 H locs ls h hH (lv_sub hl [0, 1, 2, 3] rfl)
    · have h := ie_x h c3
      refine lv_aload_n hx hb dX9_middle_55 rfl (lv_at hl 0 rfl) ?_
      refine lv_iload hx hb dX9_middle_56 (lv_at hl 3 rfl) ?_
      refine lv_iload hx hb dX9_middle_58 (lv_at hl 5 rfl) ?_
      refine lv_iconst (v := (0 : Int32)) hx hb dX9_middle_60 (by decide) ?_
      obtain ⟨o3, ho3, h⟩ := bd_x h
      refine r_V X hH (ws1 := (wX9 g a i o3.2)) (As := [.int l4, .int l7, .int (0 : Int32)]) (rest := []) (st1 := [.int o3.1]) (uX9_findTime (a := a) (i := i) ho3) kX9_findTime mX9_275 iX9_findTime vX9_findTime zX9 okX9_findTime ⟨Nat.le_of_ble_eq_true rfl, Nat.le_of_ble_eq_true rfl⟩ rfl rfl (q0 := 0) rfl rfl (pm_all _) (pm_all _) rfl hl.1 rfl (Nat.le_of_ble_eq_true rfl) ⟨Nat.le_refl 0, Nat.le_refl 0⟩ rfl dX9_middle_61 (fun H locs hH => ?_)
      refine lv_pop hx hb dX9_middle_64 rfl ?_
      refine lv_lload hx hb dX9_middle_65 (lv_at hl 4 rfl) ?_
      refine lv_aload_n hx hb dX9_middle_67 rfl (lv_at hl 0 rfl) ?_
      refine f_get X hH 0 rfl rfl 26 (by decide) inX9 fX9_248 rfl dX9_middle_68 ?_
      refine lv_ladd hx hb dX9_middle_71 ?_
      obtain ⟨v2, ev2, h⟩ := ltt_x h
      refine s_l X (lv' := [(5, .long v2), (0, .ref (a i)), (1, .int l1), (2, .long l2), (4, .int l4), (7, .int l7)]) hl ev2 dX9_middle_72 (by decide) rfl (fun ls hl => ?_)
      obtain ⟨v3, ev3, h⟩ := ltt_x h
      refine s_inc X (k := 5) (lv' := [(7, .int v3), (5, .long v2), (0, .ref (a i)), (1, .int l1), (2, .long l2), (4, .int l4)]) hl rfl (by rw [ev3]; rfl) dX9_middle_74 (by decide) rfl (fun ls hl => ?_)
      refine lv_goto (tgt := 46) hx hb dX9_middle_77 (by decide) ?_
      exact ih o3.2 l1 l2 l4 v2 v3 H locs ls h hH (lv_sub hl [2, 3, 4, 5, 1, 0] rfl)
set_option maxHeartbeats 4000000 in
set_option maxRecDepth 100000 in
theorem pX9_middle_31 {p : Program} {l : Launch} {e : Env} {s : State} {m : MethodId} {args : Array Value} {below : List Frame} {meth : Method} {c : Code} {g : GG} {w0 : va_W} {a : Nat → Nat} {i : Nat}  {o : (Int32 × SX9)} (X : mX g yX9_middle cX9_middle 8 (some .int) p s m args meth c w0) :
  ∀ (fu : Nat) (xs : SX9) (l1 : Int32) (l2 : Int64) (l4 : Int32) (H : Heap) (locs : List Loc) (ls : Array Slot), qX9_middle_31 fu xs l1 l2 l4 = some o → mH g s w0 (wX9 g a i xs) H locs → lv_has ls 8 [(0, .ref (a i)), (1, .int l1), (2, .long l2), (4, .int l4)] → W p l e (rM 5 117) s m args below meth c H locs 0 0 (mZ g below args s w0 (wX9 g a i o.2) (some (.int o.1))) (F0 m 31 ls []) := by
  have hx := X.1
  have hb := X.2.1
  intro fu
  induction fu with
  | zero =>
    intro xs l1 l2 l4 H locs ls h
    unfold qX9_middle_31 at h
    cases h
  | succ fu ih =>
    intro xs l1 l2 l4 H locs ls h hH hl
    unfold qX9_middle_31 at h
    refine lv_iload hx hb dX9_middle_31 (lv_at hl 3 rfl) ?_
    refine lv_aload_n hx hb dX9_middle_33 rfl (lv_at hl 0 rfl) ?_
    refine f_get X hH 0 rfl rfl 0 (by decide) inX9 fX9_7 rfl dX9_middle_34 ?_
    refine lv_icmp_ge (tgt := 106) hx hb dX9_middle_37 (by decide) (fun c2 => ?_) (fun c2 => ?_)
    · have h := it_x h c2
      refine lv_iload_n hx hb dX9_middle_106 rfl (lv_at hl 1 rfl) ?_
      have h := Option.some.inj h
      subst h
      exact e_i X hH dX9_middle_107
    · have h := ie_x h c2
      refine lv_lconst (v := (0 : Int64)) hx hb dX9_middle_40 (by decide) ?_
      refine s_l X (lv' := [(5, .long (0 : Int64)), (0, .ref (a i)), (1, .int l1), (2, .long l2), (4, .int l4)]) hl rfl dX9_middle_41 (by decide) rfl (fun ls hl => ?_)
      refine lv_iconst (v := (0 : Int32)) hx hb dX9_middle_43 (by decide) ?_
      refine s_i X (lv' := [(7, .int (0 : Int32)), (5, .long (0 : Int64)), (0, .ref (a i)), (1, .int l1), (2, .long l2), (4, .int l4)]) hl rfl dX9_middle_44 (by decide) rfl (fun ls hl => ?_)
      exact pX9_middle_46 X ih FU xs l1 l2 l4 (0 : Int64) (0 : Int32) H locs ls h hH (lv_sub hl [2, 3, 4, 5, 1, 0] rfl)
set_option maxHeartbeats 4000000 in
set_option maxRecDepth 100000 in
theorem uX9_middle {l : Launch} {g : GG} {a : Nat → Nat} {i : Nat} {xs : SX9} {o : (Int32 × SX9)} (h : fX9_middle xs = some o) : mC l g yX9_middle cX9_middle 8 (some .int) (rM 5 117) [.ref (a i)] (wX9 g a i xs) (wX9 g a i o.2) (some (.int o.1)) := by
  refine mC.ofW (by decide) (fun p e s m below meth c X hH ls _ hl => ?_) (Nat.le_of_ble_eq_true rfl)
  have hx := X.1
  have hb := X.2.1
  have hl : lv_has ls 8 [(0, .ref (a i))] := hl
  unfold fX9_middle at h
  suffices HH : ∀ (H : Heap) (locs : List Loc), mH g s (wX9 g a i xs) (wX9 g a i xs) H locs → W p l e (rM 5 117) s m _ below meth c H locs 0 0 (mZ g below _ s (wX9 g a i xs) (wX9 g a i o.2) (some (.int o.1))) (F0 m 0 ls []) from HH _ _ hH
  clear hH
  intro H locs hH
  refine lv_aload_n hx hb dX9_middle_0 rfl (lv_at hl 0 rfl) ?_
  obtain ⟨o1, ho1, h⟩ := bd_x h
  refine r_V X hH (ws1 := (wX9 g a i o1)) (As := []) (rest := []) (st1 := []) (uX9_allThere (a := a) (i := i) ho1) kX9_allThere mX9_230 iX9_allThere vX9_allThere zX9 okX9_allThere ⟨Nat.le_of_ble_eq_true rfl, Nat.le_of_ble_eq_true rfl⟩ rfl rfl (q0 := 0) rfl rfl (pm_all _) (pm_all _) rfl hl.1 rfl (Nat.le_of_ble_eq_true rfl) ⟨Nat.le_refl 0, Nat.le_refl 0⟩ rfl dX9_middle_1 (fun H locs hH => ?_)
  refine lv_aload_n hx hb dX9_middle_4 rfl (lv_at hl 0 rfl) ?_
  refine lv_iconst (v := (0 : Int32)) hx hb dX9_middle_5 (by decide) ?_
  obtain ⟨o2, ho2, h⟩ := bd_x h
  refine r_V X hH (ws1 := (wX9 g a i o1)) (As := [.int (0 : Int32)]) (rest := []) (st1 := [.int o2]) (uX9_reach (a := a) (i := i) ho2) kX9_reach mX9_233 iX9_reach vX9_reach zX9 okX9_reach ⟨Nat.le_of_ble_eq_true rfl, Nat.le_of_ble_eq_true rfl⟩ rfl rfl (q0 := 0) rfl rfl (pm_all _) (pm_all _) rfl hl.1 rfl (Nat.le_of_ble_eq_true rfl) ⟨Nat.le_refl 0, Nat.le_refl 0⟩ rfl dX9_middle_6 (fun H locs hH => ?_)
  refine lv_iconst (v := (1 : Int32)) hx hb dX9_middle_9 (by decide) ?_
  refine lv_aload_n hx hb dX9_middle_10 rfl (lv_at hl 0 rfl) ?_
  refine f_get X hH 0 rfl rfl 0 (by decide) inX9 fX9_7 rfl dX9_middle_11 ?_
  refine lv_ishl hx hb dX9_middle_14 ?_
  refine lv_iconst (v := (1 : Int32)) hx hb dX9_middle_15 (by decide) ?_
  refine lv_isub hx hb dX9_middle_16 ?_
  refine lv_icmp_eq (tgt := 23) hx hb dX9_middle_17 (by decide) (fun c1 => ?_) (fun c1 => ?_)
  · have h := it_x h c1
    refine lv_bipush (v := (-9 : Int32)) hx hb dX9_middle_23 (by decide) ?_
    refine s_in X (lv' := [(1, .int (-9 : Int32)), (0, .ref (a i))]) hl rfl dX9_middle_25 rfl (by decide) rfl (fun ls hl => ?_)
    refine lv_lconst (v := (0 : Int64)) hx hb dX9_middle_26 (by decide) ?_
    refine s_ln X (lv' := [(2, .long (0 : Int64)), (1, .int (-9 : Int32)), (0, .ref (a i))]) hl rfl dX9_middle_27 rfl (by decide) rfl (fun ls hl => ?_)
    refine lv_iconst (v := (0 : Int32)) hx hb dX9_middle_28 (by decide) ?_
    refine s_i X (lv' := [(4, .int (0 : Int32)), (2, .long (0 : Int64)), (1, .int (-9 : Int32)), (0, .ref (a i))]) hl rfl dX9_middle_29 (by decide) rfl (fun ls hl => ?_)
    exact pX9_middle_31 X FU o1 (-9 : Int32) (0 : Int64) (0 : Int32) H locs ls h hH (lv_sub hl [3, 2, 1, 0] rfl)
  · have h := ie_x h c1
    refine lv_bipush (v := (-9 : Int32)) hx hb dX9_middle_20 (by decide) ?_
    have h := Option.some.inj h
    subst h
    exact e_i X hH dX9_middle_22

def fX9_notDoubt (xs : SX9) (pa : Int32) (pb : Int32) (pc_ : Int32) (pd : Int32) (pe : Int32) : Option Int32 :=
  (fX9_isPoint xs pa).bind fun o1 =>
  (if o1 = (0 : Int32) then
  some (-1 : Int32)
  else
  (fX9_isPoint xs pb).bind fun o2 =>
  (if o2 = (0 : Int32) then
  some (-1 : Int32)
  else
  (if pc_ < (2 : Int32) then
  some (-4 : Int32)
  else
  (if (0 : Int32) ≤ pd then
  (if (20 : Int32) < pc_ then
  some (-6 : Int32)
  else
  (if pd ≤ (999 : Int32) then
  (fX9_isIn (pe.toInt64) (0 : Int64) (1 : Int64)).bind fun o3 =>
  (if o3 = (0 : Int32) then
  some (-2 : Int32)
  else
  some (0 : Int32))
  else
  some (-6 : Int32)))
  else
  some (-4 : Int32)))))
set_option maxHeartbeats 4000000 in
set_option maxRecDepth 100000 in
theorem uX9_notDoubt {l : Launch} {g : GG} {a : Nat → Nat} {i : Nat} {xs : SX9} {pa : Int32} {pb : Int32} {pc_ : Int32} {pd : Int32} {pe : Int32} {o : Int32} (h : fX9_notDoubt xs pa pb pc_ pd pe = some o) : mC l g yX9_notDoubt cX9_notDoubt 6 (some .int) (rM 2 46) [.ref (a i), .int pa, .int pb, .int pc_, .int pd, .int pe] (wX9 g a i xs) (wX9 g a i xs) (some (.int o)) := by
  refine mC.ofW (by decide) (fun p e s m below meth c X hH ls _ hl => ?_) (Nat.le_of_ble_eq_true rfl)
  have hx := X.1
  have hb := X.2.1
  have hl : lv_has ls 6 [(0, .ref (a i)), (1, .int pa), (2, .int pb), (3, .int pc_), (4, .int pd), (5, .int pe)] := hl
  unfold fX9_notDoubt at h
  suffices HH : ∀ (H : Heap) (locs : List Loc), mH g s (wX9 g a i xs) (wX9 g a i xs) H locs → W p l e (rM 2 46) s m _ below meth c H locs 0 0 (mZ g below _ s (wX9 g a i xs) (wX9 g a i xs) (some (.int o))) (F0 m 0 ls []) from HH _ _ hH
  clear hH
  intro H locs hH
  refine lv_aload_n hx hb dX9_notDoubt_0 rfl (lv_at hl 0 rfl) ?_
  refine lv_iload_n hx hb dX9_notDoubt_1 rfl (lv_at hl 1 rfl) ?_
  obtain ⟨o1, ho1, h⟩ := bd_x h
  refine r_V X hH (ws1 := (wX9 g a i xs)) (As := [.int pa]) (rest := []) (st1 := [.int o1]) (uX9_isPoint (a := a) (i := i) ho1) kX9_isPoint mX9_141 iX9_isPoint vX9_isPoint zX9 okX9_isPoint ⟨Nat.le_of_ble_eq_true rfl, Nat.le_of_ble_eq_true rfl⟩ rfl rfl (q0 := 0) rfl rfl (pm_all _) (pm_all _) rfl hl.1 rfl (Nat.le_of_ble_eq_true rfl) ⟨Nat.le_refl 0, Nat.le_refl 0⟩ rfl dX9_notDoubt_2 (fun H locs hH => ?_)
  refine lv_if_eq (tgt := 16) hx hb dX9_notDoubt_5 (by decide) (fun c1 => ?_) (fun c1 => ?_)
  · have h := it_x h c1
    refine lv_iconst (v := (-1 : Int32)) hx hb dX9_notDoubt_16 (by decide) ?_
    have h := Option.some.inj h
    subst h
    exact e_i X hH dX9_notDoubt_17
  · have h := ie_x h c1
    refine lv_aload_n hx hb dX9_notDoubt_8 rfl (lv_at hl 0 rfl) ?_
    refine lv_iload_n hx hb dX9_notDoubt_9 rfl (lv_at hl 2 rfl) ?_
    obtain ⟨o2, ho2, h⟩ := bd_x h
    refine r_V X hH (ws1 := (wX9 g a i xs)) (As := [.int pb]) (rest := []) (st1 := [.int o2]) (uX9_isPoint (a := a) (i := i) ho2) kX9_isPoint mX9_141 iX9_isPoint vX9_isPoint zX9 okX9_isPoint ⟨Nat.le_of_ble_eq_true rfl, Nat.le_of_ble_eq_true rfl⟩ rfl rfl (q0 := 0) rfl rfl (pm_all _) (pm_all _) rfl hl.1 rfl (Nat.le_of_ble_eq_true rfl) ⟨Nat.le_refl 0, Nat.le_refl 0⟩ rfl dX9_notDoubt_10 (fun H locs hH => ?_)
    refine lv_if_ne (tgt := 18) hx hb dX9_notDoubt_13 (by decide) (fun c2 => ?_) (fun c2 => ?_)
    · have h := ie_x h c2
      refine lv_iload_n hx hb dX9_notDoubt_18 rfl (lv_at hl 3 rfl) ?_
      refine lv_iconst (v := (2 : Int32)) hx hb dX9_notDoubt_19 (by decide) ?_
      refine lv_icmp_lt (tgt := 28) hx hb dX9_notDoubt_20 (by decide) (fun c3 => ?_) (fun c3 => ?_)
      · have h := it_x h c3
        refine lv_bipush (v := (-4 : Int32)) hx hb dX9_notDoubt_28 (by decide) ?_
        have h := Option.some.inj h
        subst h
        exact e_i X hH dX9_notDoubt_30
      · have h := ie_x h c3
        refine lv_iload hx hb dX9_notDoubt_23 (lv_at hl 4 rfl) ?_
        refine lv_if_ge (tgt := 31) hx hb dX9_notDoubt_25 (by decide) (fun c4 => ?_) (fun c4 => ?_)
        · have h := it_x h c4
          refine lv_iload_n hx hb dX9_notDoubt_31 rfl (lv_at hl 3 rfl) ?_
          refine lv_bipush (v := (20 : Int32)) hx hb dX9_notDoubt_32 (by decide) ?_
          refine lv_icmp_gt (tgt := 45) hx hb dX9_notDoubt_34 (by decide) (fun c5 => ?_) (fun c5 => ?_)
          · have h := it_x h c5
            refine lv_bipush (v := (-6 : Int32)) hx hb dX9_notDoubt_45 (by decide) ?_
            have h := Option.some.inj h
            subst h
            exact e_i X hH dX9_notDoubt_47
          · have h := ie_x h c5
            refine lv_iload hx hb dX9_notDoubt_37 (lv_at hl 4 rfl) ?_
            refine lv_sipush (v := (999 : Int32)) hx hb dX9_notDoubt_39 (by decide) ?_
            refine lv_icmp_le (tgt := 48) hx hb dX9_notDoubt_42 (by decide) (fun c6 => ?_) (fun c6 => ?_)
            · have h := it_x h c6
              refine lv_iload hx hb dX9_notDoubt_48 (lv_at hl 5 rfl) ?_
              refine lv_i2l hx hb dX9_notDoubt_50 rfl ?_
              refine lv_lconst (v := (0 : Int64)) hx hb dX9_notDoubt_51 (by decide) ?_
              refine lv_lconst (v := (1 : Int64)) hx hb dX9_notDoubt_52 (by decide) ?_
              obtain ⟨o3, ho3, h⟩ := bd_x h
              refine r_S X hH (ws1 := (wX9 g a i xs)) (As := [.long (pe.toInt64), .long (0 : Int64), .long (1 : Int64)]) (rest := []) (st1 := [.int o3]) (uX9_isIn  ho3) kX9_isIn mX9_116 sX9_isIn zX9 okX9_isIn ⟨Nat.le_of_ble_eq_true rfl, Nat.le_of_ble_eq_true rfl⟩ rfl rfl (pm_none _) (pm_none _) rfl hl.1 rfl (Nat.le_of_ble_eq_true rfl) ⟨Nat.le_refl 0, Nat.le_refl 0⟩ rfl dX9_notDoubt_53 (fun H locs hH => ?_)
              refine lv_if_eq (tgt := 63) hx hb dX9_notDoubt_56 (by decide) (fun c7 => ?_) (fun c7 => ?_)
              · have h := it_x h c7
                refine lv_bipush (v := (-2 : Int32)) hx hb dX9_notDoubt_63 (by decide) ?_
                have h := Option.some.inj h
                subst h
                exact e_i X hH dX9_notDoubt_65
              · have h := ie_x h c7
                refine lv_iconst (v := (0 : Int32)) hx hb dX9_notDoubt_59 (by decide) ?_
                refine lv_goto (tgt := 65) hx hb dX9_notDoubt_60 (by decide) ?_
                have h := Option.some.inj h
                subst h
                exact e_i X hH dX9_notDoubt_65
            · have h := ie_x h c6
              refine lv_bipush (v := (-6 : Int32)) hx hb dX9_notDoubt_45 (by decide) ?_
              have h := Option.some.inj h
              subst h
              exact e_i X hH dX9_notDoubt_47
        · have h := ie_x h c4
          refine lv_bipush (v := (-4 : Int32)) hx hb dX9_notDoubt_28 (by decide) ?_
          have h := Option.some.inj h
          subst h
          exact e_i X hH dX9_notDoubt_30
    · have h := it_x h c2
      refine lv_iconst (v := (-1 : Int32)) hx hb dX9_notDoubt_16 (by decide) ?_
      have h := Option.some.inj h
      subst h
      exact e_i X hH dX9_notDoubt_17

def qX9_doubted_129 (pa : Int32) (pb : Int32) (pc_ : Int32) (pd : Int32) (pe : Int32) (k130 : SX9 → Int32 → Int64 → Int64 → Int32 → Int32 → Option (Int64 × SX9)) (xs : SX9) (l6 : Int32) (l7 : Int64) (l9 : Int64) (l11 : Int32) : Option (Int64 × SX9) :=
  k130 xs l6 l7 l9 l11 (0 : Int32)
def qX9_doubted_187 (pa : Int32) (pb : Int32) (pc_ : Int32) (pd : Int32) (pe : Int32) (k52 : SX9 → Int32 → Int64 → Int64 → Int32 → Option (Int64 × SX9)) (xs : SX9) (l6 : Int32) (l9 : Int64) (l11 : Int32) (t0 : Int64) (t1 : Int64) : Option (Int64 × SX9) :=
  ltt ((t0 + t1)) fun v2 =>
  ltt (l11 + (1 : Int32)) fun v3 =>
  k52 xs l6 v2 l9 v3
def qX9_doubted_165 (pa : Int32) (pb : Int32) (pc_ : Int32) (pd : Int32) (pe : Int32) (k138 : SX9 → Int32 → Int64 → Int64 → Int32 → Int32 → Int64 → Int32 → Option (Int64 × SX9)) (xs : SX9) (l6 : Int32) (l7 : Int64) (l9 : Int64) (l11 : Int32) (l12 : Int32) (l15 : Int32) (t0 : Int64) (t1 : Int64) : Option (Int64 × SX9) :=
  ltt ((t0 * t1)) fun v4 =>
  ltt (l15 + (1 : Int32)) fun v5 =>
  k138 xs l6 l7 l9 l11 l12 v4 v5
def qX9_doubted_138 (pa : Int32) (pb : Int32) (pc_ : Int32) (pd : Int32) (pe : Int32) (k52 : SX9 → Int32 → Int64 → Int64 → Int32 → Option (Int64 × SX9)) : Nat → SX9 → Int32 → Int64 → Int64 → Int32 → Int32 → Int64 → Int32 → Option (Int64 × SX9)
  | 0, _, _, _, _, _, _, _, _ => none
  | fu + 1, xs, l6, l7, l9, l11, l12, l13, l15 =>
  (if l6 ≤ l15 then
  (if l12 = (0 : Int32) then
  qX9_doubted_187 pa pb pc_ pd pe k52 xs l6 l9 l11 l7 (0 : Int64)
  else
  qX9_doubted_187 pa pb pc_ pd pe k52 xs l6 l9 l11 l7 l13)
  else
  (fX9_has l11 l15).bind fun o4 =>
  (if o4 = (0 : Int32) then
  qX9_doubted_165 pa pb pc_ pd pe (qX9_doubted_138 pa pb pc_ pd pe k52 fu) xs l6 l7 l9 l11 l12 l15 l13 (1 : Int64)
  else
  qX9_doubted_165 pa pb pc_ pd pe (qX9_doubted_138 pa pb pc_ pd pe k52 fu) xs l6 l7 l9 l11 l12 l15 l13 ((pc_ - (1 : Int32)).toInt64)))
def qX9_doubted_130 (pa : Int32) (pb : Int32) (pc_ : Int32) (pd : Int32) (pe : Int32) (k52 : SX9 → Int32 → Int64 → Int64 → Int32 → Option (Int64 × SX9)) (xs : SX9) (l6 : Int32) (l7 : Int64) (l9 : Int64) (l11 : Int32) (t0 : Int32) : Option (Int64 × SX9) :=
  qX9_doubted_138 pa pb pc_ pd pe k52 FU xs l6 l7 l9 l11 t0 (1 : Int64) (0 : Int32)
def qX9_doubted_52 (pa : Int32) (pb : Int32) (pc_ : Int32) (pd : Int32) (pe : Int32)  : Nat → SX9 → Int32 → Int64 → Int64 → Int32 → Option (Int64 × SX9)
  | 0, _, _, _, _, _ => none
  | fu + 1, xs, l6, l7, l9, l11 =>
  (if ((1 : Int32) <<< (l6 &&& 31)) ≤ l11 then
  (fX9_partOf l7 l9 pe).bind fun o1 =>
  some (o1, xs)
  else
  (fX9_allThere xs).bind fun o2 =>
  ltt (((((m_there o2) >>> (l6 &&& 31)) <<< (l6 &&& 31)) ||| l11)) fun v1 =>
  ltt ((m_there_s o2 v1)) fun xs1 =>
  (if (0 : Int32) ≤ pd then
  (fX9_findTime xs1 pa pb (0 : Int32)).bind fun o3 =>
  (if o3.1 = (0 : Int32) then
  qX9_doubted_129 pa pb pc_ pd pe (qX9_doubted_130 pa pb pc_ pd pe (qX9_doubted_52 pa pb pc_ pd pe  fu)) o3.2 l6 l7 l9 l11
  else
  (if ((pd.toInt64) * (m_down o3.2)) < (m_up o3.2) then
  qX9_doubted_129 pa pb pc_ pd pe (qX9_doubted_130 pa pb pc_ pd pe (qX9_doubted_52 pa pb pc_ pd pe  fu)) o3.2 l6 l7 l9 l11
  else
  qX9_doubted_130 pa pb pc_ pd pe (qX9_doubted_52 pa pb pc_ pd pe  fu) o3.2 l6 l7 l9 l11 (1 : Int32)))
  else
  (fX9_reach xs1 pa).bind fun o5 =>
  (fX9_has o5 pb).bind fun o6 =>
  qX9_doubted_130 pa pb pc_ pd pe (qX9_doubted_52 pa pb pc_ pd pe  fu) xs1 l6 l7 l9 l11 o6))
def qX9_doubted_29 (pa : Int32) (pb : Int32) (pc_ : Int32) (pd : Int32) (pe : Int32)  : Nat → SX9 → Int32 → Int64 → Int64 → Int32 → Option (Int64 × SX9)
  | 0, _, _, _, _, _ => none
  | fu + 1, xs, l6, l7, l9, l11 =>
  (if l6 ≤ l11 then
  qX9_doubted_52 pa pb pc_ pd pe FU xs l6 l7 l9 (0 : Int32)
  else
  ltt ((l9 * (pc_.toInt64))) fun v6 =>
  ltt (l11 + (1 : Int32)) fun v7 =>
  qX9_doubted_29 pa pb pc_ pd pe  fu xs l6 l7 v6 v7)
def qX9_doubted_18 (pa : Int32) (pb : Int32) (pc_ : Int32) (pd : Int32) (pe : Int32)  (xs : SX9) (t0 : Int32) : Option (Int64 × SX9) :=
  qX9_doubted_29 pa pb pc_ pd pe FU xs t0 (0 : Int64) (1 : Int64) (0 : Int32)
def fX9_doubted (xs : SX9) (pa : Int32) (pb : Int32) (pc_ : Int32) (pd : Int32) (pe : Int32) : Option (Int64 × SX9) :=
  (if (6 : Int32) ≤ (m_many xs) then
  qX9_doubted_18 pa pb pc_ pd pe xs (6 : Int32)
  else
  qX9_doubted_18 pa pb pc_ pd pe xs (m_many xs))
set_option maxHeartbeats 4000000 in
set_option maxRecDepth 100000 in
theorem pX9_doubted_129 {p : Program} {l : Launch} {e : Env} {s : State} {m : MethodId} {args : Array Value} {below : List Frame} {meth : Method} {c : Code} {g : GG} {w0 : va_W} {a : Nat → Nat} {i : Nat} {pa : Int32} {pb : Int32} {pc_ : Int32} {pd : Int32} {pe : Int32} {o : (Int64 × SX9)} (X : mX g yX9_doubted cX9_doubted 16 (some .long) p s m args meth c w0)
  {k130 : SX9 → Int32 → Int64 → Int64 → Int32 → Int32 → Option (Int64 × SX9)} (K130 : ∀ (xs : SX9) (l6 : Int32) (l7 : Int64) (l9 : Int64) (l11 : Int32) (t0 : Int32) (H : Heap) (locs : List Loc) (ls : Array Slot), k130 xs l6 l7 l9 l11 t0 = some o → mH g s w0 (wX9 g a i xs) H locs → lv_has ls 16 [(0, .ref (a i)), (1, .int pa), (2, .int pb), (3, .int pc_), (4, .int pd), (5, .int pe), (6, .int l6), (7, .long l7), (9, .long l9), (11, .int l11)] → W p l e (rM 5 117) s m args below meth c H locs 0 0 (mZ g below args s w0 (wX9 g a i o.2) (some (.long o.1))) (F0 m 130 ls [.int t0])) :
  ∀ (xs : SX9) (l6 : Int32) (l7 : Int64) (l9 : Int64) (l11 : Int32) (H : Heap) (locs : List Loc) (ls : Array Slot), qX9_doubted_129 pa pb pc_ pd pe k130 xs l6 l7 l9 l11 = some o → mH g s w0 (wX9 g a i xs) H locs → lv_has ls 16 [(0, .ref (a i)), (1, .int pa), (2, .int pb), (3, .int pc_), (4, .int pd), (5, .int pe), (6, .int l6), (7, .long l7), (9, .long l9), (11, .int l11)] → W p l e (rM 5 117) s m args below meth c H locs 0 0 (mZ g below args s w0 (wX9 g a i o.2) (some (.long o.1))) (F0 m 129 ls []) := by
  have hx := X.1
  have hb := X.2.1
  intro xs l6 l7 l9 l11 H locs ls h hH hl
  unfold qX9_doubted_129 at h
  refine lv_iconst (v := (0 : Int32)) hx hb dX9_doubted_129 (by decide) ?_
  exact K130 xs l6 l7 l9 l11 (0 : Int32) H locs ls h hH (lv_sub hl [0, 1, 2, 3, 4, 5, 6, 7, 8, 9] rfl)
set_option maxHeartbeats 4000000 in
set_option maxRecDepth 100000 in
theorem pX9_doubted_187 {p : Program} {l : Launch} {e : Env} {s : State} {m : MethodId} {args : Array Value} {below : List Frame} {meth : Method} {c : Code} {g : GG} {w0 : va_W} {a : Nat → Nat} {i : Nat} {pa : Int32} {pb : Int32} {pc_ : Int32} {pd : Int32} {pe : Int32} {o : (Int64 × SX9)} (X : mX g yX9_doubted cX9_doubted 16 (some .long) p s m args meth c w0)
  {k52 : SX9 → Int32 → Int64 → Int64 → Int32 → Option (Int64 × SX9)} (K52 : ∀ (xs : SX9) (l6 : Int32) (l7 : Int64) (l9 : Int64) (l11 : Int32) (H : Heap) (locs : List Loc) (ls : Array Slot), k52 xs l6 l7 l9 l11 = some o → mH g s w0 (wX9 g a i xs) H locs → lv_has ls 16 [(0, .ref (a i)), (1, .int pa), (2, .int pb), (3, .int pc_), (4, .int pd), (5, .int pe), (6, .int l6), (7, .long l7), (9, .long l9), (11, .int l11)] → W p l e (rM 5 117) s m args below meth c H locs 0 0 (mZ g below args s w0 (wX9 g a i o.2) (some (.long o.1))) (F0 m 52 ls [])) :
  ∀ (xs : SX9) (l6 : Int32) (l9 : Int64) (l11 : Int32) (t0 : Int64) (t1 : Int64) (H : Heap) (locs : List Loc) (ls : Array Slot), qX9_doubted_187 pa pb pc_ pd pe k52 xs l6 l9 l11 t0 t1 = some o → mH g s w0 (wX9 g a i xs) H locs → lv_has ls 16 [(0, .ref (a i)), (1, .int pa), (2, .int pb), (3, .int pc_), (4, .int pd), (5, .int pe), (6, .int l6), (9, .long l9), (11, .int l11)] → W p l e (rM 5 117) s m args below meth c H locs 0 0 (mZ g below args s w0 (wX9 g a i o.2) (some (.long o.1))) (F0 m 187 ls [.long t1, .long t0]) := by
  have hx := X.1
  have hb := X.2.1
  intro xs l6 l9 l11 t0 t1 H locs ls h hH hl
  unfold qX9_doubted_187 at h
  refine lv_ladd hx hb dX9_doubted_187 ?_
  obtain ⟨v2, ev2, h⟩ := ltt_x h
  refine s_l X (lv' := [(7, .long v2), (0, .ref (a i)), (1, .int pa), (2, .int pb), (3, .int pc_), (4, .int pd), (5, .int pe), (6, .int l6), (9, .long l9), (11, .int l11)]) hl ev2 dX9_doubted_188 (by decide) rfl (fun ls hl => ?_)
  obtain ⟨v3, ev3, h⟩ := ltt_x h
  refine s_inc X (k := 9) (lv' := [(11, .int v3), (7, .long v2), (0, .ref (a i)), (1, .int pa), (2, .int pb), (3, .int pc_), (4, .int pd), (5, .int pe), (6, .int l6), (9, .long l9)]) hl rfl (by rw [ev3]; rfl) dX9_doubted_190 (by decide) rfl (fun ls hl => ?_)
  refine lv_goto (tgt := 52) hx hb dX9_doubted_193 (by decide) ?_
  exact K52 xs l6 v2 l9 v3 H locs ls h hH (lv_sub hl [2, 3, 4, 5, 6, 7, 8, 1, 9, 0] rfl)
set_option maxHeartbeats 4000000 in
set_option maxRecDepth 100000 in
theorem pX9_doubted_165 {p : Program} {l : Launch} {e : Env} {s : State} {m : MethodId} {args : Array Value} {below : List Frame} {meth : Method} {c : Code} {g : GG} {w0 : va_W} {a : Nat → Nat} {i : Nat} {pa : Int32} {pb : Int32} {pc_ : Int32} {pd : Int32} {pe : Int32} {o : (Int64 × SX9)} (X : mX g yX9_doubted cX9_doubted 16 (some .long) p s m args meth c w0)
  {k138 : SX9 → Int32 → Int64 → Int64 → Int32 → Int32 → Int64 → Int32 → Option (Int64 × SX9)} (K138 : ∀ (xs : SX9) (l6 : Int32) (l7 : Int64) (l9 : Int64) (l11 : Int32) (l12 : Int32) (l13 : Int64) (l15 : Int32) (H : Heap) (locs : List Loc) (ls : Array Slot), k138 xs l6 l7 l9 l11 l12 l13 l15 = some o → mH g s w0 (wX9 g a i xs) H locs → lv_has ls 16 [(0, .ref (a i)), (1, .int pa), (2, .int pb), (3, .int pc_), (4, .int pd), (5, .int pe), (6, .int l6), (7, .long l7), (9, .long l9), (11, .int l11), (12, .int l12), (13, .long l13), (15, .int l15)] → W p l e (rM 5 117) s m args below meth c H locs 0 0 (mZ g below args s w0 (wX9 g a i o.2) (some (.long o.1))) (F0 m 138 ls [])) :
  ∀ (xs : SX9) (l6 : Int32) (l7 : Int64) (l9 : Int64) (l11 : Int32) (l12 : Int32) (l15 : Int32) (t0 : Int64) (t1 : Int64) (H : Heap) (locs : List Loc) (ls : Array Slot), qX9_doubted_165 pa pb pc_ pd pe k138 xs l6 l7 l9 l11 l12 l15 t0 t1 = some o → mH g s w0 (wX9 g a i xs) H locs → lv_has ls 16 [(0, .ref (a i)), (1, .int pa), (2, .int pb), (3, .int pc_), (4, .int pd), (5, .int pe), (6, .int l6), (7, .long l7), (9, .long l9), (11, .int l11), (12, .int l12), (15, .int l15)] → W p l e (rM 5 117) s m args below meth c H locs 0 0 (mZ g below args s w0 (wX9 g a i o.2) (some (.long o.1))) (F0 m 165 ls [.long t1, .long t0]) := by
  have hx := X.1
  have hb := X.2.1
  intro xs l6 l7 l9 l11 l12 l15 t0 t1 H locs ls h hH hl
  unfold qX9_doubted_165 at h
  refine lv_lmul hx hb dX9_doubted_165 ?_
  obtain ⟨v4, ev4, h⟩ := ltt_x h
  refine s_l X (lv' := [(13, .long v4), (0, .ref (a i)), (1, .int pa), (2, .int pb), (3, .int pc_), (4, .int pd), (5, .int pe), (6, .int l6), (7, .long l7), (9, .long l9), (11, .int l11), (12, .int l12), (15, .int l15)]) hl ev4 dX9_doubted_166 (by decide) rfl (fun ls hl => ?_)
  obtain ⟨v5, ev5, h⟩ := ltt_x h
  refine s_inc X (k := 12) (lv' := [(15, .int v5), (13, .long v4), (0, .ref (a i)), (1, .int pa), (2, .int pb), (3, .int pc_), (4, .int pd), (5, .int pe), (6, .int l6), (7, .long l7), (9, .long l9), (11, .int l11), (12, .int l12)]) hl rfl (by rw [ev5]; rfl) dX9_doubted_168 (by decide) rfl (fun ls hl => ?_)
  refine lv_goto (tgt := 138) hx hb dX9_doubted_171 (by decide) ?_
  exact K138 xs l6 l7 l9 l11 l12 v4 v5 H locs ls h hH (lv_sub hl [2, 3, 4, 5, 6, 7, 8, 9, 10, 11, 12, 1, 0] rfl)
set_option maxHeartbeats 4000000 in
set_option maxRecDepth 100000 in
theorem pX9_doubted_138 {p : Program} {l : Launch} {e : Env} {s : State} {m : MethodId} {args : Array Value} {below : List Frame} {meth : Method} {c : Code} {g : GG} {w0 : va_W} {a : Nat → Nat} {i : Nat} {pa : Int32} {pb : Int32} {pc_ : Int32} {pd : Int32} {pe : Int32} {o : (Int64 × SX9)} (X : mX g yX9_doubted cX9_doubted 16 (some .long) p s m args meth c w0)
  {k52 : SX9 → Int32 → Int64 → Int64 → Int32 → Option (Int64 × SX9)} (K52 : ∀ (xs : SX9) (l6 : Int32) (l7 : Int64) (l9 : Int64) (l11 : Int32) (H : Heap) (locs : List Loc) (ls : Array Slot), k52 xs l6 l7 l9 l11 = some o → mH g s w0 (wX9 g a i xs) H locs → lv_has ls 16 [(0, .ref (a i)), (1, .int pa), (2, .int pb), (3, .int pc_), (4, .int pd), (5, .int pe), (6, .int l6), (7, .long l7), (9, .long l9), (11, .int l11)] → W p l e (rM 5 117) s m args below meth c H locs 0 0 (mZ g below args s w0 (wX9 g a i o.2) (some (.long o.1))) (F0 m 52 ls [])) :
  ∀ (fu : Nat) (xs : SX9) (l6 : Int32) (l7 : Int64) (l9 : Int64) (l11 : Int32) (l12 : Int32) (l13 : Int64) (l15 : Int32) (H : Heap) (locs : List Loc) (ls : Array Slot), qX9_doubted_138 pa pb pc_ pd pe k52 fu xs l6 l7 l9 l11 l12 l13 l15 = some o → mH g s w0 (wX9 g a i xs) H locs → lv_has ls 16 [(0, .ref (a i)), (1, .int pa), (2, .int pb), (3, .int pc_), (4, .int pd), (5, .int pe), (6, .int l6), (7, .long l7), (9, .long l9), (11, .int l11), (12, .int l12), (13, .long l13), (15, .int l15)] → W p l e (rM 5 117) s m args below meth c H locs 0 0 (mZ g below args s w0 (wX9 g a i o.2) (some (.long o.1))) (F0 m 138 ls []) := by
  have hx := X.1
  have hb := X.2.1
  intro fu
  induction fu with
  | zero =>
    intro xs l6 l7 l9 l11 l12 l13 l15 H locs ls h
    unfold qX9_doubted_138 at h
    cases h
  | succ fu ih =>
    intro xs l6 l7 l9 l11 l12 l13 l15 H locs ls h hH hl
    unfold qX9_doubted_138 at h
    refine lv_iload hx hb dX9_doubted_138 (lv_at hl 12 rfl) ?_
    refine lv_iload hx hb dX9_doubted_140 (lv_at hl 6 rfl) ?_
    refine lv_icmp_ge (tgt := 174) hx hb dX9_doubted_142 (by decide) (fun c6 => ?_) (fun c6 => ?_)
    · have h := it_x h c6
      refine lv_lload hx hb dX9_doubted_174 (lv_at hl 7 rfl) ?_
      refine lv_iload hx hb dX9_doubted_176 (lv_at hl 10 rfl) ?_
      refine lv_if_eq (tgt := 186) hx hb dX9_doubted_178 (by decide) (fun c7 => ?_) (fun c7 => ?_)
      · have h := it_x h c7
        refine lv_lconst (v := (0 : Int64)) hx hb dX9_doubted_186 (by decide) ?_
        exact pX9_doubted_187 X K52 xs l6 l9 l11 l7 (0 : Int64) H locs ls h hH (lv_sub hl [0, 1, 2, 3, 4, 5, 6, 8, 9] rfl)
      · have h := ie_x h c7
        refine lv_lload hx hb dX9_doubted_181 (lv_at hl 11 rfl) ?_
        refine lv_goto (tgt := 187) hx hb dX9_doubted_183 (by decide) ?_
        exact pX9_doubted_187 X K52 xs l6 l9 l11 l7 l13 H locs ls h hH (lv_sub hl [0, 1, 2, 3, 4, 5, 6, 8, 9] rfl)
    · have h := ie_x h c6
      refine lv_lload hx hb dX9_doubted_145 (lv_at hl 11 rfl) ?_
      refine lv_iload hx hb dX9_doubted_147 (lv_at hl 9 rfl) ?_
      refine lv_iload hx hb dX9_doubted_149 (lv_at hl 12 rfl) ?_
      obtain ⟨o4, ho4, h⟩ := bd_x h
      refine r_S X hH (ws1 := (wX9 g a i xs)) (As := [.int l11, .int l15]) (rest := [.long l13]) (st1 := [.int o4, .long l13]) (uX9_has  ho4) kX9_has mX9_226 sX9_has zX9 okX9_has ⟨Nat.le_of_ble_eq_true rfl, Nat.le_of_ble_eq_true rfl⟩ rfl rfl (pm_none _) (pm_none _) rfl hl.1 rfl (Nat.le_of_ble_eq_true rfl) ⟨Nat.le_refl 0, Nat.le_refl 0⟩ rfl dX9_doubted_151 (fun H locs hH => ?_)
      refine lv_if_eq (tgt := 164) hx hb dX9_doubted_154 (by decide) (fun c8 => ?_) (fun c8 => ?_)
      · have h := it_x h c8
        refine lv_lconst (v := (1 : Int64)) hx hb dX9_doubted_164 (by decide) ?_
        exact pX9_doubted_165 X ih xs l6 l7 l9 l11 l12 l15 l13 (1 : Int64) H locs ls h hH (lv_sub hl [0, 1, 2, 3, 4, 5, 6, 7, 8, 9, 10, 12] rfl)
      · have h := ie_x h c8
        refine lv_iload_n hx hb dX9_doubted_157 rfl (lv_at hl 3 rfl) ?_
        refine lv_iconst (v := (1 : Int32)) hx hb dX9_doubted_158 (by decide) ?_
        refine lv_isub hx hb dX9_doubted_159 ?_
        refine lv_i2l hx hb dX9_doubted_160 rfl ?_
        refine lv_goto (tgt := 165) hx hb dX9_doubted_161 (by decide) ?_
        exact pX9_doubted_165 X ih xs l6 l7 l9 l11 l12 l15 l13 ((pc_ - (1 : Int32)).toInt64) H locs ls h hH (lv_sub hl [0, 1, 2, 3, 4, 5, 6, 7, 8, 9, 10, 12] rfl)
set_option maxHeartbeats 4000000 in
set_option maxRecDepth 100000 in
theorem pX9_doubted_130 {p : Program} {l : Launch} {e : Env} {s : State} {m : MethodId} {args : Array Value} {below : List Frame} {meth : Method} {c : Code} {g : GG} {w0 : va_W} {a : Nat → Nat} {i : Nat} {pa : Int32} {pb : Int32} {pc_ : Int32} {pd : Int32} {pe : Int32} {o : (Int64 × SX9)} (X : mX g yX9_doubted cX9_doubted 16 (some .long) p s m args meth c w0)
  {k52 : SX9 → Int32 → Int64 → Int64 → Int32 → Option (Int64 × SX9)} (K52 : ∀ (xs : SX9) (l6 : Int32) (l7 : Int64) (l9 : Int64) (l11 : Int32) (H : Heap) (locs : List Loc) (ls : Array Slot), k52 xs l6 l7 l9 l11 = some o → mH g s w0 (wX9 g a i xs) H locs → lv_has ls 16 [(0, .ref (a i)), (1, .int pa), (2, .int pb), (3, .int pc_), (4, .int pd), (5, .int pe), (6, .int l6), (7, .long l7), (9, .long l9), (11, .int l11)] → W p l e (rM 5 117) s m args below meth c H locs 0 0 (mZ g below args s w0 (wX9 g a i o.2) (some (.long o.1))) (F0 m 52 ls [])) :
  ∀ (xs : SX9) (l6 : Int32) (l7 : Int64) (l9 : Int64) (l11 : Int32) (t0 : Int32) (H : Heap) (locs : List Loc) (ls : Array Slot), qX9_doubted_130 pa pb pc_ pd pe k52 xs l6 l7 l9 l11 t0 = some o → mH g s w0 (wX9 g a i xs) H locs → lv_has ls 16 [(0, .ref (a i)), (1, .int pa), (2, .int pb), (3, .int pc_), (4, .int pd), (5, .int pe), (6, .int l6), (7, .long l7), (9, .long l9), (11, .int l11)] → W p l e (rM 5 117) s m args below meth c H locs 0 0 (mZ g below args s w0 (wX9 g a i o.2) (some (.long o.1))) (F0 m 130 ls [.int t0]) := by
  have hx := X.1
  have hb := X.2.1
  intro xs l6 l7 l9 l11 t0 H locs ls h hH hl
  unfold qX9_doubted_130 at h
  refine s_i X (lv' := [(12, .int t0), (0, .ref (a i)), (1, .int pa), (2, .int pb), (3, .int pc_), (4, .int pd), (5, .int pe), (6, .int l6), (7, .long l7), (9, .long l9), (11, .int l11)]) hl rfl dX9_doubted_130 (by decide) rfl (fun ls hl => ?_)
  refine lv_lconst (v := (1 : Int64)) hx hb dX9_doubted_132 (by decide) ?_
  refine s_l X (lv' := [(13, .long (1 : Int64)), (12, .int t0), (0, .ref (a i)), (1, .int pa), (2, .int pb), (3, .int pc_), (4, .int pd), (5, .int pe), (6, .int l6), (7, .long l7), (9, .long l9), (11, .int l11)]) hl rfl dX9_doubted_133 (by decide) rfl (fun ls hl => ?_)
  refine lv_iconst (v := (0 : Int32)) hx hb dX9_doubted_135 (by decide) ?_
  refine s_i X (lv' := [(15, .int (0 : Int32)), (13, .long (1 : Int64)), (12, .int t0), (0, .ref (a i)), (1, .int pa), (2, .int pb), (3, .int pc_), (4, .int pd), (5, .int pe), (6, .int l6), (7, .long l7), (9, .long l9), (11, .int l11)]) hl rfl dX9_doubted_136 (by decide) rfl (fun ls hl => ?_)
  exact pX9_doubted_138 X K52 FU xs l6 l7 l9 l11 t0 (1 : Int64) (0 : Int32) H locs ls h hH (lv_sub hl [3, 4, 5, 6, 7, 8, 9, 10, 11, 12, 2, 1, 0] rfl)
set_option maxHeartbeats 4000000 in
set_option maxRecDepth 100000 in
theorem pX9_doubted_52 {p : Program} {l : Launch} {e : Env} {s : State} {m : MethodId} {args : Array Value} {below : List Frame} {meth : Method} {c : Code} {g : GG} {w0 : va_W} {a : Nat → Nat} {i : Nat} {pa : Int32} {pb : Int32} {pc_ : Int32} {pd : Int32} {pe : Int32} {o : (Int64 × SX9)} (X : mX g yX9_doubted cX9_doubted 16 (some .long) p s m args meth c w0) :
  ∀ (fu : Nat) (xs : SX9) (l6 : Int32) (l7 : Int64) (l9 : Int64) (l11 : Int32) (H : Heap) (locs : List Loc) (ls : Array Slot), qX9_doubted_52 pa pb pc_ pd pe fu xs l6 l7 l9 l11 = some o → mH g s w0 (wX9 g a i xs) H locs → lv_has ls 16 [(0, .ref (a i)), (1, .int pa), (2, .int pb), (3, .int pc_), (4, .int pd), (5, .int pe), (6, .int l6), (7, .long l7), (9, .long l9), (11, .int l11)] → W p l e (rM 5 117) s m args below meth c H locs 0 0 (mZ g below args s w0 (wX9 g a i o.2) (some (.long o.1))) (F0 m 52 ls []) := by
  have hx := X.1
  have hb := X.2.1
  intro fu
  induction fu with
  | zero =>
    intro xs l6 l7 l9 l11 H locs ls h
    unfold qX9_doubted_52 at h
    cases h
  | succ fu ih =>
    intro xs l6 l7 l9 l11 H locs ls h hH hl
    unfold qX9_doubted_52 at h
    refine lv_iload hx hb dX9_doubted_52 (lv_at hl 9 rfl) ?_
    refine lv_iconst (v := (1 : Int32)) hx hb dX9_doubted_54 (by decide) ?_
    refine lv_iload hx hb dX9_doubted_55 (lv_at hl 6 rfl) ?_
    refine lv_ishl hx hb dX9_doubted_57 ?_
    refine lv_icmp_ge (tgt := 196) hx hb dX9_doubted_58 (by decide) (fun c3 => ?_) (fun c3 => ?_)
    · have h := it_x h c3
      refine lv_lload hx hb dX9_doubted_196 (lv_at hl 7 rfl) ?_
      refine lv_lload hx hb dX9_doubted_198 (lv_at hl 8 rfl) ?_
      refine lv_iload hx hb dX9_doubted_200 (lv_at hl 5 rfl) ?_
      obtain ⟨o1, ho1, h⟩ := bd_x h
      refine r_S X hH (ws1 := (wX9 g a i xs)) (As := [.long l7, .long l9, .int pe]) (rest := []) (st1 := [.long o1]) (uX9_partOf  ho1) kX9_partOf mX9_279 sX9_partOf zX9 okX9_partOf ⟨Nat.le_of_ble_eq_true rfl, Nat.le_of_ble_eq_true rfl⟩ rfl rfl (pm_none _) (pm_none _) rfl hl.1 rfl (Nat.le_of_ble_eq_true rfl) ⟨Nat.le_refl 0, Nat.le_refl 0⟩ rfl dX9_doubted_202 (fun H locs hH => ?_)
      have h := Option.some.inj h
      subst h
      exact e_l X hH dX9_doubted_205
    · have h := ie_x h c3
      refine lv_aload_n hx hb dX9_doubted_61 rfl (lv_at hl 0 rfl) ?_
      obtain ⟨o2, ho2, h⟩ := bd_x h
      refine r_V X hH (ws1 := (wX9 g a i o2)) (As := []) (rest := []) (st1 := []) (uX9_allThere (a := a) (i := i) ho2) kX9_allThere mX9_230 iX9_allThere vX9_allThere zX9 okX9_allThere ⟨Nat.le_of_ble_eq_true rfl, Nat.le_of_ble_eq_true rfl⟩ rfl rfl (q0 := 0) rfl rfl (pm_all _) (pm_all _) rfl hl.1 rfl (Nat.le_of_ble_eq_true rfl) ⟨Nat.le_refl 0, Nat.le_refl 0⟩ rfl dX9_doubted_62 (fun H locs hH => ?_)
      refine lv_aload_n hx hb dX9_doubted_65 rfl (lv_at hl 0 rfl) ?_
      refine lv_aload_n hx hb dX9_doubted_66 rfl (lv_at hl 0 rfl) ?_
      refine f_get X hH 0 rfl rfl 19 (by decide) inX9 fX9_223 rfl dX9_doubted_67 ?_
      refine lv_iload hx hb dX9_doubted_70 (lv_at hl 6 rfl) ?_
      refine lv_ishr hx hb dX9_doubted_72 ?_
      refine lv_iload hx hb dX9_doubted_73 (lv_at hl 6 rfl) ?_
      refine lv_ishl hx hb dX9_doubted_75 ?_
      refine lv_iload hx hb dX9_doubted_76 (lv_at hl 9 rfl) ?_
      refine lv_ior hx hb dX9_doubted_78 ?_
      obtain ⟨v1, ev1, h⟩ := ltt_x h
      refine lv_topi (fun y0 e0 => ?_)
      rw [← ev1] at e0
      subst y0
      obtain ⟨xs1, exs1, h⟩ := ltt_x h
      refine f_put X hH (ws1 := (wX9 g a i xs1)) 0 rfl rfl 19 (by decide) inX9 tyX9 tyX9_ok nmX9 fX9_223 rfl rfl rfl (Nat.le_of_ble_eq_true rfl) (by rw [exs1]; rfl) dX9_doubted_79 (fun H locs hH => ?_)
      refine lv_iload hx hb dX9_doubted_82 (lv_at hl 4 rfl) ?_
      refine lv_if_ge (tgt := 99) hx hb dX9_doubted_84 (by decide) (fun c4 => ?_) (fun c4 => ?_)
      · have h := it_x h c4
        refine lv_aload_n hx hb dX9_doubted_99 rfl (lv_at hl 0 rfl) ?_
        refine lv_iload_n hx hb dX9_doubted_100 rfl (lv_at hl 1 rfl) ?_
        refine lv_iload_n hx hb dX9_doubted_101 rfl (lv_at hl 2 rfl) ?_
        refine lv_iconst (v := (0 : Int32)) hx hb dX9_doubted_102 (by decide) ?_
        obtain ⟨o3, ho3, h⟩ := bd_x h
        refine r_V X hH (ws1 := (wX9 g a i o3.2)) (As := [.int pa, .int pb, .int (0 : Int32)]) (rest := []) (st1 := [.int o3.1]) (uX9_findTime (a := a) (i := i) ho3) kX9_findTime mX9_275 iX9_findTime vX9_findTime zX9 okX9_findTime ⟨Nat.le_of_ble_eq_true rfl, Nat.le_of_ble_eq_true rfl⟩ rfl rfl (q0 := 0) rfl rfl (pm_all _) (pm_all _) rfl hl.1 rfl (Nat.le_of_ble_eq_true rfl) ⟨Nat.le_refl 0, Nat.le_refl 0⟩ rfl dX9_doubted_103 (fun H locs hH => ?_)
        refine lv_if_eq (tgt := 129) hx hb dX9_doubted_106 (by decide) (fun c5 => ?_) (fun c5 => ?_)
        · have h := it_x h c5
          exact pX9_doubted_129 X (pX9_doubted_130 X ih) o3.2 l6 l7 l9 l11 H locs ls h hH (lv_sub hl [0, 1, 2, 3, 4, 5, 6, 7, 8, 9] rfl)
        · have h := ie_x h c5
          refine lv_aload_n hx hb dX9_doubted_109 rfl (lv_at hl 0 rfl) ?_
          refine f_get X hH 0 rfl rfl 26 (by decide) inX9 fX9_248 rfl dX9_doubted_110 ?_
          refine lv_iload hx hb dX9_doubted_113 (lv_at hl 4 rfl) ?_
          refine lv_i2l hx hb dX9_doubted_115 rfl ?_
          refine lv_aload_n hx hb dX9_doubted_116 rfl (lv_at hl 0 rfl) ?_
          refine f_get X hH 0 rfl rfl 27 (by decide) inX9 fX9_252 rfl dX9_doubted_117 ?_
          refine lv_lmul hx hb dX9_doubted_120 ?_
          refine W.lcmp hx hb dX9_doubted_121 ?_
          refine lv_if_gt (tgt := 129) hx hb dX9_doubted_122 (by decide) (fun c9 => ?_) (fun c9 => ?_)
          · have h := it_x h ((lg_cmp_gt (m_up o3.2) ((pd.toInt64) * (m_down o3.2))).mp c9)
            exact pX9_doubted_129 X (pX9_doubted_130 X ih) o3.2 l6 l7 l9 l11 H locs ls h hH (lv_sub hl [0, 1, 2, 3, 4, 5, 6, 7, 8, 9] rfl)
          · have h := ie_x h (mt (lg_cmp_gt (m_up o3.2) ((pd.toInt64) * (m_down o3.2))).mpr c9)
            refine lv_iconst (v := (1 : Int32)) hx hb dX9_doubted_125 (by decide) ?_
            refine lv_goto (tgt := 130) hx hb dX9_doubted_126 (by decide) ?_
            exact pX9_doubted_130 X ih o3.2 l6 l7 l9 l11 (1 : Int32) H locs ls h hH (lv_sub hl [0, 1, 2, 3, 4, 5, 6, 7, 8, 9] rfl)
      · have h := ie_x h c4
        refine lv_aload_n hx hb dX9_doubted_87 rfl (lv_at hl 0 rfl) ?_
        refine lv_iload_n hx hb dX9_doubted_88 rfl (lv_at hl 1 rfl) ?_
        obtain ⟨o5, ho5, h⟩ := bd_x h
        refine r_V X hH (ws1 := (wX9 g a i xs1)) (As := [.int pa]) (rest := []) (st1 := [.int o5]) (uX9_reach (a := a) (i := i) ho5) kX9_reach mX9_233 iX9_reach vX9_reach zX9 okX9_reach ⟨Nat.le_of_ble_eq_true rfl, Nat.le_of_ble_eq_true rfl⟩ rfl rfl (q0 := 0) rfl rfl (pm_all _) (pm_all _) rfl hl.1 rfl (Nat.le_of_ble_eq_true rfl) ⟨Nat.le_refl 0, Nat.le_refl 0⟩ rfl dX9_doubted_89 (fun H locs hH => ?_)
        refine lv_iload_n hx hb dX9_doubted_92 rfl (lv_at hl 2 rfl) ?_
        obtain ⟨o6, ho6, h⟩ := bd_x h
        refine r_S X hH (ws1 := (wX9 g a i xs1)) (As := [.int o5, .int pb]) (rest := []) (st1 := [.int o6]) (uX9_has  ho6) kX9_has mX9_226 sX9_has zX9 okX9_has ⟨Nat.le_of_ble_eq_true rfl, Nat.le_of_ble_eq_true rfl⟩ rfl rfl (pm_none _) (pm_none _) rfl hl.1 rfl (Nat.le_of_ble_eq_true rfl) ⟨Nat.le_refl 0, Nat.le_refl 0⟩ rfl dX9_doubted_93 (fun H locs hH => ?_)
        refine lv_goto (tgt := 130) hx hb dX9_doubted_96 (by decide) ?_
        exact pX9_doubted_130 X ih xs1 l6 l7 l9 l11 o6 H locs ls h hH (lv_sub hl [0, 1, 2, 3, 4, 5, 6, 7, 8, 9] rfl)
set_option maxHeartbeats 4000000 in
set_option maxRecDepth 100000 in
theorem pX9_doubted_29 {p : Program} {l : Launch} {e : Env} {s : State} {m : MethodId} {args : Array Value} {below : List Frame} {meth : Method} {c : Code} {g : GG} {w0 : va_W} {a : Nat → Nat} {i : Nat} {pa : Int32} {pb : Int32} {pc_ : Int32} {pd : Int32} {pe : Int32} {o : (Int64 × SX9)} (X : mX g yX9_doubted cX9_doubted 16 (some .long) p s m args meth c w0) :
  ∀ (fu : Nat) (xs : SX9) (l6 : Int32) (l7 : Int64) (l9 : Int64) (l11 : Int32) (H : Heap) (locs : List Loc) (ls : Array Slot), qX9_doubted_29 pa pb pc_ pd pe fu xs l6 l7 l9 l11 = some o → mH g s w0 (wX9 g a i xs) H locs → lv_has ls 16 [(0, .ref (a i)), (1, .int pa), (2, .int pb), (3, .int pc_), (4, .int pd), (5, .int pe), (6, .int l6), (7, .long l7), (9, .long l9), (11, .int l11)] → W p l e (rM 5 117) s m args below meth c H locs 0 0 (mZ g below args s w0 (wX9 g a i o.2) (some (.long o.1))) (F0 m 29 ls []) := by
  have hx := X.1
  have hb := X.2.1
  intro fu
  induction fu with
  | zero =>
    intro xs l6 l7 l9 l11 H locs ls h
    unfold qX9_doubted_29 at h
    cases h
  | succ fu ih =>
    intro xs l6 l7 l9 l11 H locs ls h hH hl
    unfold qX9_doubted_29 at h
    refine lv_iload hx hb dX9_doubted_29 (lv_at hl 9 rfl) ?_
    refine lv_iload hx hb dX9_doubted_31 (lv_at hl 6 rfl) ?_
    refine lv_icmp_ge (tgt := 49) hx hb dX9_doubted_33 (by decide) (fun c2 => ?_) (fun c2 => ?_)
    · have h := it_x h c2
      refine lv_iconst (v := (0 : Int32)) hx hb dX9_doubted_49 (by decide) ?_
      refine s_i X (lv' := [(11, .int (0 : Int32)), (0, .ref (a i)), (1, .int pa), (2, .int pb), (3, .int pc_), (4, .int pd), (5, .int pe), (6, .int l6), (7, .long l7), (9, .long l9)]) hl rfl dX9_doubted_50 (by decide) rfl (fun ls hl => ?_)
      exact pX9_doubted_52 X FU xs l6 l7 l9 (0 : Int32) H locs ls h hH (lv_sub hl [1, 2, 3, 4, 5, 6, 7, 8, 9, 0] rfl)
    · have h := ie_x h c2
      refine lv_lload hx hb dX9_doubted_36 (lv_at hl 8 rfl) ?_
      refine lv_iload_n hx hb dX9_doubted_38 rfl (lv_at hl 3 rfl) ?_
      refine lv_i2l hx hb dX9_doubted_39 rfl ?_
      refine lv_lmul hx hb dX9_doubted_40 ?_
      obtain ⟨v6, ev6, h⟩ := ltt_x h
      refine s_l X (lv' := [(9, .long v6), (0, .ref (a i)), (1, .int pa), (2, .int pb), (3, .int pc_), (4, .int pd), (5, .int pe), (6, .int l6), (7, .long l7), (11, .int l11)]) hl ev6 dX9_doubted_41 (by decide) rfl (fun ls hl => ?_)
      obtain ⟨v7, ev7, h⟩ := ltt_x h
      refine s_inc X (k := 9) (lv' := [(11, .int v7), (9, .long v6), (0, .ref (a i)), (1, .int pa), (2, .int pb), (3, .int pc_), (4, .int pd), (5, .int pe), (6, .int l6), (7, .long l7)]) hl rfl (by rw [ev7]; rfl) dX9_doubted_43 (by decide) rfl (fun ls hl => ?_)
      refine lv_goto (tgt := 29) hx hb dX9_doubted_46 (by decide) ?_
      exact ih xs l6 l7 v6 v7 H locs ls h hH (lv_sub hl [2, 3, 4, 5, 6, 7, 8, 9, 1, 0] rfl)
set_option maxHeartbeats 4000000 in
set_option maxRecDepth 100000 in
theorem pX9_doubted_18 {p : Program} {l : Launch} {e : Env} {s : State} {m : MethodId} {args : Array Value} {below : List Frame} {meth : Method} {c : Code} {g : GG} {w0 : va_W} {a : Nat → Nat} {i : Nat} {pa : Int32} {pb : Int32} {pc_ : Int32} {pd : Int32} {pe : Int32} {o : (Int64 × SX9)} (X : mX g yX9_doubted cX9_doubted 16 (some .long) p s m args meth c w0) :
  ∀ (xs : SX9) (t0 : Int32) (H : Heap) (locs : List Loc) (ls : Array Slot), qX9_doubted_18 pa pb pc_ pd pe xs t0 = some o → mH g s w0 (wX9 g a i xs) H locs → lv_has ls 16 [(0, .ref (a i)), (1, .int pa), (2, .int pb), (3, .int pc_), (4, .int pd), (5, .int pe)] → W p l e (rM 5 117) s m args below meth c H locs 0 0 (mZ g below args s w0 (wX9 g a i o.2) (some (.long o.1))) (F0 m 18 ls [.int t0]) := by
  have hx := X.1
  have hb := X.2.1
  intro xs t0 H locs ls h hH hl
  unfold qX9_doubted_18 at h
  refine s_i X (lv' := [(6, .int t0), (0, .ref (a i)), (1, .int pa), (2, .int pb), (3, .int pc_), (4, .int pd), (5, .int pe)]) hl rfl dX9_doubted_18 (by decide) rfl (fun ls hl => ?_)
  refine lv_lconst (v := (0 : Int64)) hx hb dX9_doubted_20 (by decide) ?_
  refine s_l X (lv' := [(7, .long (0 : Int64)), (6, .int t0), (0, .ref (a i)), (1, .int pa), (2, .int pb), (3, .int pc_), (4, .int pd), (5, .int pe)]) hl rfl dX9_doubted_21 (by decide) rfl (fun ls hl => ?_)
  refine lv_lconst (v := (1 : Int64)) hx hb dX9_doubted_23 (by decide) ?_
  refine s_l X (lv' := [(9, .long (1 : Int64)), (7, .long (0 : Int64)), (6, .int t0), (0, .ref (a i)), (1, .int pa), (2, .int pb), (3, .int pc_), (4, .int pd), (5, .int pe)]) hl rfl dX9_doubted_24 (by decide) rfl (fun ls hl => ?_)
  refine lv_iconst (v := (0 : Int32)) hx hb dX9_doubted_26 (by decide) ?_
  refine s_i X (lv' := [(11, .int (0 : Int32)), (9, .long (1 : Int64)), (7, .long (0 : Int64)), (6, .int t0), (0, .ref (a i)), (1, .int pa), (2, .int pb), (3, .int pc_), (4, .int pd), (5, .int pe)]) hl rfl dX9_doubted_27 (by decide) rfl (fun ls hl => ?_)
  exact pX9_doubted_29 X FU xs t0 (0 : Int64) (1 : Int64) (0 : Int32) H locs ls h hH (lv_sub hl [4, 5, 6, 7, 8, 9, 3, 2, 1, 0] rfl)
set_option maxHeartbeats 4000000 in
set_option maxRecDepth 100000 in
theorem uX9_doubted {l : Launch} {g : GG} {a : Nat → Nat} {i : Nat} {xs : SX9} {pa : Int32} {pb : Int32} {pc_ : Int32} {pd : Int32} {pe : Int32} {o : (Int64 × SX9)} (h : fX9_doubted xs pa pb pc_ pd pe = some o) : mC l g yX9_doubted cX9_doubted 16 (some .long) (rM 5 117) [.ref (a i), .int pa, .int pb, .int pc_, .int pd, .int pe] (wX9 g a i xs) (wX9 g a i o.2) (some (.long o.1)) := by
  refine mC.ofW (by decide) (fun p e s m below meth c X hH ls _ hl => ?_) (Nat.le_of_ble_eq_true rfl)
  have hx := X.1
  have hb := X.2.1
  have hl : lv_has ls 16 [(0, .ref (a i)), (1, .int pa), (2, .int pb), (3, .int pc_), (4, .int pd), (5, .int pe)] := hl
  unfold fX9_doubted at h
  suffices HH : ∀ (H : Heap) (locs : List Loc), mH g s (wX9 g a i xs) (wX9 g a i xs) H locs → W p l e (rM 5 117) s m _ below meth c H locs 0 0 (mZ g below _ s (wX9 g a i xs) (wX9 g a i o.2) (some (.long o.1))) (F0 m 0 ls []) from HH _ _ hH
  clear hH
  intro H locs hH
  refine lv_aload_n hx hb dX9_doubted_0 rfl (lv_at hl 0 rfl) ?_
  refine f_get X hH 0 rfl rfl 1 (by decide) inX9 fX9_120 rfl dX9_doubted_1 ?_
  refine lv_bipush (v := (6 : Int32)) hx hb dX9_doubted_4 (by decide) ?_
  refine lv_icmp_ge (tgt := 16) hx hb dX9_doubted_6 (by decide) (fun c1 => ?_) (fun c1 => ?_)
  · have h := it_x h c1
    refine lv_bipush (v := (6 : Int32)) hx hb dX9_doubted_16 (by decide) ?_
    exact pX9_doubted_18 X  xs (6 : Int32) H locs ls h hH (lv_sub hl [0, 1, 2, 3, 4, 5] rfl)
  · have h := ie_x h c1
    refine lv_aload_n hx hb dX9_doubted_9 rfl (lv_at hl 0 rfl) ?_
    refine f_get X hH 0 rfl rfl 1 (by decide) inX9 fX9_120 rfl dX9_doubted_10 ?_
    refine lv_goto (tgt := 18) hx hb dX9_doubted_13 (by decide) ?_
    exact pX9_doubted_18 X  xs (m_many xs) H locs ls h hH (lv_sub hl [0, 1, 2, 3, 4, 5] rfl)
