def qX0_nothingIsDue_2   : Nat → SX0 → Int32 → Option SX0
  | 0, _, _ => none
  | fu + 1, xs, l1 =>
  (if (6 : Int32) ≤ l1 then
  some xs
  else
  ga 6 l1 fun j1 =>
  ltt ((eq_due_s xs (vp_updL (eq_due xs) j1 (0 : Int64)))) fun xs1 =>
  ltt (l1 + (1 : Int32)) fun v1 =>
  qX0_nothingIsDue_2  fu xs1 v1)
def fX0_nothingIsDue (xs : SX0) : Option SX0 :=
  qX0_nothingIsDue_2 FU xs (0 : Int32)
set_option maxHeartbeats 4000000 in
set_option maxRecDepth 100000 in
theorem pX0_nothingIsDue_2 {p : Program} {l : Launch} {e : Env} {s : State} {m : MethodId} {args : Array Value} {below : List Frame} {meth : Method} {c : Code} {g : GG} {w0 : va_W} {a : Nat → Nat} {i : Nat}  {o : SX0} (X : mX g yX0_nothingIsDue cX0_nothingIsDue 2 none p s m args meth c w0) :
  ∀ (fu : Nat) (xs : SX0) (l1 : Int32) (H : Heap) (locs : List Loc) (ls : Array Slot), qX0_nothingIsDue_2 fu xs l1 = some o → mH g s w0 (wX0 g a i xs) H locs → lv_has ls 2 [(0, .ref (a i)), (1, .int l1)] → W p l e (rM 0 0) s m args below meth c H locs 0 0 (mZ g below args s w0 (wX0 g a i o) none) (F0 m 2 ls []) := by
  have hx := X.1
  have hb := X.2.1
  intro fu
  induction fu with
  | zero =>
    intro xs l1 H locs ls h
    unfold qX0_nothingIsDue_2 at h
    cases h
  | succ fu ih =>
    intro xs l1 H locs ls h hH hl
    unfold qX0_nothingIsDue_2 at h
    refine lv_iload_n hx hb dX0_nothingIsDue_2 rfl (lv_at hl 1 rfl) ?_
    refine lv_bipush (v := (6 : Int32)) hx hb dX0_nothingIsDue_3 (by decide) ?_
    refine lv_icmp_ge (tgt := 21) hx hb dX0_nothingIsDue_5 (by decide) (fun c1 => ?_) (fun c1 => ?_)
    · have h := it_x h c1
      have h := Option.some.inj h
      subst h
      exact e_v X hH dX0_nothingIsDue_21
    · have h := ie_x h c1
      refine lv_aload_n hx hb dX0_nothingIsDue_8 rfl (lv_at hl 0 rfl) ?_
      refine f_get X hH 0 rfl rfl 4 (by decide) inX0 fX0_28 rfl dX0_nothingIsDue_9 ?_
      refine lv_iload_n hx hb dX0_nothingIsDue_12 rfl (lv_at hl 1 rfl) ?_
      refine lv_lconst (v := (0 : Int64)) hx hb dX0_nothingIsDue_13 (by decide) ?_
      obtain ⟨j1, ej1, hinj1, h⟩ := ga_x h
      obtain ⟨xs1, exs1, h⟩ := ltt_x h
      refine a_ls X hH (ws1 := (wX0 g a i xs1)) 10 rfl hinj1 ej1 (by rw [exs1]; rfl) dX0_nothingIsDue_14 (fun H locs hH => ?_)
      obtain ⟨v1, ev1, h⟩ := ltt_x h
      refine s_inc X (k := 1) (lv' := [(1, .int v1), (0, .ref (a i))]) hl rfl (by rw [ev1]; rfl) dX0_nothingIsDue_15 (by decide) rfl (fun ls hl => ?_)
      refine lv_goto (tgt := 2) hx hb dX0_nothingIsDue_18 (by decide) ?_
      exact ih xs1 v1 H locs ls h hH (lv_sub hl [1, 0] rfl)
set_option maxHeartbeats 4000000 in
set_option maxRecDepth 100000 in
theorem uX0_nothingIsDue {l : Launch} {g : GG} {a : Nat → Nat} {i : Nat} {xs : SX0} {o : SX0} (h : fX0_nothingIsDue xs = some o) : mC l g yX0_nothingIsDue cX0_nothingIsDue 2 none (rM 0 0) [.ref (a i)] (wX0 g a i xs) (wX0 g a i o) none := by
  refine mC.ofW (by decide) (fun p e s m below meth c X hH ls _ hl => ?_) (Nat.le_of_ble_eq_true rfl)
  have hx := X.1
  have hb := X.2.1
  have hl : lv_has ls 2 [(0, .ref (a i))] := hl
  unfold fX0_nothingIsDue at h
  suffices HH : ∀ (H : Heap) (locs : List Loc), mH g s (wX0 g a i xs) (wX0 g a i xs) H locs → W p l e (rM 0 0) s m _ below meth c H locs 0 0 (mZ g below _ s (wX0 g a i xs) (wX0 g a i o) none) (F0 m 0 ls []) from HH _ _ hH
  clear hH
  intro H locs hH
  refine lv_iconst (v := (0 : Int32)) hx hb dX0_nothingIsDue_0 (by decide) ?_
  refine s_in X (lv' := [(1, .int (0 : Int32)), (0, .ref (a i))]) hl rfl dX0_nothingIsDue_1 rfl (by decide) rfl (fun ls hl => ?_)
  exact pX0_nothingIsDue_2 X FU xs (0 : Int32) H locs ls h hH (lv_sub hl [1, 0] rfl)

def fX8_has (pa : Int32) (pb : Int32) : Option Int32 :=
  (if ((pa >>> (pb &&& 31)) &&& (1 : Int32)) = (1 : Int32) then
  some (1 : Int32)
  else
  some (0 : Int32))
set_option maxHeartbeats 4000000 in
set_option maxRecDepth 100000 in
theorem uX8_has {l : Launch} {g : GG}  {pa : Int32} {pb : Int32} {o : Int32} (h : fX8_has pa pb = some o) : mC l g yX8_has cX8_has 2 (some .boolean) (rM 0 0) [.int pa, .int pb] [] [] (some (.int o)) := by
  refine mC.ofW (by decide) (fun p e s m below meth c X hH ls _ hl => ?_) (Nat.le_of_ble_eq_true rfl)
  have hx := X.1
  have hb := X.2.1
  have hl : lv_has ls 2 [(0, .int pa), (1, .int pb)] := hl
  unfold fX8_has at h
  suffices HH : ∀ (H : Heap) (locs : List Loc), mH g s [] [] H locs → W p l e (rM 0 0) s m _ below meth c H locs 0 0 (mZ g below _ s [] [] (some (.int o))) (F0 m 0 ls []) from HH _ _ hH
  clear hH
  intro H locs hH
  refine lv_iload_n hx hb dX8_has_0 rfl (lv_at hl 0 rfl) ?_
  refine lv_iload_n hx hb dX8_has_1 rfl (lv_at hl 1 rfl) ?_
  refine lv_ishr hx hb dX8_has_2 ?_
  refine lv_iconst (v := (1 : Int32)) hx hb dX8_has_3 (by decide) ?_
  refine lv_iand hx hb dX8_has_4 ?_
  refine lv_iconst (v := (1 : Int32)) hx hb dX8_has_5 (by decide) ?_
  refine lv_icmp_ne (tgt := 13) hx hb dX8_has_6 (by decide) (fun c1 => ?_) (fun c1 => ?_)
  · have h := ie_x h c1
    refine lv_iconst (v := (0 : Int32)) hx hb dX8_has_13 (by decide) ?_
    have h := Option.some.inj h
    subst h
    exact e_z X hH (Or.inl rfl) dX8_has_14
  · have h := it_x h c1
    refine lv_iconst (v := (1 : Int32)) hx hb dX8_has_9 (by decide) ?_
    refine lv_goto (tgt := 14) hx hb dX8_has_10 (by decide) ?_
    have h := Option.some.inj h
    subst h
    exact e_z X hH (Or.inr rfl) dX8_has_14

def qX3_reached_80 (xs : SX3) (pa : Int32) (pb : Int32) (k29 : Int32 → Int32 → Int32 → Int32 → Option Int32) (l3 : Int32) (l4 : Int32) (l5 : Int32) (l6 : Int32) : Option Int32 :=
  ltt (l6 + (1 : Int32)) fun v3 =>
  k29 l3 l4 l5 v3
def qX3_reached_29 (xs : SX3) (pa : Int32) (pb : Int32) (k8 : Int32 → Int32 → Int32 → Option Int32) : Nat → Int32 → Int32 → Int32 → Int32 → Option Int32
  | 0, _, _, _, _ => none
  | fu + 1, l3, l4, l5, l6 =>
  (if (n_ways xs) ≤ l6 then
  ltt (l5 + (1 : Int32)) fun v1 =>
  k8 l3 l4 v1
  else
  ga 11 l6 fun j1 =>
  ga 11 l6 fun j2 =>
  ltt ((((1 : Int32) <<< (((n_first xs) j1) &&& 31)) ||| ((1 : Int32) <<< (((n_second xs) j2) &&& 31)))) fun v2 =>
  (fX8_has pb l6).bind fun o1 =>
  (if o1 = (0 : Int32) then
  qX3_reached_80 xs pa pb (qX3_reached_29 xs pa pb k8 fu) l3 l4 l5 l6
  else
  (if (l3 &&& v2) = (0 : Int32) then
  qX3_reached_80 xs pa pb (qX3_reached_29 xs pa pb k8 fu) l3 l4 l5 l6
  else
  ltt ((l3 ||| v2)) fun v4 =>
  qX3_reached_80 xs pa pb (qX3_reached_29 xs pa pb k8 fu) v4 l4 l5 l6)))
def qX3_reached_8 (xs : SX3) (pa : Int32) (pb : Int32)  : Nat → Int32 → Int32 → Int32 → Option Int32
  | 0, _, _, _ => none
  | fu + 1, l3, l4, l5 =>
  (if (n_points xs) ≤ l5 then
  some l3
  else
  (if l3 = l4 then
  some l3
  else
  qX3_reached_29 xs pa pb (qX3_reached_8 xs pa pb  fu) FU l3 l3 l5 (0 : Int32)))
def fX3_reached (xs : SX3) (pa : Int32) (pb : Int32) : Option Int32 :=
  qX3_reached_8 xs pa pb FU pa (0 : Int32) (1 : Int32)
set_option maxHeartbeats 4000000 in
set_option maxRecDepth 100000 in
theorem pX3_reached_80 {p : Program} {l : Launch} {e : Env} {s : State} {m : MethodId} {args : Array Value} {below : List Frame} {meth : Method} {c : Code} {g : GG} {w0 : va_W} {a : Nat → Nat} {i : Nat} {xs : SX3} {pa : Int32} {pb : Int32} {o : Int32} (X : mX g yX3_reached cX3_reached 8 (some .int) p s m args meth c w0)
  {k29 : Int32 → Int32 → Int32 → Int32 → Option Int32} (K29 : ∀ (l3 : Int32) (l4 : Int32) (l5 : Int32) (l6 : Int32) (H : Heap) (locs : List Loc) (ls : Array Slot), k29 l3 l4 l5 l6 = some o → mH g s w0 (wX3 g a i xs) H locs → lv_has ls 8 [(0, .ref (a i)), (1, .int pa), (2, .int pb), (3, .int l3), (4, .int l4), (5, .int l5), (6, .int l6)] → W p l e (rM 1 21) s m args below meth c H locs 0 0 (mZ g below args s w0 (wX3 g a i xs) (some (.int o))) (F0 m 29 ls [])) :
  ∀ (l3 : Int32) (l4 : Int32) (l5 : Int32) (l6 : Int32) (H : Heap) (locs : List Loc) (ls : Array Slot), qX3_reached_80 xs pa pb k29 l3 l4 l5 l6 = some o → mH g s w0 (wX3 g a i xs) H locs → lv_has ls 8 [(0, .ref (a i)), (1, .int pa), (2, .int pb), (3, .int l3), (4, .int l4), (5, .int l5), (6, .int l6)] → W p l e (rM 1 21) s m args below meth c H locs 0 0 (mZ g below args s w0 (wX3 g a i xs) (some (.int o))) (F0 m 80 ls []) := by
  have hx := X.1
  have hb := X.2.1
  intro l3 l4 l5 l6 H locs ls h hH hl
  unfold qX3_reached_80 at h
  obtain ⟨v3, ev3, h⟩ := ltt_x h
  refine s_inc X (k := 6) (lv' := [(6, .int v3), (0, .ref (a i)), (1, .int pa), (2, .int pb), (3, .int l3), (4, .int l4), (5, .int l5)]) hl rfl (by rw [ev3]; rfl) dX3_reached_80 (by decide) rfl (fun ls hl => ?_)
  refine lv_goto (tgt := 29) hx hb dX3_reached_83 (by decide) ?_
  exact K29 l3 l4 l5 v3 H locs ls h hH (lv_sub hl [1, 2, 3, 4, 5, 6, 0] rfl)
set_option maxHeartbeats 4000000 in
set_option maxRecDepth 100000 in
theorem pX3_reached_29 {p : Program} {l : Launch} {e : Env} {s : State} {m : MethodId} {args : Array Value} {below : List Frame} {meth : Method} {c : Code} {g : GG} {w0 : va_W} {a : Nat → Nat} {i : Nat} {xs : SX3} {pa : Int32} {pb : Int32} {o : Int32} (X : mX g yX3_reached cX3_reached 8 (some .int) p s m args meth c w0)
  {k8 : Int32 → Int32 → Int32 → Option Int32} (K8 : ∀ (l3 : Int32) (l4 : Int32) (l5 : Int32) (H : Heap) (locs : List Loc) (ls : Array Slot), k8 l3 l4 l5 = some o → mH g s w0 (wX3 g a i xs) H locs → lv_has ls 8 [(0, .ref (a i)), (1, .int pa), (2, .int pb), (3, .int l3), (4, .int l4), (5, .int l5)] → W p l e (rM 1 21) s m args below meth c H locs 0 0 (mZ g below args s w0 (wX3 g a i xs) (some (.int o))) (F0 m 8 ls [])) :
  ∀ (fu : Nat) (l3 : Int32) (l4 : Int32) (l5 : Int32) (l6 : Int32) (H : Heap) (locs : List Loc) (ls : Array Slot), qX3_reached_29 xs pa pb k8 fu l3 l4 l5 l6 = some o → mH g s w0 (wX3 g a i xs) H locs → lv_has ls 8 [(0, .ref (a i)), (1, .int pa), (2, .int pb), (3, .int l3), (4, .int l4), (5, .int l5), (6, .int l6)] → W p l e (rM 1 21) s m args below meth c H locs 0 0 (mZ g below args s w0 (wX3 g a i xs) (some (.int o))) (F0 m 29 ls []) := by
  have hx := X.1
  have hb := X.2.1
  intro fu
  induction fu with
  | zero =>
    intro l3 l4 l5 l6 H locs ls h
    unfold qX3_reached_29 at h
    cases h
  | succ fu ih =>
    intro l3 l4 l5 l6 H locs ls h hH hl
    unfold qX3_reached_29 at h
    refine lv_iload hx hb dX3_reached_29 (lv_at hl 6 rfl) ?_
    refine lv_aload_n hx hb dX3_reached_31 rfl (lv_at hl 0 rfl) ?_
    refine f_get X hH 0 rfl rfl 1 (by decide) inX3 fX3_15 rfl dX3_reached_32 ?_
    refine lv_icmp_ge (tgt := 86) hx hb dX3_reached_35 (by decide) (fun c3 => ?_) (fun c3 => ?_)
    · have h := it_x h c3
      obtain ⟨v1, ev1, h⟩ := ltt_x h
      refine s_inc X (k := 5) (lv' := [(5, .int v1), (0, .ref (a i)), (1, .int pa), (2, .int pb), (3, .int l3), (4, .int l4), (6, .int l6)]) hl rfl (by rw [ev1]; rfl) dX3_reached_86 (by decide) rfl (fun ls hl => ?_)
      refine lv_goto (tgt := 8) hx hb dX3_reached_89 (by decide) ?_
      exact K8 l3 l4 v1 H locs ls h hH (lv_sub hl [1, 2, 3, 4, 5, 0] rfl)
    · have h := ie_x h c3
      refine lv_iconst (v := (1 : Int32)) hx hb dX3_reached_38 (by decide) ?_
      refine lv_aload_n hx hb dX3_reached_39 rfl (lv_at hl 0 rfl) ?_
      refine f_get X hH 0 rfl rfl 2 (by decide) inX3 fX3_18 rfl dX3_reached_40 ?_
      refine lv_iload hx hb dX3_reached_43 (lv_at hl 6 rfl) ?_
      obtain ⟨j1, ej1, hinj1, h⟩ := ga_x h
      refine a_il X hH 1 rfl hinj1 ej1 dX3_reached_45 ?_
      refine lv_ishl hx hb dX3_reached_46 ?_
      refine lv_iconst (v := (1 : Int32)) hx hb dX3_reached_47 (by decide) ?_
      refine lv_aload_n hx hb dX3_reached_48 rfl (lv_at hl 0 rfl) ?_
      refine f_get X hH 0 rfl rfl 3 (by decide) inX3 fX3_22 rfl dX3_reached_49 ?_
      refine lv_iload hx hb dX3_reached_52 (lv_at hl 6 rfl) ?_
      obtain ⟨j2, ej2, hinj2, h⟩ := ga_x h
      refine a_il X hH 2 rfl hinj2 ej2 dX3_reached_54 ?_
      refine lv_ishl hx hb dX3_reached_55 ?_
      refine lv_ior hx hb dX3_reached_56 ?_
      obtain ⟨v2, ev2, h⟩ := ltt_x h
      refine s_i X (lv' := [(7, .int v2), (0, .ref (a i)), (1, .int pa), (2, .int pb), (3, .int l3), (4, .int l4), (5, .int l5), (6, .int l6)]) hl ev2 dX3_reached_57 (by decide) rfl (fun ls hl => ?_)
      refine lv_iload_n hx hb dX3_reached_59 rfl (lv_at hl 3 rfl) ?_
      refine lv_iload hx hb dX3_reached_60 (lv_at hl 7 rfl) ?_
      obtain ⟨o1, ho1, h⟩ := bd_x h
      refine r_SN X hH (ws1 := (wX3 g a i xs)) (As := [.int pb, .int l6]) (rest := []) (st1 := [.int o1]) (uX8_has  ho1) kX8_has nnX3_55 sX8_has zX8 okX8_has ⟨Nat.le_of_ble_eq_true rfl, Nat.le_of_ble_eq_true rfl⟩ rfl rfl (pm_none _) (pm_none _) rfl hl.1 rfl (Nat.le_of_ble_eq_true rfl) ⟨Nat.le_refl 0, Nat.le_refl 0⟩ rfl dX3_reached_62 (fun H locs hH => ?_)
      refine lv_if_eq (tgt := 80) hx hb dX3_reached_65 (by decide) (fun c4 => ?_) (fun c4 => ?_)
      · have h := it_x h c4
        exact pX3_reached_80 X ih l3 l4 l5 l6 H locs ls h hH (lv_sub hl [1, 2, 3, 4, 5, 6, 7] rfl)
      · have h := ie_x h c4
        refine lv_iload_n hx hb dX3_reached_68 rfl (lv_at hl 4 rfl) ?_
        refine lv_iload hx hb dX3_reached_69 (lv_at hl 0 rfl) ?_
        refine lv_iand hx hb dX3_reached_71 ?_
        refine lv_if_eq (tgt := 80) hx hb dX3_reached_72 (by decide) (fun c5 => ?_) (fun c5 => ?_)
        · have h := it_x h c5
          exact pX3_reached_80 X ih l3 l4 l5 l6 H locs ls h hH (lv_sub hl [1, 2, 3, 4, 5, 6, 7] rfl)
        · have h := ie_x h c5
          refine lv_iload_n hx hb dX3_reached_75 rfl (lv_at hl 4 rfl) ?_
          refine lv_iload hx hb dX3_reached_76 (lv_at hl 0 rfl) ?_
          refine lv_ior hx hb dX3_reached_78 ?_
          obtain ⟨v4, ev4, h⟩ := ltt_x h
          refine s_in X (lv' := [(3, .int v4), (7, .int v2), (0, .ref (a i)), (1, .int pa), (2, .int pb), (4, .int l4), (5, .int l5), (6, .int l6)]) hl ev4 dX3_reached_79 rfl (by decide) rfl (fun ls hl => ?_)
          exact pX3_reached_80 X ih v4 l4 l5 l6 H locs ls h hH (lv_sub hl [2, 3, 4, 0, 5, 6, 7] rfl)
set_option maxHeartbeats 4000000 in
set_option maxRecDepth 100000 in
theorem pX3_reached_8 {p : Program} {l : Launch} {e : Env} {s : State} {m : MethodId} {args : Array Value} {below : List Frame} {meth : Method} {c : Code} {g : GG} {w0 : va_W} {a : Nat → Nat} {i : Nat} {xs : SX3} {pa : Int32} {pb : Int32} {o : Int32} (X : mX g yX3_reached cX3_reached 8 (some .int) p s m args meth c w0) :
  ∀ (fu : Nat) (l3 : Int32) (l4 : Int32) (l5 : Int32) (H : Heap) (locs : List Loc) (ls : Array Slot), qX3_reached_8 xs pa pb fu l3 l4 l5 = some o → mH g s w0 (wX3 g a i xs) H locs → lv_has ls 8 [(0, .ref (a i)), (1, .int pa), (2, .int pb), (3, .int l3), (4, .int l4), (5, .int l5)] → W p l e (rM 1 21) s m args below meth c H locs 0 0 (mZ g below args s w0 (wX3 g a i xs) (some (.int o))) (F0 m 8 ls []) := by
  have hx := X.1
  have hb := X.2.1
  intro fu
  induction fu with
  | zero =>
    intro l3 l4 l5 H locs ls h
    unfold qX3_reached_8 at h
    cases h
  | succ fu ih =>
    intro l3 l4 l5 H locs ls h hH hl
    unfold qX3_reached_8 at h
    refine lv_iload hx hb dX3_reached_8 (lv_at hl 5 rfl) ?_
    refine lv_aload_n hx hb dX3_reached_10 rfl (lv_at hl 0 rfl) ?_
    refine f_get X hH 0 rfl rfl 0 (by decide) inX3 fX3_9 rfl dX3_reached_11 ?_
    refine lv_icmp_ge (tgt := 92) hx hb dX3_reached_14 (by decide) (fun c1 => ?_) (fun c1 => ?_)
    · have h := it_x h c1
      refine lv_iload_n hx hb dX3_reached_92 rfl (lv_at hl 3 rfl) ?_
      have h := Option.some.inj h
      subst h
      exact e_i X hH dX3_reached_93
    · have h := ie_x h c1
      refine lv_iload_n hx hb dX3_reached_17 rfl (lv_at hl 3 rfl) ?_
      refine lv_iload hx hb dX3_reached_18 (lv_at hl 4 rfl) ?_
      refine lv_icmp_eq (tgt := 92) hx hb dX3_reached_20 (by decide) (fun c2 => ?_) (fun c2 => ?_)
      · have h := it_x h c2
        refine lv_iload_n hx hb dX3_reached_92 rfl (lv_at hl 3 rfl) ?_
        have h := Option.some.inj h
        subst h
        exact e_i X hH dX3_reached_93
      · have h := ie_x h c2
        refine lv_iload_n hx hb dX3_reached_23 rfl (lv_at hl 3 rfl) ?_
        refine s_i X (lv' := [(4, .int l3), (0, .ref (a i)), (1, .int pa), (2, .int pb), (3, .int l3), (5, .int l5)]) hl rfl dX3_reached_24 (by decide) rfl (fun ls hl => ?_)
        refine lv_iconst (v := (0 : Int32)) hx hb dX3_reached_26 (by decide) ?_
        refine s_i X (lv' := [(6, .int (0 : Int32)), (4, .int l3), (0, .ref (a i)), (1, .int pa), (2, .int pb), (3, .int l3), (5, .int l5)]) hl rfl dX3_reached_27 (by decide) rfl (fun ls hl => ?_)
        exact pX3_reached_29 X ih FU l3 l3 l5 (0 : Int32) H locs ls h hH (lv_sub hl [2, 3, 4, 5, 1, 6, 0] rfl)
set_option maxHeartbeats 4000000 in
set_option maxRecDepth 100000 in
theorem uX3_reached {l : Launch} {g : GG} {a : Nat → Nat} {i : Nat} {xs : SX3} {pa : Int32} {pb : Int32} {o : Int32} (h : fX3_reached xs pa pb = some o) : mC l g yX3_reached cX3_reached 8 (some .int) (rM 1 21) [.ref (a i), .int pa, .int pb] (wX3 g a i xs) (wX3 g a i xs) (some (.int o)) := by
  refine mC.ofW (by decide) (fun p e s m below meth c X hH ls _ hl => ?_) (Nat.le_of_ble_eq_true rfl)
  have hx := X.1
  have hb := X.2.1
  have hl : lv_has ls 8 [(0, .ref (a i)), (1, .int pa), (2, .int pb)] := hl
  unfold fX3_reached at h
  suffices HH : ∀ (H : Heap) (locs : List Loc), mH g s (wX3 g a i xs) (wX3 g a i xs) H locs → W p l e (rM 1 21) s m _ below meth c H locs 0 0 (mZ g below _ s (wX3 g a i xs) (wX3 g a i xs) (some (.int o))) (F0 m 0 ls []) from HH _ _ hH
  clear hH
  intro H locs hH
  refine lv_iload_n hx hb dX3_reached_0 rfl (lv_at hl 1 rfl) ?_
  refine s_in X (lv' := [(3, .int pa), (0, .ref (a i)), (1, .int pa), (2, .int pb)]) hl rfl dX3_reached_1 rfl (by decide) rfl (fun ls hl => ?_)
  refine lv_iconst (v := (0 : Int32)) hx hb dX3_reached_2 (by decide) ?_
  refine s_i X (lv' := [(4, .int (0 : Int32)), (3, .int pa), (0, .ref (a i)), (1, .int pa), (2, .int pb)]) hl rfl dX3_reached_3 (by decide) rfl (fun ls hl => ?_)
  refine lv_iconst (v := (1 : Int32)) hx hb dX3_reached_5 (by decide) ?_
  refine s_i X (lv' := [(5, .int (1 : Int32)), (4, .int (0 : Int32)), (3, .int pa), (0, .ref (a i)), (1, .int pa), (2, .int pb)]) hl rfl dX3_reached_6 (by decide) rfl (fun ls hl => ?_)
  exact pX3_reached_8 X FU pa (0 : Int32) (1 : Int32) H locs ls h hH (lv_sub hl [3, 4, 5, 2, 1, 0] rfl)

def qX0_layRows_92 (pa : Int32) (k7 : SX0 → Int32 → Option SX0) (xs : SX0) (l2 : Int32) : Option SX0 :=
  ltt (l2 + (1 : Int32)) fun v1 =>
  k7 xs v1
def qX0_layRows_30 (pa : Int32) (k92 : SX0 → Int32 → Option SX0) : Nat → SX0 → Int32 → Int32 → Option SX0
  | 0, _, _, _ => none
  | fu + 1, xs, l2, l3 =>
  (if (6 : Int32) ≤ l3 then
  ga 6 (eq_size xs) fun j2 =>
  ga 6 l2 fun j3 =>
  ltt (((eq_due xs) j3)) fun v2 =>
  ga 7 (6 : Int32) fun j4 =>
  ltt ((eq_rows_s xs (va_up (eq_rows xs) j2 (vp_updL ((eq_rows xs) j2) j4 v2)))) fun xs3 =>
  ltt ((eq_size xs3)) fun v3 =>
  ga 6 l2 fun j5 =>
  ltt ((eq_rowOf_s xs3 (upd (eq_rowOf xs3) j5 v3))) fun xs4 =>
  ltt (((eq_size xs4) + (1 : Int32))) fun v4 =>
  ltt ((eq_size_s xs4 v4)) fun xs5 =>
  k92 xs5 l2
  else
  ga 6 (eq_size xs) fun j6 =>
  ga 7 l3 fun j7 =>
  ltt ((eq_rows_s xs (va_up (eq_rows xs) j6 (vp_updL ((eq_rows xs) j6) j7 (0 : Int64))))) fun xs6 =>
  ltt (l3 + (1 : Int32)) fun v5 =>
  qX0_layRows_30 pa k92 fu xs6 l2 v5)
def qX0_layRows_7 (pa : Int32)  : Nat → SX0 → Int32 → Option SX0
  | 0, _, _ => none
  | fu + 1, xs, l2 =>
  (if (6 : Int32) ≤ l2 then
  some xs
  else
  ga 6 l2 fun j1 =>
  ltt ((eq_rowOf_s xs (upd (eq_rowOf xs) j1 (-1 : Int32)))) fun xs2 =>
  (fX8_has pa l2).bind fun o1 =>
  (if o1 = (0 : Int32) then
  qX0_layRows_92 pa (qX0_layRows_7 pa  fu) xs2 l2
  else
  qX0_layRows_30 pa (qX0_layRows_92 pa (qX0_layRows_7 pa  fu)) FU xs2 l2 (0 : Int32)))
def fX0_layRows (xs : SX0) (pa : Int32) : Option SX0 :=
  ltt ((eq_size_s xs (0 : Int32))) fun xs1 =>
  qX0_layRows_7 pa FU xs1 (0 : Int32)
set_option maxHeartbeats 4000000 in
set_option maxRecDepth 100000 in
theorem pX0_layRows_92 {p : Program} {l : Launch} {e : Env} {s : State} {m : MethodId} {args : Array Value} {below : List Frame} {meth : Method} {c : Code} {g : GG} {w0 : va_W} {a : Nat → Nat} {i : Nat} {pa : Int32} {o : SX0} (X : mX g yX0_layRows cX0_layRows 4 none p s m args meth c w0)
  {k7 : SX0 → Int32 → Option SX0} (K7 : ∀ (xs : SX0) (l2 : Int32) (H : Heap) (locs : List Loc) (ls : Array Slot), k7 xs l2 = some o → mH g s w0 (wX0 g a i xs) H locs → lv_has ls 4 [(0, .ref (a i)), (1, .int pa), (2, .int l2)] → W p l e (rM 1 21) s m args below meth c H locs 0 0 (mZ g below args s w0 (wX0 g a i o) none) (F0 m 7 ls [])) :
  ∀ (xs : SX0) (l2 : Int32) (H : Heap) (locs : List Loc) (ls : Array Slot), qX0_layRows_92 pa k7 xs l2 = some o → mH g s w0 (wX0 g a i xs) H locs → lv_has ls 4 [(0, .ref (a i)), (1, .int pa), (2, .int l2)] → W p l e (rM 1 21) s m args below meth c H locs 0 0 (mZ g below args s w0 (wX0 g a i o) none) (F0 m 92 ls []) := by
  have hx := X.1
  have hb := X.2.1
  intro xs l2 H locs ls h hH hl
  unfold qX0_layRows_92 at h
  obtain ⟨v1, ev1, h⟩ := ltt_x h
  refine s_inc X (k := 2) (lv' := [(2, .int v1), (0, .ref (a i)), (1, .int pa)]) hl rfl (by rw [ev1]; rfl) dX0_layRows_92 (by decide) rfl (fun ls hl => ?_)
  refine lv_goto (tgt := 7) hx hb dX0_layRows_95 (by decide) ?_
  exact K7 xs v1 H locs ls h hH (lv_sub hl [1, 2, 0] rfl)
set_option maxHeartbeats 4000000 in
set_option maxRecDepth 100000 in
theorem pX0_layRows_30 {p : Program} {l : Launch} {e : Env} {s : State} {m : MethodId} {args : Array Value} {below : List Frame} {meth : Method} {c : Code} {g : GG} {w0 : va_W} {a : Nat → Nat} {i : Nat} {pa : Int32} {o : SX0} (X : mX g yX0_layRows cX0_layRows 4 none p s m args meth c w0)
  {k92 : SX0 → Int32 → Option SX0} (K92 : ∀ (xs : SX0) (l2 : Int32) (H : Heap) (locs : List Loc) (ls : Array Slot), k92 xs l2 = some o → mH g s w0 (wX0 g a i xs) H locs → lv_has ls 4 [(0, .ref (a i)), (1, .int pa), (2, .int l2)] → W p l e (rM 1 21) s m args below meth c H locs 0 0 (mZ g below args s w0 (wX0 g a i o) none) (F0 m 92 ls [])) :
  ∀ (fu : Nat) (xs : SX0) (l2 : Int32) (l3 : Int32) (H : Heap) (locs : List Loc) (ls : Array Slot), qX0_layRows_30 pa k92 fu xs l2 l3 = some o → mH g s w0 (wX0 g a i xs) H locs → lv_has ls 4 [(0, .ref (a i)), (1, .int pa), (2, .int l2), (3, .int l3)] → W p l e (rM 1 21) s m args below meth c H locs 0 0 (mZ g below args s w0 (wX0 g a i o) none) (F0 m 30 ls []) := by
  have hx := X.1
  have hb := X.2.1
  intro fu
  induction fu with
  | zero =>
    intro xs l2 l3 H locs ls h
    unfold qX0_layRows_30 at h
    cases h
  | succ fu ih =>
    intro xs l2 l3 H locs ls h hH hl
    unfold qX0_layRows_30 at h
    refine lv_iload_n hx hb dX0_layRows_30 rfl (lv_at hl 3 rfl) ?_
    refine lv_bipush (v := (6 : Int32)) hx hb dX0_layRows_31 (by decide) ?_
    refine lv_icmp_ge (tgt := 54) hx hb dX0_layRows_33 (by decide) (fun c3 => ?_) (fun c3 => ?_)
    · have h := it_x h c3
      refine lv_aload_n hx hb dX0_layRows_54 rfl (lv_at hl 0 rfl) ?_
      refine f_get X hH 0 rfl rfl 2 (by decide) inX0 fX0_21 rfl dX0_layRows_55 ?_
      refine lv_aload_n hx hb dX0_layRows_58 rfl (lv_at hl 0 rfl) ?_
      refine f_get X hH 0 rfl rfl 5 (by decide) inX0 fX0_31 rfl dX0_layRows_59 ?_
      obtain ⟨j2, ej2, hinj2, h⟩ := ga_x h
      have hltj2 : j2 < 6 := by rw [ej2]; exact vp_lt hinj2
      refine a_al X hH (v := .ref (a (i + 3 + j2))) 2 4 rfl rfl hinj2 ej2 (rf_in hltj2) dX0_layRows_62 ?_
      refine lv_bipush (v := (6 : Int32)) hx hb dX0_layRows_63 (by decide) ?_
      refine lv_aload_n hx hb dX0_layRows_65 rfl (lv_at hl 0 rfl) ?_
      refine f_get X hH 0 rfl rfl 4 (by decide) inX0 fX0_28 rfl dX0_layRows_66 ?_
      refine lv_iload_n hx hb dX0_layRows_69 rfl (lv_at hl 2 rfl) ?_
      obtain ⟨j3, ej3, hinj3, h⟩ := ga_x h
      refine a_ll X hH 10 rfl hinj3 ej3 dX0_layRows_70 ?_
      obtain ⟨v2, ev2, h⟩ := ltt_x h
      refine lv_topl (fun y0 e0 => ?_)
      rw [← ev2] at e0
      subst y0
      obtain ⟨j4, ej4, hinj4, h⟩ := ga_x h
      obtain ⟨xs3, exs3, h⟩ := ltt_x h
      have hwxs3 := co_6 (P := fun jj => ((wX0 g a i xs)).set (3 + jj) (a (i + 3 + jj), .inl (g.2.1 1, 7, .inr (.inl (vp_updL ((eq_rows xs) jj) j4 v2)))) = (wX0 g a i (eq_rows_s xs (va_up (eq_rows xs) jj (vp_updL ((eq_rows xs) jj) j4 v2))))) rfl rfl rfl rfl rfl rfl hltj2
      refine a_ls X hH (ws1 := (wX0 g a i xs3)) (3 + j2) (co_6 (P := fun jj => ((wX0 g a i xs))[3 + jj]? = some (a (i + 3 + jj), .inl (g.2.1 1, 7, .inr (.inl ((eq_rows xs) jj))))) rfl rfl rfl rfl rfl rfl hltj2) hinj4 ej4 (hwxs3.trans (by rw [exs3])) dX0_layRows_71 (fun H locs hH => ?_)
      refine lv_aload_n hx hb dX0_layRows_72 rfl (lv_at hl 0 rfl) ?_
      refine f_get X hH 0 rfl rfl 3 (by decide) inX0 fX0_24 rfl dX0_layRows_73 ?_
      refine lv_iload_n hx hb dX0_layRows_76 rfl (lv_at hl 2 rfl) ?_
      refine lv_aload_n hx hb dX0_layRows_77 rfl (lv_at hl 0 rfl) ?_
      refine f_get X hH 0 rfl rfl 5 (by decide) inX0 fX0_31 rfl dX0_layRows_78 ?_
      obtain ⟨v3, ev3, h⟩ := ltt_x h
      refine lv_topi (fun y0 e0 => ?_)
      rw [← ev3] at e0
      subst y0
      obtain ⟨j5, ej5, hinj5, h⟩ := ga_x h
      obtain ⟨xs4, exs4, h⟩ := ltt_x h
      refine a_is X hH (ws1 := (wX0 g a i xs4)) 9 rfl hinj5 ej5 (by rw [exs4]; rfl) dX0_layRows_81 (fun H locs hH => ?_)
      refine lv_aload_n hx hb dX0_layRows_82 rfl (lv_at hl 0 rfl) ?_
      refine lv_dup hx hb dX0_layRows_83 rfl ?_
      refine f_get X hH 0 rfl rfl 5 (by decide) inX0 fX0_31 rfl dX0_layRows_84 ?_
      refine lv_iconst (v := (1 : Int32)) hx hb dX0_layRows_87 (by decide) ?_
      refine lv_iadd hx hb dX0_layRows_88 ?_
      obtain ⟨v4, ev4, h⟩ := ltt_x h
      refine lv_topi (fun y0 e0 => ?_)
      rw [← ev4] at e0
      subst y0
      obtain ⟨xs5, exs5, h⟩ := ltt_x h
      refine f_put X hH (ws1 := (wX0 g a i xs5)) 0 rfl rfl 5 (by decide) inX0 tyX0 tyX0_ok nmX0 fX0_31 rfl rfl rfl (Nat.le_of_ble_eq_true rfl) (by rw [exs5]; rfl) dX0_layRows_89 (fun H locs hH => ?_)
      exact K92 xs5 l2 H locs ls h hH (lv_sub hl [0, 1, 2] rfl)
    · have h := ie_x h c3
      refine lv_aload_n hx hb dX0_layRows_36 rfl (lv_at hl 0 rfl) ?_
      refine f_get X hH 0 rfl rfl 2 (by decide) inX0 fX0_21 rfl dX0_layRows_37 ?_
      refine lv_aload_n hx hb dX0_layRows_40 rfl (lv_at hl 0 rfl) ?_
      refine f_get X hH 0 rfl rfl 5 (by decide) inX0 fX0_31 rfl dX0_layRows_41 ?_
      obtain ⟨j6, ej6, hinj6, h⟩ := ga_x h
      have hltj6 : j6 < 6 := by rw [ej6]; exact vp_lt hinj6
      refine a_al X hH (v := .ref (a (i + 3 + j6))) 2 4 rfl rfl hinj6 ej6 (rf_in hltj6) dX0_layRows_44 ?_
      refine lv_iload_n hx hb dX0_layRows_45 rfl (lv_at hl 3 rfl) ?_
      refine lv_lconst (v := (0 : Int64)) hx hb dX0_layRows_46 (by decide) ?_
      obtain ⟨j7, ej7, hinj7, h⟩ := ga_x h
      obtain ⟨xs6, exs6, h⟩ := ltt_x h
      have hwxs6 := co_6 (P := fun jj => ((wX0 g a i xs)).set (3 + jj) (a (i + 3 + jj), .inl (g.2.1 1, 7, .inr (.inl (vp_updL ((eq_rows xs) jj) j7 (0 : Int64))))) = (wX0 g a i (eq_rows_s xs (va_up (eq_rows xs) jj (vp_updL ((eq_rows xs) jj) j7 (0 : Int64)))))) rfl rfl rfl rfl rfl rfl hltj6
      refine a_ls X hH (ws1 := (wX0 g a i xs6)) (3 + j6) (co_6 (P := fun jj => ((wX0 g a i xs))[3 + jj]? = some (a (i + 3 + jj), .inl (g.2.1 1, 7, .inr (.inl ((eq_rows xs) jj))))) rfl rfl rfl rfl rfl rfl hltj6) hinj7 ej7 (hwxs6.trans (by rw [exs6])) dX0_layRows_47 (fun H locs hH => ?_)
      obtain ⟨v5, ev5, h⟩ := ltt_x h
      refine s_inc X (k := 3) (lv' := [(3, .int v5), (0, .ref (a i)), (1, .int pa), (2, .int l2)]) hl rfl (by rw [ev5]; rfl) dX0_layRows_48 (by decide) rfl (fun ls hl => ?_)
      refine lv_goto (tgt := 30) hx hb dX0_layRows_51 (by decide) ?_
      exact ih xs6 l2 v5 H locs ls h hH (lv_sub hl [1, 2, 3, 0] rfl)
set_option maxHeartbeats 4000000 in
set_option maxRecDepth 100000 in
theorem pX0_layRows_7 {p : Program} {l : Launch} {e : Env} {s : State} {m : MethodId} {args : Array Value} {below : List Frame} {meth : Method} {c : Code} {g : GG} {w0 : va_W} {a : Nat → Nat} {i : Nat} {pa : Int32} {o : SX0} (X : mX g yX0_layRows cX0_layRows 4 none p s m args meth c w0) :
  ∀ (fu : Nat) (xs : SX0) (l2 : Int32) (H : Heap) (locs : List Loc) (ls : Array Slot), qX0_layRows_7 pa fu xs l2 = some o → mH g s w0 (wX0 g a i xs) H locs → lv_has ls 4 [(0, .ref (a i)), (1, .int pa), (2, .int l2)] → W p l e (rM 1 21) s m args below meth c H locs 0 0 (mZ g below args s w0 (wX0 g a i o) none) (F0 m 7 ls []) := by
  have hx := X.1
  have hb := X.2.1
  intro fu
  induction fu with
  | zero =>
    intro xs l2 H locs ls h
    unfold qX0_layRows_7 at h
    cases h
  | succ fu ih =>
    intro xs l2 H locs ls h hH hl
    unfold qX0_layRows_7 at h
    refine lv_iload_n hx hb dX0_layRows_7 rfl (lv_at hl 2 rfl) ?_
    refine lv_bipush (v := (6 : Int32)) hx hb dX0_layRows_8 (by decide) ?_
    refine lv_icmp_ge (tgt := 98) hx hb dX0_layRows_10 (by decide) (fun c1 => ?_) (fun c1 => ?_)
    · have h := it_x h c1
      have h := Option.some.inj h
      subst h
      exact e_v X hH dX0_layRows_98
    · have h := ie_x h c1
      refine lv_aload_n hx hb dX0_layRows_13 rfl (lv_at hl 0 rfl) ?_
      refine f_get X hH 0 rfl rfl 3 (by decide) inX0 fX0_24 rfl dX0_layRows_14 ?_
      refine lv_iload_n hx hb dX0_layRows_17 rfl (lv_at hl 2 rfl) ?_
      refine lv_iconst (v := (-1 : Int32)) hx hb dX0_layRows_18 (by decide) ?_
      obtain ⟨j1, ej1, hinj1, h⟩ := ga_x h
      obtain ⟨xs2, exs2, h⟩ := ltt_x h
      refine a_is X hH (ws1 := (wX0 g a i xs2)) 9 rfl hinj1 ej1 (by rw [exs2]; rfl) dX0_layRows_19 (fun H locs hH => ?_)
      refine lv_iload_n hx hb dX0_layRows_20 rfl (lv_at hl 1 rfl) ?_
      refine lv_iload_n hx hb dX0_layRows_21 rfl (lv_at hl 2 rfl) ?_
      obtain ⟨o1, ho1, h⟩ := bd_x h
      refine r_SN X hH (ws1 := (wX0 g a i xs2)) (As := [.int pa, .int l2]) (rest := []) (st1 := [.int o1]) (uX8_has  ho1) kX8_has nnX0_43 sX8_has zX8 okX8_has ⟨Nat.le_of_ble_eq_true rfl, Nat.le_of_ble_eq_true rfl⟩ rfl rfl (pm_none _) (pm_none _) rfl hl.1 rfl (Nat.le_of_ble_eq_true rfl) ⟨Nat.le_refl 0, Nat.le_refl 0⟩ rfl dX0_layRows_22 (fun H locs hH => ?_)
      refine lv_if_eq (tgt := 92) hx hb dX0_layRows_25 (by decide) (fun c2 => ?_) (fun c2 => ?_)
      · have h := it_x h c2
        exact pX0_layRows_92 X ih xs2 l2 H locs ls h hH (lv_sub hl [0, 1, 2] rfl)
      · have h := ie_x h c2
        refine lv_iconst (v := (0 : Int32)) hx hb dX0_layRows_28 (by decide) ?_
        refine s_in X (lv' := [(3, .int (0 : Int32)), (0, .ref (a i)), (1, .int pa), (2, .int l2)]) hl rfl dX0_layRows_29 rfl (by decide) rfl (fun ls hl => ?_)
        exact pX0_layRows_30 X (pX0_layRows_92 X ih) FU xs2 l2 (0 : Int32) H locs ls h hH (lv_sub hl [1, 2, 3, 0] rfl)
set_option maxHeartbeats 4000000 in
set_option maxRecDepth 100000 in
theorem uX0_layRows {l : Launch} {g : GG} {a : Nat → Nat} {i : Nat} {xs : SX0} {pa : Int32} {o : SX0} (h : fX0_layRows xs pa = some o) : mC l g yX0_layRows cX0_layRows 4 none (rM 1 21) [.ref (a i), .int pa] (wX0 g a i xs) (wX0 g a i o) none := by
  refine mC.ofW (by decide) (fun p e s m below meth c X hH ls _ hl => ?_) (Nat.le_of_ble_eq_true rfl)
  have hx := X.1
  have hb := X.2.1
  have hl : lv_has ls 4 [(0, .ref (a i)), (1, .int pa)] := hl
  unfold fX0_layRows at h
  suffices HH : ∀ (H : Heap) (locs : List Loc), mH g s (wX0 g a i xs) (wX0 g a i xs) H locs → W p l e (rM 1 21) s m _ below meth c H locs 0 0 (mZ g below _ s (wX0 g a i xs) (wX0 g a i o) none) (F0 m 0 ls []) from HH _ _ hH
  clear hH
  intro H locs hH
  refine lv_aload_n hx hb dX0_layRows_0 rfl (lv_at hl 0 rfl) ?_
  refine lv_iconst (v := (0 : Int32)) hx hb dX0_layRows_1 (by decide) ?_
  obtain ⟨xs1, exs1, h⟩ := ltt_x h
  refine f_put X hH (ws1 := (wX0 g a i xs1)) 0 rfl rfl 5 (by decide) inX0 tyX0 tyX0_ok nmX0 fX0_31 rfl rfl rfl (Nat.le_of_ble_eq_true rfl) (by rw [exs1]; rfl) dX0_layRows_2 (fun H locs hH => ?_)
  refine lv_iconst (v := (0 : Int32)) hx hb dX0_layRows_5 (by decide) ?_
  refine s_in X (lv' := [(2, .int (0 : Int32)), (0, .ref (a i)), (1, .int pa)]) hl rfl dX0_layRows_6 rfl (by decide) rfl (fun ls hl => ?_)
  exact pX0_layRows_7 X FU xs1 (0 : Int32) H locs ls h hH (lv_sub hl [1, 2, 0] rfl)

def fX8_over (pa : Int64) (pb : Int64) : Option Int64 :=
  (if pb = (0 : Int64) then
  some (0 : Int64)
  else
  gzl (pb) <|
  some (pa / pb))
set_option maxHeartbeats 4000000 in
set_option maxRecDepth 100000 in
theorem uX8_over {l : Launch} {g : GG}  {pa : Int64} {pb : Int64} {o : Int64} (h : fX8_over pa pb = some o) : mC l g yX8_over cX8_over 4 (some .long) (rM 0 0) [.long pa, .long pb] [] [] (some (.long o)) := by
  refine mC.ofW (by decide) (fun p e s m below meth c X hH ls _ hl => ?_) (Nat.le_of_ble_eq_true rfl)
  have hx := X.1
  have hb := X.2.1
  have hl : lv_has ls 4 [(0, .long pa), (2, .long pb)] := hl
  unfold fX8_over at h
  suffices HH : ∀ (H : Heap) (locs : List Loc), mH g s [] [] H locs → W p l e (rM 0 0) s m _ below meth c H locs 0 0 (mZ g below _ s [] [] (some (.long o))) (F0 m 0 ls []) from HH _ _ hH
  clear hH
  intro H locs hH
  refine lv_lload_n hx hb dX8_over_0 rfl (lv_at hl 1 rfl) ?_
  refine lv_lconst (v := (0 : Int64)) hx hb dX8_over_1 (by decide) ?_
  refine W.lcmp hx hb dX8_over_2 ?_
  refine lv_if_ne (tgt := 10) hx hb dX8_over_3 (by decide) (fun c1 => ?_) (fun c1 => ?_)
  · have h := ie_x h (mt (lg_cmp_eq pb (0 : Int64)).mpr c1)
    refine lv_lload_n hx hb dX8_over_10 rfl (lv_at hl 0 rfl) ?_
    refine lv_lload_n hx hb dX8_over_11 rfl (lv_at hl 1 rfl) ?_
    obtain ⟨z1, h⟩ := gzl_x h
    refine lv_ldiv hx hb dX8_over_12 z1 ?_
    have h := Option.some.inj h
    subst h
    exact e_l X hH dX8_over_13
  · have h := it_x h ((lg_cmp_eq pb (0 : Int64)).mp c1)
    refine lv_lconst (v := (0 : Int64)) hx hb dX8_over_6 (by decide) ?_
    refine lv_goto (tgt := 13) hx hb dX8_over_7 (by decide) ?_
    have h := Option.some.inj h
    subst h
    exact e_l X hH dX8_over_13

def qX0_clearColumn_47 (pa : Int32) (pb : Int64) (k142 : SX0 → Int64 → Int32 → Option SX0) : Nat → SX0 → Int64 → Int32 → Int64 → Int32 → Option SX0
  | 0, _, _, _, _, _ => none
  | fu + 1, xs, l4, l6, l7, l9 =>
  (if (eq_size xs) ≤ l9 then
  ga 6 l6 fun j5 =>
  ga 6 l6 fun j6 =>
  ga 7 (6 : Int32) fun j7 =>
  ga 6 pa fun j8 =>
  ga 7 (6 : Int32) fun j9 =>
  (fX8_over ((l4 * ((eq_rows xs) j6 j7)) - (l7 * ((eq_rows xs) j8 j9))) pb).bind fun o1 =>
  ga 7 (6 : Int32) fun j10 =>
  ltt ((eq_rows_s xs (va_up (eq_rows xs) j5 (vp_updL ((eq_rows xs) j5) j10 o1)))) fun xs1 =>
  k142 xs1 l4 l6
  else
  ga 6 l6 fun j11 =>
  ga 6 l6 fun j12 =>
  ga 7 l9 fun j13 =>
  ga 6 pa fun j14 =>
  ga 7 l9 fun j15 =>
  (fX8_over ((l4 * ((eq_rows xs) j12 j13)) - (l7 * ((eq_rows xs) j14 j15))) pb).bind fun o2 =>
  ga 7 l9 fun j16 =>
  ltt ((eq_rows_s xs (va_up (eq_rows xs) j11 (vp_updL ((eq_rows xs) j11) j16 o2)))) fun xs2 =>
  ltt (l9 + (1 : Int32)) fun v4 =>
  qX0_clearColumn_47 pa pb k142 fu xs2 l4 l6 l7 v4)
def qX0_clearColumn_142 (pa : Int32) (pb : Int64) (k13 : SX0 → Int64 → Int32 → Option SX0) (xs : SX0) (l4 : Int64) (l6 : Int32) : Option SX0 :=
  ltt (l6 + (1 : Int32)) fun v5 =>
  k13 xs l4 v5
def qX0_clearColumn_13 (pa : Int32) (pb : Int64)  : Nat → SX0 → Int64 → Int32 → Option SX0
  | 0, _, _, _ => none
  | fu + 1, xs, l4, l6 =>
  (if (eq_size xs) ≤ l6 then
  some xs
  else
  (if l6 = pa then
  qX0_clearColumn_142 pa pb (qX0_clearColumn_13 pa pb  fu) xs l4 l6
  else
  ga 6 l6 fun j3 =>
  ga 7 pa fun j4 =>
  ltt (((eq_rows xs) j3 j4)) fun v2 =>
  ltt ((pa + (1 : Int32))) fun v3 =>
  qX0_clearColumn_47 pa pb (qX0_clearColumn_142 pa pb (qX0_clearColumn_13 pa pb  fu)) FU xs l4 l6 v2 v3))
def fX0_clearColumn (xs : SX0) (pa : Int32) (pb : Int64) : Option SX0 :=
  ga 6 pa fun j1 =>
  ga 7 pa fun j2 =>
  ltt (((eq_rows xs) j1 j2)) fun v1 =>
  qX0_clearColumn_13 pa pb FU xs v1 (0 : Int32)
set_option maxHeartbeats 4000000 in
set_option maxRecDepth 100000 in
theorem pX0_clearColumn_47 {p : Program} {l : Launch} {e : Env} {s : State} {m : MethodId} {args : Array Value} {below : List Frame} {meth : Method} {c : Code} {g : GG} {w0 : va_W} {a : Nat → Nat} {i : Nat} {pa : Int32} {pb : Int64} {o : SX0} (X : mX g yX0_clearColumn cX0_clearColumn 10 none p s m args meth c w0)
  {k142 : SX0 → Int64 → Int32 → Option SX0} (K142 : ∀ (xs : SX0) (l4 : Int64) (l6 : Int32) (H : Heap) (locs : List Loc) (ls : Array Slot), k142 xs l4 l6 = some o → mH g s w0 (wX0 g a i xs) H locs → lv_has ls 10 [(0, .ref (a i)), (1, .int pa), (2, .long pb), (4, .long l4), (6, .int l6)] → W p l e (rM 1 23) s m args below meth c H locs 0 0 (mZ g below args s w0 (wX0 g a i o) none) (F0 m 142 ls [])) :
  ∀ (fu : Nat) (xs : SX0) (l4 : Int64) (l6 : Int32) (l7 : Int64) (l9 : Int32) (H : Heap) (locs : List Loc) (ls : Array Slot), qX0_clearColumn_47 pa pb k142 fu xs l4 l6 l7 l9 = some o → mH g s w0 (wX0 g a i xs) H locs → lv_has ls 10 [(0, .ref (a i)), (1, .int pa), (2, .long pb), (4, .long l4), (6, .int l6), (7, .long l7), (9, .int l9)] → W p l e (rM 1 23) s m args below meth c H locs 0 0 (mZ g below args s w0 (wX0 g a i o) none) (F0 m 47 ls []) := by
  have hx := X.1
  have hb := X.2.1
  intro fu
  induction fu with
  | zero =>
    intro xs l4 l6 l7 l9 H locs ls h
    unfold qX0_clearColumn_47 at h
    cases h
  | succ fu ih =>
    intro xs l4 l6 l7 l9 H locs ls h hH hl
    unfold qX0_clearColumn_47 at h
    refine lv_iload hx hb dX0_clearColumn_47 (lv_at hl 6 rfl) ?_
    refine lv_aload_n hx hb dX0_clearColumn_49 rfl (lv_at hl 0 rfl) ?_
    refine f_get X hH 0 rfl rfl 5 (by decide) inX0 fX0_31 rfl dX0_clearColumn_50 ?_
    refine lv_icmp_ge (tgt := 102) hx hb dX0_clearColumn_53 (by decide) (fun c3 => ?_) (fun c3 => ?_)
    · have h := it_x h c3
      refine lv_aload_n hx hb dX0_clearColumn_102 rfl (lv_at hl 0 rfl) ?_
      refine f_get X hH 0 rfl rfl 2 (by decide) inX0 fX0_21 rfl dX0_clearColumn_103 ?_
      refine lv_iload hx hb dX0_clearColumn_106 (lv_at hl 4 rfl) ?_
      obtain ⟨j5, ej5, hinj5, h⟩ := ga_x h
      have hltj5 : j5 < 6 := by rw [ej5]; exact vp_lt hinj5
      refine a_al X hH (v := .ref (a (i + 3 + j5))) 2 4 rfl rfl hinj5 ej5 (rf_in hltj5) dX0_clearColumn_108 ?_
      refine lv_bipush (v := (6 : Int32)) hx hb dX0_clearColumn_109 (by decide) ?_
      refine lv_lload hx hb dX0_clearColumn_111 (lv_at hl 3 rfl) ?_
      refine lv_aload_n hx hb dX0_clearColumn_113 rfl (lv_at hl 0 rfl) ?_
      refine f_get X hH 0 rfl rfl 2 (by decide) inX0 fX0_21 rfl dX0_clearColumn_114 ?_
      refine lv_iload hx hb dX0_clearColumn_117 (lv_at hl 4 rfl) ?_
      obtain ⟨j6, ej6, hinj6, h⟩ := ga_x h
      have hltj6 : j6 < 6 := by rw [ej6]; exact vp_lt hinj6
      refine a_al X hH (v := .ref (a (i + 3 + j6))) 2 4 rfl rfl hinj6 ej6 (rf_in hltj6) dX0_clearColumn_119 ?_
      refine lv_bipush (v := (6 : Int32)) hx hb dX0_clearColumn_120 (by decide) ?_
      obtain ⟨j7, ej7, hinj7, h⟩ := ga_x h
      refine a_ll X hH (3 + j6) (co_6 (P := fun jj => ((wX0 g a i xs))[3 + jj]? = some (a (i + 3 + jj), .inl (g.2.1 1, 7, .inr (.inl ((eq_rows xs) jj))))) rfl rfl rfl rfl rfl rfl hltj6) hinj7 ej7 dX0_clearColumn_122 ?_
      refine lv_lmul hx hb dX0_clearColumn_123 ?_
      refine lv_lload hx hb dX0_clearColumn_124 (lv_at hl 5 rfl) ?_
      refine lv_aload_n hx hb dX0_clearColumn_126 rfl (lv_at hl 0 rfl) ?_
      refine f_get X hH 0 rfl rfl 2 (by decide) inX0 fX0_21 rfl dX0_clearColumn_127 ?_
      refine lv_iload_n hx hb dX0_clearColumn_130 rfl (lv_at hl 1 rfl) ?_
      obtain ⟨j8, ej8, hinj8, h⟩ := ga_x h
      have hltj8 : j8 < 6 := by rw [ej8]; exact vp_lt hinj8
      refine a_al X hH (v := .ref (a (i + 3 + j8))) 2 4 rfl rfl hinj8 ej8 (rf_in hltj8) dX0_clearColumn_131 ?_
      refine lv_bipush (v := (6 : Int32)) hx hb dX0_clearColumn_132 (by decide) ?_
      obtain ⟨j9, ej9, hinj9, h⟩ := ga_x h
      refine a_ll X hH (3 + j8) (co_6 (P := fun jj => ((wX0 g a i xs))[3 + jj]? = some (a (i + 3 + jj), .inl (g.2.1 1, 7, .inr (.inl ((eq_rows xs) jj))))) rfl rfl rfl rfl rfl rfl hltj8) hinj9 ej9 dX0_clearColumn_134 ?_
      refine lv_lmul hx hb dX0_clearColumn_135 ?_
      refine lv_lsub hx hb dX0_clearColumn_136 ?_
      refine lv_lload_n hx hb dX0_clearColumn_137 rfl (lv_at hl 2 rfl) ?_
      obtain ⟨o1, ho1, h⟩ := bd_x h
      refine r_SN X hH (ws1 := (wX0 g a i xs)) (As := [.long ((l4 * ((eq_rows xs) j6 j7)) - (l7 * ((eq_rows xs) j8 j9))), .long pb]) (rest := [.int (6 : Int32), .ref (a (i + 3 + j5))]) (st1 := [.long o1, .int (6 : Int32), .ref (a (i + 3 + j5))]) (uX8_over  ho1) kX8_over nnX0_86 sX8_over zX8 okX8_over ⟨Nat.le_of_ble_eq_true rfl, Nat.le_of_ble_eq_true rfl⟩ rfl rfl (pm_none _) (pm_none _) rfl hl.1 rfl (Nat.le_of_ble_eq_true rfl) ⟨Nat.le_refl 0, Nat.le_refl 0⟩ rfl dX0_clearColumn_138 (fun H locs hH => ?_)
      obtain ⟨j10, ej10, hinj10, h⟩ := ga_x h
      obtain ⟨xs1, exs1, h⟩ := ltt_x h
      have hwxs1 := co_6 (P := fun jj => ((wX0 g a i xs)).set (3 + jj) (a (i + 3 + jj), .inl (g.2.1 1, 7, .inr (.inl (vp_updL ((eq_rows xs) jj) j10 o1)))) = (wX0 g a i (eq_rows_s xs (va_up (eq_rows xs) jj (vp_updL ((eq_rows xs) jj) j10 o1))))) rfl rfl rfl rfl rfl rfl hltj5
      refine a_ls X hH (ws1 := (wX0 g a i xs1)) (3 + j5) (co_6 (P := fun jj => ((wX0 g a i xs))[3 + jj]? = some (a (i + 3 + jj), .inl (g.2.1 1, 7, .inr (.inl ((eq_rows xs) jj))))) rfl rfl rfl rfl rfl rfl hltj5) hinj10 ej10 (hwxs1.trans (by rw [exs1])) dX0_clearColumn_141 (fun H locs hH => ?_)
      exact K142 xs1 l4 l6 H locs ls h hH (lv_sub hl [0, 1, 2, 3, 4] rfl)
    · have h := ie_x h c3
      refine lv_aload_n hx hb dX0_clearColumn_56 rfl (lv_at hl 0 rfl) ?_
      refine f_get X hH 0 rfl rfl 2 (by decide) inX0 fX0_21 rfl dX0_clearColumn_57 ?_
      refine lv_iload hx hb dX0_clearColumn_60 (lv_at hl 4 rfl) ?_
      obtain ⟨j11, ej11, hinj11, h⟩ := ga_x h
      have hltj11 : j11 < 6 := by rw [ej11]; exact vp_lt hinj11
      refine a_al X hH (v := .ref (a (i + 3 + j11))) 2 4 rfl rfl hinj11 ej11 (rf_in hltj11) dX0_clearColumn_62 ?_
      refine lv_iload hx hb dX0_clearColumn_63 (lv_at hl 6 rfl) ?_
      refine lv_lload hx hb dX0_clearColumn_65 (lv_at hl 3 rfl) ?_
      refine lv_aload_n hx hb dX0_clearColumn_67 rfl (lv_at hl 0 rfl) ?_
      refine f_get X hH 0 rfl rfl 2 (by decide) inX0 fX0_21 rfl dX0_clearColumn_68 ?_
      refine lv_iload hx hb dX0_clearColumn_71 (lv_at hl 4 rfl) ?_
      obtain ⟨j12, ej12, hinj12, h⟩ := ga_x h
      have hltj12 : j12 < 6 := by rw [ej12]; exact vp_lt hinj12
      refine a_al X hH (v := .ref (a (i + 3 + j12))) 2 4 rfl rfl hinj12 ej12 (rf_in hltj12) dX0_clearColumn_73 ?_
      refine lv_iload hx hb dX0_clearColumn_74 (lv_at hl 6 rfl) ?_
      obtain ⟨j13, ej13, hinj13, h⟩ := ga_x h
      refine a_ll X hH (3 + j12) (co_6 (P := fun jj => ((wX0 g a i xs))[3 + jj]? = some (a (i + 3 + jj), .inl (g.2.1 1, 7, .inr (.inl ((eq_rows xs) jj))))) rfl rfl rfl rfl rfl rfl hltj12) hinj13 ej13 dX0_clearColumn_76 ?_
      refine lv_lmul hx hb dX0_clearColumn_77 ?_
      refine lv_lload hx hb dX0_clearColumn_78 (lv_at hl 5 rfl) ?_
      refine lv_aload_n hx hb dX0_clearColumn_80 rfl (lv_at hl 0 rfl) ?_
      refine f_get X hH 0 rfl rfl 2 (by decide) inX0 fX0_21 rfl dX0_clearColumn_81 ?_
      refine lv_iload_n hx hb dX0_clearColumn_84 rfl (lv_at hl 1 rfl) ?_
      obtain ⟨j14, ej14, hinj14, h⟩ := ga_x h
      have hltj14 : j14 < 6 := by rw [ej14]; exact vp_lt hinj14
      refine a_al X hH (v := .ref (a (i + 3 + j14))) 2 4 rfl rfl hinj14 ej14 (rf_in hltj14) dX0_clearColumn_85 ?_
      refine lv_iload hx hb dX0_clearColumn_86 (lv_at hl 6 rfl) ?_
      obtain ⟨j15, ej15, hinj15, h⟩ := ga_x h
      refine a_ll X hH (3 + j14) (co_6 (P := fun jj => ((wX0 g a i xs))[3 + jj]? = some (a (i + 3 + jj), .inl (g.2.1 1, 7, .inr (.inl ((eq_rows xs) jj))))) rfl rfl rfl rfl rfl rfl hltj14) hinj15 ej15 dX0_clearColumn_88 ?_
      refine lv_lmul hx hb dX0_clearColumn_89 ?_
      refine lv_lsub hx hb dX0_clearColumn_90 ?_
      refine lv_lload_n hx hb dX0_clearColumn_91 rfl (lv_at hl 2 rfl) ?_
      obtain ⟨o2, ho2, h⟩ := bd_x h
      refine r_SN X hH (ws1 := (wX0 g a i xs)) (As := [.long ((l4 * ((eq_rows xs) j12 j13)) - (l7 * ((eq_rows xs) j14 j15))), .long pb]) (rest := [.int l9, .ref (a (i + 3 + j11))]) (st1 := [.long o2, .int l9, .ref (a (i + 3 + j11))]) (uX8_over  ho2) kX8_over nnX0_86 sX8_over zX8 okX8_over ⟨Nat.le_of_ble_eq_true rfl, Nat.le_of_ble_eq_true rfl⟩ rfl rfl (pm_none _) (pm_none _) rfl hl.1 rfl (Nat.le_of_ble_eq_true rfl) ⟨Nat.le_refl 0, Nat.le_refl 0⟩ rfl dX0_clearColumn_92 (fun H locs hH => ?_)
      obtain ⟨j16, ej16, hinj16, h⟩ := ga_x h
      obtain ⟨xs2, exs2, h⟩ := ltt_x h
      have hwxs2 := co_6 (P := fun jj => ((wX0 g a i xs)).set (3 + jj) (a (i + 3 + jj), .inl (g.2.1 1, 7, .inr (.inl (vp_updL ((eq_rows xs) jj) j16 o2)))) = (wX0 g a i (eq_rows_s xs (va_up (eq_rows xs) jj (vp_updL ((eq_rows xs) jj) j16 o2))))) rfl rfl rfl rfl rfl rfl hltj11
      refine a_ls X hH (ws1 := (wX0 g a i xs2)) (3 + j11) (co_6 (P := fun jj => ((wX0 g a i xs))[3 + jj]? = some (a (i + 3 + jj), .inl (g.2.1 1, 7, .inr (.inl ((eq_rows xs) jj))))) rfl rfl rfl rfl rfl rfl hltj11) hinj16 ej16 (hwxs2.trans (by rw [exs2])) dX0_clearColumn_95 (fun H locs hH => ?_)
      obtain ⟨v4, ev4, h⟩ := ltt_x h
      refine s_inc X (k := 6) (lv' := [(9, .int v4), (0, .ref (a i)), (1, .int pa), (2, .long pb), (4, .long l4), (6, .int l6), (7, .long l7)]) hl rfl (by rw [ev4]; rfl) dX0_clearColumn_96 (by decide) rfl (fun ls hl => ?_)
      refine lv_goto (tgt := 47) hx hb dX0_clearColumn_99 (by decide) ?_
      exact ih xs2 l4 l6 l7 v4 H locs ls h hH (lv_sub hl [1, 2, 3, 4, 5, 6, 0] rfl)
set_option maxHeartbeats 4000000 in
set_option maxRecDepth 100000 in
theorem pX0_clearColumn_142 {p : Program} {l : Launch} {e : Env} {s : State} {m : MethodId} {args : Array Value} {below : List Frame} {meth : Method} {c : Code} {g : GG} {w0 : va_W} {a : Nat → Nat} {i : Nat} {pa : Int32} {pb : Int64} {o : SX0} (X : mX g yX0_clearColumn cX0_clearColumn 10 none p s m args meth c w0)
  {k13 : SX0 → Int64 → Int32 → Option SX0} (K13 : ∀ (xs : SX0) (l4 : Int64) (l6 : Int32) (H : Heap) (locs : List Loc) (ls : Array Slot), k13 xs l4 l6 = some o → mH g s w0 (wX0 g a i xs) H locs → lv_has ls 10 [(0, .ref (a i)), (1, .int pa), (2, .long pb), (4, .long l4), (6, .int l6)] → W p l e (rM 1 23) s m args below meth c H locs 0 0 (mZ g below args s w0 (wX0 g a i o) none) (F0 m 13 ls [])) :
  ∀ (xs : SX0) (l4 : Int64) (l6 : Int32) (H : Heap) (locs : List Loc) (ls : Array Slot), qX0_clearColumn_142 pa pb k13 xs l4 l6 = some o → mH g s w0 (wX0 g a i xs) H locs → lv_has ls 10 [(0, .ref (a i)), (1, .int pa), (2, .long pb), (4, .long l4), (6, .int l6)] → W p l e (rM 1 23) s m args below meth c H locs 0 0 (mZ g below args s w0 (wX0 g a i o) none) (F0 m 142 ls []) := by
  have hx := X.1
  have hb := X.2.1
  intro xs l4 l6 H locs ls h hH hl
  unfold qX0_clearColumn_142 at h
  obtain ⟨v5, ev5, h⟩ := ltt_x h
  refine s_inc X (k := 4) (lv' := [(6, .int v5), (0, .ref (a i)), (1, .int pa), (2, .long pb), (4, .long l4)]) hl rfl (by rw [ev5]; rfl) dX0_clearColumn_142 (by decide) rfl (fun ls hl => ?_)
  refine lv_goto (tgt := 13) hx hb dX0_clearColumn_145 (by decide) ?_
  exact K13 xs l4 v5 H locs ls h hH (lv_sub hl [1, 2, 3, 4, 0] rfl)
set_option maxHeartbeats 4000000 in
set_option maxRecDepth 100000 in
theorem pX0_clearColumn_13 {p : Program} {l : Launch} {e : Env} {s : State} {m : MethodId} {args : Array Value} {below : List Frame} {meth : Method} {c : Code} {g : GG} {w0 : va_W} {a : Nat → Nat} {i : Nat} {pa : Int32} {pb : Int64} {o : SX0} (X : mX g yX0_clearColumn cX0_clearColumn 10 none p s m args meth c w0) :
  ∀ (fu : Nat) (xs : SX0) (l4 : Int64) (l6 : Int32) (H : Heap) (locs : List Loc) (ls : Array Slot), qX0_clearColumn_13 pa pb fu xs l4 l6 = some o → mH g s w0 (wX0 g a i xs) H locs → lv_has ls 10 [(0, .ref (a i)), (1, .int pa), (2, .long pb), (4, .long l4), (6, .int l6)] → W p l e (rM 1 23) s m args below meth c H locs 0 0 (mZ g below args s w0 (wX0 g a i o) none) (F0 m 13 ls []) := by
  have hx := X.1
  have hb := X.2.1
  intro fu
  induction fu with
  | zero =>
    intro xs l4 l6 H locs ls h
    unfold qX0_clearColumn_13 at h
    cases h
  | succ fu ih =>
    intro xs l4 l6 H locs ls h hH hl
    unfold qX0_clearColumn_13 at h
    refine lv_iload hx hb dX0_clearColumn_13 (lv_at hl 4 rfl) ?_
    refine lv_aload_n hx hb dX0_clearColumn_15 rfl (lv_at hl 0 rfl) ?_
    refine f_get X hH 0 rfl rfl 5 (by decide) inX0 fX0_31 rfl dX0_clearColumn_16 ?_
    refine lv_icmp_ge (tgt := 148) hx hb dX0_clearColumn_19 (by decide) (fun c1 => ?_) (fun c1 => ?_)
    · have h := it_x h c1
      have h := Option.some.inj h
      subst h
      exact e_v X hH dX0_clearColumn_148
    · have h := ie_x h c1
      refine lv_iload hx hb dX0_clearColumn_22 (lv_at hl 4 rfl) ?_
      refine lv_iload_n hx hb dX0_clearColumn_24 rfl (lv_at hl 1 rfl) ?_
      refine lv_icmp_ne (tgt := 31) hx hb dX0_clearColumn_25 (by decide) (fun c2 => ?_) (fun c2 => ?_)
      · have h := ie_x h c2
        refine lv_aload_n hx hb dX0_clearColumn_31 rfl (lv_at hl 0 rfl) ?_
        refine f_get X hH 0 rfl rfl 2 (by decide) inX0 fX0_21 rfl dX0_clearColumn_32 ?_
        refine lv_iload hx hb dX0_clearColumn_35 (lv_at hl 4 rfl) ?_
        obtain ⟨j3, ej3, hinj3, h⟩ := ga_x h
        have hltj3 : j3 < 6 := by rw [ej3]; exact vp_lt hinj3
        refine a_al X hH (v := .ref (a (i + 3 + j3))) 2 4 rfl rfl hinj3 ej3 (rf_in hltj3) dX0_clearColumn_37 ?_
        refine lv_iload_n hx hb dX0_clearColumn_38 rfl (lv_at hl 1 rfl) ?_
        obtain ⟨j4, ej4, hinj4, h⟩ := ga_x h
        refine a_ll X hH (3 + j3) (co_6 (P := fun jj => ((wX0 g a i xs))[3 + jj]? = some (a (i + 3 + jj), .inl (g.2.1 1, 7, .inr (.inl ((eq_rows xs) jj))))) rfl rfl rfl rfl rfl rfl hltj3) hinj4 ej4 dX0_clearColumn_39 ?_
        obtain ⟨v2, ev2, h⟩ := ltt_x h
        refine s_l X (lv' := [(7, .long v2), (0, .ref (a i)), (1, .int pa), (2, .long pb), (4, .long l4), (6, .int l6)]) hl ev2 dX0_clearColumn_40 (by decide) rfl (fun ls hl => ?_)
        refine lv_iload_n hx hb dX0_clearColumn_42 rfl (lv_at hl 2 rfl) ?_
        refine lv_iconst (v := (1 : Int32)) hx hb dX0_clearColumn_43 (by decide) ?_
        refine lv_iadd hx hb dX0_clearColumn_44 ?_
        obtain ⟨v3, ev3, h⟩ := ltt_x h
        refine s_i X (lv' := [(9, .int v3), (7, .long v2), (0, .ref (a i)), (1, .int pa), (2, .long pb), (4, .long l4), (6, .int l6)]) hl ev3 dX0_clearColumn_45 (by decide) rfl (fun ls hl => ?_)
        exact pX0_clearColumn_47 X (pX0_clearColumn_142 X ih) FU xs l4 l6 v2 v3 H locs ls h hH (lv_sub hl [2, 3, 4, 5, 6, 1, 0] rfl)
      · have h := it_x h c2
        refine lv_goto (tgt := 142) hx hb dX0_clearColumn_28 (by decide) ?_
        exact pX0_clearColumn_142 X ih xs l4 l6 H locs ls h hH (lv_sub hl [0, 1, 2, 3, 4] rfl)
set_option maxHeartbeats 4000000 in
set_option maxRecDepth 100000 in
theorem uX0_clearColumn {l : Launch} {g : GG} {a : Nat → Nat} {i : Nat} {xs : SX0} {pa : Int32} {pb : Int64} {o : SX0} (h : fX0_clearColumn xs pa pb = some o) : mC l g yX0_clearColumn cX0_clearColumn 10 none (rM 1 23) [.ref (a i), .int pa, .long pb] (wX0 g a i xs) (wX0 g a i o) none := by
  refine mC.ofW (by decide) (fun p e s m below meth c X hH ls _ hl => ?_) (Nat.le_of_ble_eq_true rfl)
  have hx := X.1
  have hb := X.2.1
  have hl : lv_has ls 10 [(0, .ref (a i)), (1, .int pa), (2, .long pb)] := hl
  unfold fX0_clearColumn at h
  suffices HH : ∀ (H : Heap) (locs : List Loc), mH g s (wX0 g a i xs) (wX0 g a i xs) H locs → W p l e (rM 1 23) s m _ below meth c H locs 0 0 (mZ g below _ s (wX0 g a i xs) (wX0 g a i o) none) (F0 m 0 ls []) from HH _ _ hH
  clear hH
  intro H locs hH
  refine lv_aload_n hx hb dX0_clearColumn_0 rfl (lv_at hl 0 rfl) ?_
  refine f_get X hH 0 rfl rfl 2 (by decide) inX0 fX0_21 rfl dX0_clearColumn_1 ?_
  refine lv_iload_n hx hb dX0_clearColumn_4 rfl (lv_at hl 1 rfl) ?_
  obtain ⟨j1, ej1, hinj1, h⟩ := ga_x h
  have hltj1 : j1 < 6 := by rw [ej1]; exact vp_lt hinj1
  refine a_al X hH (v := .ref (a (i + 3 + j1))) 2 4 rfl rfl hinj1 ej1 (rf_in hltj1) dX0_clearColumn_5 ?_
  refine lv_iload_n hx hb dX0_clearColumn_6 rfl (lv_at hl 1 rfl) ?_
  obtain ⟨j2, ej2, hinj2, h⟩ := ga_x h
  refine a_ll X hH (3 + j1) (co_6 (P := fun jj => ((wX0 g a i xs))[3 + jj]? = some (a (i + 3 + jj), .inl (g.2.1 1, 7, .inr (.inl ((eq_rows xs) jj))))) rfl rfl rfl rfl rfl rfl hltj1) hinj2 ej2 dX0_clearColumn_7 ?_
  obtain ⟨v1, ev1, h⟩ := ltt_x h
  refine s_l X (lv' := [(4, .long v1), (0, .ref (a i)), (1, .int pa), (2, .long pb)]) hl ev1 dX0_clearColumn_8 (by decide) rfl (fun ls hl => ?_)
  refine lv_iconst (v := (0 : Int32)) hx hb dX0_clearColumn_10 (by decide) ?_
  refine s_i X (lv' := [(6, .int (0 : Int32)), (4, .long v1), (0, .ref (a i)), (1, .int pa), (2, .long pb)]) hl rfl dX0_clearColumn_11 (by decide) rfl (fun ls hl => ?_)
  exact pX0_clearColumn_13 X FU xs v1 (0 : Int32) H locs ls h hH (lv_sub hl [2, 3, 4, 1, 0] rfl)

def fX8_weightOf (pa : Int32) (pb : Int32) (pc_ : Int32) : Option Int32 :=
  (if pa = (1 : Int32) then
  some ((pc_ + (1 : Int32)) / (2 : Int32))
  else
  (if pa = (2 : Int32) then
  some ((2 : Int32) * pc_)
  else
  (if pa = (3 : Int32) then
  (if ((2 : Int32) * pc_) ≤ pb then
  some (1 : Int32)
  else
  some (((2 : Int32) * pc_) - pb))
  else
  (if pa = (4 : Int32) then
  some (((pc_ + (1 : Int32)) / (2 : Int32)) + (1 : Int32))
  else
  some pc_))))
set_option maxHeartbeats 4000000 in
set_option maxRecDepth 100000 in
theorem uX8_weightOf {l : Launch} {g : GG}  {pa : Int32} {pb : Int32} {pc_ : Int32} {o : Int32} (h : fX8_weightOf pa pb pc_ = some o) : mC l g yX8_weightOf cX8_weightOf 3 (some .int) (rM 0 0) [.int pa, .int pb, .int pc_] [] [] (some (.int o)) := by
  refine mC.ofW (by decide) (fun p e s m below meth c X hH ls _ hl => ?_) (Nat.le_of_ble_eq_true rfl)
  have hx := X.1
  have hb := X.2.1
  have hl : lv_has ls 3 [(0, .int pa), (1, .int pb), (2, .int pc_)] := hl
  unfold fX8_weightOf at h
  suffices HH : ∀ (H : Heap) (locs : List Loc), mH g s [] [] H locs → W p l e (rM 0 0) s m _ below meth c H locs 0 0 (mZ g below _ s [] [] (some (.int o))) (F0 m 0 ls []) from HH _ _ hH
  clear hH
  intro H locs hH
  refine lv_iload_n hx hb dX8_weightOf_0 rfl (lv_at hl 0 rfl) ?_
  rcases Classical.em (pa = (1 : Int32)) with c1 | c1
  · have h := it_x h c1
    refine lv_tableIn (tgt := 32) hx hb dX8_weightOf_1 (by rw [c1]; decide) (by rw [c1]; decide) (off := 31) (by rw [c1]; decide) (by decide) ?_
    refine lv_iload_n hx hb dX8_weightOf_32 rfl (lv_at hl 2 rfl) ?_
    refine lv_iconst (v := (1 : Int32)) hx hb dX8_weightOf_33 (by decide) ?_
    refine lv_iadd hx hb dX8_weightOf_34 ?_
    refine lv_iconst (v := (2 : Int32)) hx hb dX8_weightOf_35 (by decide) ?_
    refine lv_idiv hx hb dX8_weightOf_36 (by decide) ?_
    have h := Option.some.inj h
    subst h
    exact e_i X hH dX8_weightOf_37
  · have h := ie_x h c1
    rcases Classical.em (pa = (2 : Int32)) with c2 | c2
    · have h := it_x h c2
      refine lv_tableIn (tgt := 38) hx hb dX8_weightOf_1 (by rw [c2]; decide) (by rw [c2]; decide) (off := 37) (by rw [c2]; decide) (by decide) ?_
      refine lv_iconst (v := (2 : Int32)) hx hb dX8_weightOf_38 (by decide) ?_
      refine lv_iload_n hx hb dX8_weightOf_39 rfl (lv_at hl 2 rfl) ?_
      refine lv_imul hx hb dX8_weightOf_40 ?_
      have h := Option.some.inj h
      subst h
      exact e_i X hH dX8_weightOf_41
    · have h := ie_x h c2
      rcases Classical.em (pa = (3 : Int32)) with c3 | c3
      · have h := it_x h c3
        refine lv_tableIn (tgt := 42) hx hb dX8_weightOf_1 (by rw [c3]; decide) (by rw [c3]; decide) (off := 41) (by rw [c3]; decide) (by decide) ?_
        refine lv_iconst (v := (2 : Int32)) hx hb dX8_weightOf_42 (by decide) ?_
        refine lv_iload_n hx hb dX8_weightOf_43 rfl (lv_at hl 2 rfl) ?_
        refine lv_imul hx hb dX8_weightOf_44 ?_
        refine lv_iload_n hx hb dX8_weightOf_45 rfl (lv_at hl 1 rfl) ?_
        refine lv_icmp_le (tgt := 57) hx hb dX8_weightOf_46 (by decide) (fun c5 => ?_) (fun c5 => ?_)
        · have h := it_x h c5
          refine lv_iconst (v := (1 : Int32)) hx hb dX8_weightOf_57 (by decide) ?_
          have h := Option.some.inj h
          subst h
          exact e_i X hH dX8_weightOf_58
        · have h := ie_x h c5
          refine lv_iconst (v := (2 : Int32)) hx hb dX8_weightOf_49 (by decide) ?_
          refine lv_iload_n hx hb dX8_weightOf_50 rfl (lv_at hl 2 rfl) ?_
          refine lv_imul hx hb dX8_weightOf_51 ?_
          refine lv_iload_n hx hb dX8_weightOf_52 rfl (lv_at hl 1 rfl) ?_
          refine lv_isub hx hb dX8_weightOf_53 ?_
          refine lv_goto (tgt := 58) hx hb dX8_weightOf_54 (by decide) ?_
          have h := Option.some.inj h
          subst h
          exact e_i X hH dX8_weightOf_58
      · have h := ie_x h c3
        rcases Classical.em (pa = (4 : Int32)) with c4 | c4
        · have h := it_x h c4
          refine lv_tableIn (tgt := 59) hx hb dX8_weightOf_1 (by rw [c4]; decide) (by rw [c4]; decide) (off := 58) (by rw [c4]; decide) (by decide) ?_
          refine lv_iload_n hx hb dX8_weightOf_59 rfl (lv_at hl 2 rfl) ?_
          refine lv_iconst (v := (1 : Int32)) hx hb dX8_weightOf_60 (by decide) ?_
          refine lv_iadd hx hb dX8_weightOf_61 ?_
          refine lv_iconst (v := (2 : Int32)) hx hb dX8_weightOf_62 (by decide) ?_
          refine lv_idiv hx hb dX8_weightOf_63 (by decide) ?_
          refine lv_iconst (v := (1 : Int32)) hx hb dX8_weightOf_64 (by decide) ?_
          refine lv_iadd hx hb dX8_weightOf_65 ?_
          have h := Option.some.inj h
          subst h
          exact e_i X hH dX8_weightOf_66
        · have h := ie_x h c4
          refine lv_tableOut (tgt := 67) hx hb dX8_weightOf_1 (tsw_1_4 (c1) (c2) (c3) (c4)) (by decide) ?_
          refine lv_iload_n hx hb dX8_weightOf_67 rfl (lv_at hl 2 rfl) ?_
          have h := Option.some.inj h
          subst h
          exact e_i X hH dX8_weightOf_68

def fX3_weight (xs : SX3) (pa : Int32) : Option Int32 :=
  ga 11 pa fun j1 =>
  ga 11 pa fun j2 =>
  ga 11 pa fun j3 =>
  (fX8_weightOf ((n_kinds xs) j1) ((n_figures xs) j2) ((n_loads xs) j3)).bind fun o1 =>
  some o1
set_option maxHeartbeats 4000000 in
set_option maxRecDepth 100000 in
theorem uX3_weight {l : Launch} {g : GG} {a : Nat → Nat} {i : Nat} {xs : SX3} {pa : Int32} {o : Int32} (h : fX3_weight xs pa = some o) : mC l g yX3_weight cX3_weight 2 (some .int) (rM 1 22) [.ref (a i), .int pa] (wX3 g a i xs) (wX3 g a i xs) (some (.int o)) := by
  refine mC.ofW (by decide) (fun p e s m below meth c X hH ls _ hl => ?_) (Nat.le_of_ble_eq_true rfl)
  have hx := X.1
  have hb := X.2.1
  have hl : lv_has ls 2 [(0, .ref (a i)), (1, .int pa)] := hl
  unfold fX3_weight at h
  suffices HH : ∀ (H : Heap) (locs : List Loc), mH g s (wX3 g a i xs) (wX3 g a i xs) H locs → W p l e (rM 1 22) s m _ below meth c H locs 0 0 (mZ g below _ s (wX3 g a i xs) (wX3 g a i xs) (some (.int o))) (F0 m 0 ls []) from HH _ _ hH
  clear hH
  intro H locs hH
  refine lv_aload_n hx hb dX3_weight_0 rfl (lv_at hl 0 rfl) ?_
  refine f_get X hH 0 rfl rfl 4 (by decide) inX3 fX3_25 rfl dX3_weight_1 ?_
  refine lv_iload_n hx hb dX3_weight_4 rfl (lv_at hl 1 rfl) ?_
  obtain ⟨j1, ej1, hinj1, h⟩ := ga_x h
  refine a_il X hH 3 rfl hinj1 ej1 dX3_weight_5 ?_
  refine lv_aload_n hx hb dX3_weight_6 rfl (lv_at hl 0 rfl) ?_
  refine f_get X hH 0 rfl rfl 5 (by decide) inX3 fX3_28 rfl dX3_weight_7 ?_
  refine lv_iload_n hx hb dX3_weight_10 rfl (lv_at hl 1 rfl) ?_
  obtain ⟨j2, ej2, hinj2, h⟩ := ga_x h
  refine a_il X hH 4 rfl hinj2 ej2 dX3_weight_11 ?_
  refine lv_aload_n hx hb dX3_weight_12 rfl (lv_at hl 0 rfl) ?_
  refine f_get X hH 0 rfl rfl 6 (by decide) inX3 fX3_31 rfl dX3_weight_13 ?_
  refine lv_iload_n hx hb dX3_weight_16 rfl (lv_at hl 1 rfl) ?_
  obtain ⟨j3, ej3, hinj3, h⟩ := ga_x h
  refine a_il X hH 5 rfl hinj3 ej3 dX3_weight_17 ?_
  obtain ⟨o1, ho1, h⟩ := bd_x h
  refine r_SN X hH (ws1 := (wX3 g a i xs)) (As := [.int ((n_kinds xs) j1), .int ((n_figures xs) j2), .int ((n_loads xs) j3)]) (rest := []) (st1 := [.int o1]) (uX8_weightOf  ho1) kX8_weightOf nnX3_37 sX8_weightOf zX8 okX8_weightOf ⟨Nat.le_of_ble_eq_true rfl, Nat.le_of_ble_eq_true rfl⟩ rfl rfl (pm_none _) (pm_none _) rfl hl.1 rfl (Nat.le_of_ble_eq_true rfl) ⟨Nat.le_refl 0, Nat.le_refl 0⟩ rfl dX3_weight_18 (fun H locs hH => ?_)
  have h := Option.some.inj h
  subst h
  exact e_i X hH dX3_weight_21

def qX0_addWay_34 (pa : Int32) (pb : Int32) (pc_ : Int32)  (xs : SX0) : Option SX0 :=
  (if pa < (0 : Int32) then
  some xs
  else
  (if pb < (0 : Int32) then
  some xs
  else
  ga 6 pa fun j1 =>
  ga 7 pb fun j2 =>
  ltt ((((eq_rows xs) j1 j2) - (pc_.toInt64))) fun v1 =>
  ga 7 pb fun j3 =>
  ltt ((eq_rows_s xs (va_up (eq_rows xs) j1 (vp_updL ((eq_rows xs) j1) j3 v1)))) fun xs1 =>
  ga 6 pb fun j4 =>
  ga 7 pa fun j5 =>
  ltt ((((eq_rows xs1) j4 j5) - (pc_.toInt64))) fun v2 =>
  ga 7 pa fun j6 =>
  ltt ((eq_rows_s xs1 (va_up (eq_rows xs1) j4 (vp_updL ((eq_rows xs1) j4) j6 v2)))) fun xs2 =>
  some xs2))
def qX0_addWay_17 (pa : Int32) (pb : Int32) (pc_ : Int32)  (xs : SX0) : Option SX0 :=
  (if pb < (0 : Int32) then
  qX0_addWay_34 pa pb pc_ xs
  else
  ga 6 pb fun j7 =>
  ga 7 pb fun j8 =>
  ltt ((((eq_rows xs) j7 j8) + (pc_.toInt64))) fun v3 =>
  ga 7 pb fun j9 =>
  ltt ((eq_rows_s xs (va_up (eq_rows xs) j7 (vp_updL ((eq_rows xs) j7) j9 v3)))) fun xs3 =>
  qX0_addWay_34 pa pb pc_ xs3)
def fX0_addWay (xs : SX0) (pa : Int32) (pb : Int32) (pc_ : Int32) : Option SX0 :=
  (if pa < (0 : Int32) then
  qX0_addWay_17 pa pb pc_ xs
  else
  ga 6 pa fun j10 =>
  ga 7 pa fun j11 =>
  ltt ((((eq_rows xs) j10 j11) + (pc_.toInt64))) fun v4 =>
  ga 7 pa fun j12 =>
  ltt ((eq_rows_s xs (va_up (eq_rows xs) j10 (vp_updL ((eq_rows xs) j10) j12 v4)))) fun xs4 =>
  qX0_addWay_17 pa pb pc_ xs4)
set_option maxHeartbeats 4000000 in
set_option maxRecDepth 100000 in
theorem pX0_addWay_34 {p : Program} {l : Launch} {e : Env} {s : State} {m : MethodId} {args : Array Value} {below : List Frame} {meth : Method} {c : Code} {g : GG} {w0 : va_W} {a : Nat → Nat} {i : Nat} {pa : Int32} {pb : Int32} {pc_ : Int32} {o : SX0} (X : mX g yX0_addWay cX0_addWay 4 none p s m args meth c w0) :
  ∀ (xs : SX0) (H : Heap) (locs : List Loc) (ls : Array Slot), qX0_addWay_34 pa pb pc_ xs = some o → mH g s w0 (wX0 g a i xs) H locs → lv_has ls 4 [(0, .ref (a i)), (1, .int pa), (2, .int pb), (3, .int pc_)] → W p l e (rM 0 0) s m args below meth c H locs 0 0 (mZ g below args s w0 (wX0 g a i o) none) (F0 m 34 ls []) := by
  have hx := X.1
  have hb := X.2.1
  intro xs H locs ls h hH hl
  unfold qX0_addWay_34 at h
  refine lv_iload_n hx hb dX0_addWay_34 rfl (lv_at hl 1 rfl) ?_
  refine lv_if_lt (tgt := 68) hx hb dX0_addWay_35 (by decide) (fun c3 => ?_) (fun c3 => ?_)
  · have h := it_x h c3
    have h := Option.some.inj h
    subst h
    exact e_v X hH dX0_addWay_68
  · have h := ie_x h c3
    refine lv_iload_n hx hb dX0_addWay_38 rfl (lv_at hl 2 rfl) ?_
    refine lv_if_lt (tgt := 68) hx hb dX0_addWay_39 (by decide) (fun c4 => ?_) (fun c4 => ?_)
    · have h := it_x h c4
      have h := Option.some.inj h
      subst h
      exact e_v X hH dX0_addWay_68
    · have h := ie_x h c4
      refine lv_aload_n hx hb dX0_addWay_42 rfl (lv_at hl 0 rfl) ?_
      refine f_get X hH 0 rfl rfl 2 (by decide) inX0 fX0_21 rfl dX0_addWay_43 ?_
      refine lv_iload_n hx hb dX0_addWay_46 rfl (lv_at hl 1 rfl) ?_
      obtain ⟨j1, ej1, hinj1, h⟩ := ga_x h
      have hltj1 : j1 < 6 := by rw [ej1]; exact vp_lt hinj1
      refine a_al X hH (v := .ref (a (i + 3 + j1))) 2 4 rfl rfl hinj1 ej1 (rf_in hltj1) dX0_addWay_47 ?_
      refine lv_iload_n hx hb dX0_addWay_48 rfl (lv_at hl 2 rfl) ?_
      refine lv_dup2_11 hx hb dX0_addWay_49 rfl rfl ?_
      obtain ⟨j2, ej2, hinj2, h⟩ := ga_x h
      refine a_ll X hH (3 + j1) (co_6 (P := fun jj => ((wX0 g a i xs))[3 + jj]? = some (a (i + 3 + jj), .inl (g.2.1 1, 7, .inr (.inl ((eq_rows xs) jj))))) rfl rfl rfl rfl rfl rfl hltj1) hinj2 ej2 dX0_addWay_50 ?_
      refine lv_iload_n hx hb dX0_addWay_51 rfl (lv_at hl 3 rfl) ?_
      refine lv_i2l hx hb dX0_addWay_52 rfl ?_
      refine lv_lsub hx hb dX0_addWay_53 ?_
      obtain ⟨v1, ev1, h⟩ := ltt_x h
      refine lv_topl (fun y0 e0 => ?_)
      rw [← ev1] at e0
      subst y0
      obtain ⟨j3, ej3, hinj3, h⟩ := ga_x h
      obtain ⟨xs1, exs1, h⟩ := ltt_x h
      have hwxs1 := co_6 (P := fun jj => ((wX0 g a i xs)).set (3 + jj) (a (i + 3 + jj), .inl (g.2.1 1, 7, .inr (.inl (vp_updL ((eq_rows xs) jj) j3 v1)))) = (wX0 g a i (eq_rows_s xs (va_up (eq_rows xs) jj (vp_updL ((eq_rows xs) jj) j3 v1))))) rfl rfl rfl rfl rfl rfl hltj1
      refine a_ls X hH (ws1 := (wX0 g a i xs1)) (3 + j1) (co_6 (P := fun jj => ((wX0 g a i xs))[3 + jj]? = some (a (i + 3 + jj), .inl (g.2.1 1, 7, .inr (.inl ((eq_rows xs) jj))))) rfl rfl rfl rfl rfl rfl hltj1) hinj3 ej3 (hwxs1.trans (by rw [exs1])) dX0_addWay_54 (fun H locs hH => ?_)
      refine lv_aload_n hx hb dX0_addWay_55 rfl (lv_at hl 0 rfl) ?_
      refine f_get X hH 0 rfl rfl 2 (by decide) inX0 fX0_21 rfl dX0_addWay_56 ?_
      refine lv_iload_n hx hb dX0_addWay_59 rfl (lv_at hl 2 rfl) ?_
      obtain ⟨j4, ej4, hinj4, h⟩ := ga_x h
      have hltj4 : j4 < 6 := by rw [ej4]; exact vp_lt hinj4
      refine a_al X hH (v := .ref (a (i + 3 + j4))) 2 4 rfl rfl hinj4 ej4 (rf_in hltj4) dX0_addWay_60 ?_
      refine lv_iload_n hx hb dX0_addWay_61 rfl (lv_at hl 1 rfl) ?_
      refine lv_dup2_11 hx hb dX0_addWay_62 rfl rfl ?_
      obtain ⟨j5, ej5, hinj5, h⟩ := ga_x h
      refine a_ll X hH (3 + j4) (co_6 (P := fun jj => ((wX0 g a i xs1))[3 + jj]? = some (a (i + 3 + jj), .inl (g.2.1 1, 7, .inr (.inl ((eq_rows xs1) jj))))) rfl rfl rfl rfl rfl rfl hltj4) hinj5 ej5 dX0_addWay_63 ?_
      refine lv_iload_n hx hb dX0_addWay_64 rfl (lv_at hl 3 rfl) ?_
      refine lv_i2l hx hb dX0_addWay_65 rfl ?_
      refine lv_lsub hx hb dX0_addWay_66 ?_
      obtain ⟨v2, ev2, h⟩ := ltt_x h
      refine lv_topl (fun y0 e0 => ?_)
      rw [← ev2] at e0
      subst y0
      obtain ⟨j6, ej6, hinj6, h⟩ := ga_x h
      obtain ⟨xs2, exs2, h⟩ := ltt_x h
      have hwxs2 := co_6 (P := fun jj => ((wX0 g a i xs1)).set (3 + jj) (a (i + 3 + jj), .inl (g.2.1 1, 7, .inr (.inl (vp_updL ((eq_rows xs1) jj) j6 v2)))) = (wX0 g a i (eq_rows_s xs1 (va_up (eq_rows xs1) jj (vp_updL ((eq_rows xs1) jj) j6 v2))))) rfl rfl rfl rfl rfl rfl hltj4
      refine a_ls X hH (ws1 := (wX0 g a i xs2)) (3 + j4) (co_6 (P := fun jj => ((wX0 g a i xs1))[3 + jj]? = some (a (i + 3 + jj), .inl (g.2.1 1, 7, .inr (.inl ((eq_rows xs1) jj))))) rfl rfl rfl rfl rfl rfl hltj4) hinj6 ej6 (hwxs2.trans (by rw [exs2])) dX0_addWay_67 (fun H locs hH => ?_)
      have h := Option.some.inj h
      subst h
      exact e_v X hH dX0_addWay_68
set_option maxHeartbeats 4000000 in
set_option maxRecDepth 100000 in
theorem pX0_addWay_17 {p : Program} {l : Launch} {e : Env} {s : State} {m : MethodId} {args : Array Value} {below : List Frame} {meth : Method} {c : Code} {g : GG} {w0 : va_W} {a : Nat → Nat} {i : Nat} {pa : Int32} {pb : Int32} {pc_ : Int32} {o : SX0} (X : mX g yX0_addWay cX0_addWay 4 none p s m args meth c w0) :
  ∀ (xs : SX0) (H : Heap) (locs : List Loc) (ls : Array Slot), qX0_addWay_17 pa pb pc_ xs = some o → mH g s w0 (wX0 g a i xs) H locs → lv_has ls 4 [(0, .ref (a i)), (1, .int pa), (2, .int pb), (3, .int pc_)] → W p l e (rM 0 0) s m args below meth c H locs 0 0 (mZ g below args s w0 (wX0 g a i o) none) (F0 m 17 ls []) := by
  have hx := X.1
  have hb := X.2.1
  intro xs H locs ls h hH hl
  unfold qX0_addWay_17 at h
  refine lv_iload_n hx hb dX0_addWay_17 rfl (lv_at hl 2 rfl) ?_
  refine lv_if_lt (tgt := 34) hx hb dX0_addWay_18 (by decide) (fun c2 => ?_) (fun c2 => ?_)
  · have h := it_x h c2
    exact pX0_addWay_34 X  xs H locs ls h hH (lv_sub hl [0, 1, 2, 3] rfl)
  · have h := ie_x h c2
    refine lv_aload_n hx hb dX0_addWay_21 rfl (lv_at hl 0 rfl) ?_
    refine f_get X hH 0 rfl rfl 2 (by decide) inX0 fX0_21 rfl dX0_addWay_22 ?_
    refine lv_iload_n hx hb dX0_addWay_25 rfl (lv_at hl 2 rfl) ?_
    obtain ⟨j7, ej7, hinj7, h⟩ := ga_x h
    have hltj7 : j7 < 6 := by rw [ej7]; exact vp_lt hinj7
    refine a_al X hH (v := .ref (a (i + 3 + j7))) 2 4 rfl rfl hinj7 ej7 (rf_in hltj7) dX0_addWay_26 ?_
    refine lv_iload_n hx hb dX0_addWay_27 rfl (lv_at hl 2 rfl) ?_
    refine lv_dup2_11 hx hb dX0_addWay_28 rfl rfl ?_
    obtain ⟨j8, ej8, hinj8, h⟩ := ga_x h
    refine a_ll X hH (3 + j7) (co_6 (P := fun jj => ((wX0 g a i xs))[3 + jj]? = some (a (i + 3 + jj), .inl (g.2.1 1, 7, .inr (.inl ((eq_rows xs) jj))))) rfl rfl rfl rfl rfl rfl hltj7) hinj8 ej8 dX0_addWay_29 ?_
    refine lv_iload_n hx hb dX0_addWay_30 rfl (lv_at hl 3 rfl) ?_
    refine lv_i2l hx hb dX0_addWay_31 rfl ?_
    refine lv_ladd hx hb dX0_addWay_32 ?_
    obtain ⟨v3, ev3, h⟩ := ltt_x h
    refine lv_topl (fun y0 e0 => ?_)
    rw [← ev3] at e0
    subst y0
    obtain ⟨j9, ej9, hinj9, h⟩ := ga_x h
    obtain ⟨xs3, exs3, h⟩ := ltt_x h
    have hwxs3 := co_6 (P := fun jj => ((wX0 g a i xs)).set (3 + jj) (a (i + 3 + jj), .inl (g.2.1 1, 7, .inr (.inl (vp_updL ((eq_rows xs) jj) j9 v3)))) = (wX0 g a i (eq_rows_s xs (va_up (eq_rows xs) jj (vp_updL ((eq_rows xs) jj) j9 v3))))) rfl rfl rfl rfl rfl rfl hltj7
    refine a_ls X hH (ws1 := (wX0 g a i xs3)) (3 + j7) (co_6 (P := fun jj => ((wX0 g a i xs))[3 + jj]? = some (a (i + 3 + jj), .inl (g.2.1 1, 7, .inr (.inl ((eq_rows xs) jj))))) rfl rfl rfl rfl rfl rfl hltj7) hinj9 ej9 (hwxs3.trans (by rw [exs3])) dX0_addWay_33 (fun H locs hH => ?_)
    exact pX0_addWay_34 X  xs3 H locs ls h hH (lv_sub hl [0, 1, 2, 3] rfl)
set_option maxHeartbeats 4000000 in
set_option maxRecDepth 100000 in
theorem uX0_addWay {l : Launch} {g : GG} {a : Nat → Nat} {i : Nat} {xs : SX0} {pa : Int32} {pb : Int32} {pc_ : Int32} {o : SX0} (h : fX0_addWay xs pa pb pc_ = some o) : mC l g yX0_addWay cX0_addWay 4 none (rM 0 0) [.ref (a i), .int pa, .int pb, .int pc_] (wX0 g a i xs) (wX0 g a i o) none := by
  refine mC.ofW (by decide) (fun p e s m below meth c X hH ls _ hl => ?_) (Nat.le_of_ble_eq_true rfl)
  have hx := X.1
  have hb := X.2.1
  have hl : lv_has ls 4 [(0, .ref (a i)), (1, .int pa), (2, .int pb), (3, .int pc_)] := hl
  unfold fX0_addWay at h
  suffices HH : ∀ (H : Heap) (locs : List Loc), mH g s (wX0 g a i xs) (wX0 g a i xs) H locs → W p l e (rM 0 0) s m _ below meth c H locs 0 0 (mZ g below _ s (wX0 g a i xs) (wX0 g a i o) none) (F0 m 0 ls []) from HH _ _ hH
  clear hH
  intro H locs hH
  refine lv_iload_n hx hb dX0_addWay_0 rfl (lv_at hl 1 rfl) ?_
  refine lv_if_lt (tgt := 17) hx hb dX0_addWay_1 (by decide) (fun c1 => ?_) (fun c1 => ?_)
  · have h := it_x h c1
    exact pX0_addWay_17 X  xs H locs ls h hH (lv_sub hl [0, 1, 2, 3] rfl)
  · have h := ie_x h c1
    refine lv_aload_n hx hb dX0_addWay_4 rfl (lv_at hl 0 rfl) ?_
    refine f_get X hH 0 rfl rfl 2 (by decide) inX0 fX0_21 rfl dX0_addWay_5 ?_
    refine lv_iload_n hx hb dX0_addWay_8 rfl (lv_at hl 1 rfl) ?_
    obtain ⟨j10, ej10, hinj10, h⟩ := ga_x h
    have hltj10 : j10 < 6 := by rw [ej10]; exact vp_lt hinj10
    refine a_al X hH (v := .ref (a (i + 3 + j10))) 2 4 rfl rfl hinj10 ej10 (rf_in hltj10) dX0_addWay_9 ?_
    refine lv_iload_n hx hb dX0_addWay_10 rfl (lv_at hl 1 rfl) ?_
    refine lv_dup2_11 hx hb dX0_addWay_11 rfl rfl ?_
    obtain ⟨j11, ej11, hinj11, h⟩ := ga_x h
    refine a_ll X hH (3 + j10) (co_6 (P := fun jj => ((wX0 g a i xs))[3 + jj]? = some (a (i + 3 + jj), .inl (g.2.1 1, 7, .inr (.inl ((eq_rows xs) jj))))) rfl rfl rfl rfl rfl rfl hltj10) hinj11 ej11 dX0_addWay_12 ?_
    refine lv_iload_n hx hb dX0_addWay_13 rfl (lv_at hl 3 rfl) ?_
    refine lv_i2l hx hb dX0_addWay_14 rfl ?_
    refine lv_ladd hx hb dX0_addWay_15 ?_
    obtain ⟨v4, ev4, h⟩ := ltt_x h
    refine lv_topl (fun y0 e0 => ?_)
    rw [← ev4] at e0
    subst y0
    obtain ⟨j12, ej12, hinj12, h⟩ := ga_x h
    obtain ⟨xs4, exs4, h⟩ := ltt_x h
    have hwxs4 := co_6 (P := fun jj => ((wX0 g a i xs)).set (3 + jj) (a (i + 3 + jj), .inl (g.2.1 1, 7, .inr (.inl (vp_updL ((eq_rows xs) jj) j12 v4)))) = (wX0 g a i (eq_rows_s xs (va_up (eq_rows xs) jj (vp_updL ((eq_rows xs) jj) j12 v4))))) rfl rfl rfl rfl rfl rfl hltj10
    refine a_ls X hH (ws1 := (wX0 g a i xs4)) (3 + j10) (co_6 (P := fun jj => ((wX0 g a i xs))[3 + jj]? = some (a (i + 3 + jj), .inl (g.2.1 1, 7, .inr (.inl ((eq_rows xs) jj))))) rfl rfl rfl rfl rfl rfl hltj10) hinj12 ej12 (hwxs4.trans (by rw [exs4])) dX0_addWay_16 (fun H locs hH => ?_)
    exact pX0_addWay_17 X  xs4 H locs ls h hH (lv_sub hl [0, 1, 2, 3] rfl)

def qX0_solve_167 (xt : SX3) (pa : Int32) (pb : Int32) (k125 : SX0 → Int32 → Option SX0) (xs : SX0) (l4 : Int32) (t1 : Int32) (t2 : Int64) : Option SX0 :=
  ga 6 t1 fun j5 =>
  ltt ((eq_above_s xs (vp_updL (eq_above xs) j5 t2))) fun xs2 =>
  ltt (l4 + (1 : Int32)) fun v1 =>
  k125 xs2 v1
def qX0_solve_125 (xt : SX3) (pa : Int32) (pb : Int32)  : Nat → SX0 → Int32 → Option SX0
  | 0, _, _ => none
  | fu + 1, xs, l4 =>
  (if (6 : Int32) ≤ l4 then
  some xs
  else
  ga 6 l4 fun j1 =>
  (if (0 : Int32) ≤ ((eq_rowOf xs) j1) then
  ga 6 l4 fun j2 =>
  ga 6 ((eq_rowOf xs) j2) fun j3 =>
  ga 7 (6 : Int32) fun j4 =>
  qX0_solve_167 xt pa pb (qX0_solve_125 xt pa pb  fu) xs l4 l4 ((eq_rows xs) j3 j4)
  else
  qX0_solve_167 xt pa pb (qX0_solve_125 xt pa pb  fu) xs l4 l4 (0 : Int64)))
def qX0_solve_83 (xt : SX3) (pa : Int32) (pb : Int32)  : Nat → SX0 → Int32 → Option SX0
  | 0, _, _ => none
  | fu + 1, xs, l4 =>
  (if (eq_size xs) ≤ l4 then
  qX0_solve_125 xt pa pb FU xs (0 : Int32)
  else
  (fX0_clearColumn xs l4 (eq_below xs)).bind fun o3 =>
  ga 6 l4 fun j6 =>
  ga 7 l4 fun j7 =>
  ltt (((eq_rows o3) j6 j7)) fun v2 =>
  ltt ((eq_below_s o3 v2)) fun xs3 =>
  ltt (l4 + (1 : Int32)) fun v3 =>
  qX0_solve_83 xt pa pb  fu xs3 v3)
def qX0_solve_69 (xt : SX3) (pa : Int32) (pb : Int32) (k17 : SX0 → Int32 → Option SX0) (xs : SX0) (l4 : Int32) : Option SX0 :=
  ltt (l4 + (1 : Int32)) fun v4 =>
  k17 xs v4
def qX0_solve_17 (xt : SX3) (pa : Int32) (pb : Int32)  : Nat → SX0 → Int32 → Option SX0
  | 0, _, _ => none
  | fu + 1, xs, l4 =>
  (if (n_ways xt) ≤ l4 then
  ltt ((eq_below_s xs (1 : Int64))) fun xs1 =>
  qX0_solve_83 xt pa pb FU xs1 (0 : Int32)
  else
  (fX8_has pa l4).bind fun o4 =>
  (if o4 = (0 : Int32) then
  qX0_solve_69 xt pa pb (qX0_solve_17 xt pa pb  fu) xs l4
  else
  ga 11 l4 fun j8 =>
  ga 6 ((n_first xt) j8) fun j9 =>
  ga 11 l4 fun j10 =>
  ga 6 ((n_second xt) j10) fun j11 =>
  (fX3_weight xt l4).bind fun o5 =>
  (fX0_addWay xs ((eq_rowOf xs) j9) ((eq_rowOf xs) j11) o5).bind fun o6 =>
  qX0_solve_69 xt pa pb (qX0_solve_17 xt pa pb  fu) o6 l4))
def fX0_solve (xs : SX0) (xt : SX3) (pa : Int32) (pb : Int32) : Option SX0 :=
  (fX3_reached xt pb pa).bind fun o1 =>
  (fX0_layRows xs (o1 &&& (pb ^^^ (-1 : Int32)))).bind fun o2 =>
  qX0_solve_17 xt pa pb FU o2 (0 : Int32)
set_option maxHeartbeats 4000000 in
set_option maxRecDepth 100000 in
theorem pX0_solve_167 {p : Program} {l : Launch} {e : Env} {s : State} {m : MethodId} {args : Array Value} {below : List Frame} {meth : Method} {c : Code} {g : GG} {w0 : va_W} {a : Nat → Nat} {i : Nat} {b : Nat → Nat} {j : Nat} {xt : SX3} {pa : Int32} {pb : Int32} {o : SX0} (X : mX g yX0_solve cX0_solve 5 none p s m args meth c w0)
  {k125 : SX0 → Int32 → Option SX0} (K125 : ∀ (xs : SX0) (l4 : Int32) (H : Heap) (locs : List Loc) (ls : Array Slot), k125 xs l4 = some o → mH g s w0 ((wX0 g a i xs) ++ (wX3 g b j xt)) H locs → lv_has ls 5 [(0, .ref (a i)), (1, .ref (b j)), (2, .int pa), (3, .int pb), (4, .int l4)] → W p l e (rM 2 52) s m args below meth c H locs 0 0 (mZ g below args s w0 ((wX0 g a i o) ++ (wX3 g b j xt)) none) (F0 m 125 ls [])) :
  ∀ (xs : SX0) (l4 : Int32) (t1 : Int32) (t2 : Int64) (H : Heap) (locs : List Loc) (ls : Array Slot), qX0_solve_167 xt pa pb k125 xs l4 t1 t2 = some o → mH g s w0 ((wX0 g a i xs) ++ (wX3 g b j xt)) H locs → lv_has ls 5 [(0, .ref (a i)), (1, .ref (b j)), (2, .int pa), (3, .int pb), (4, .int l4)] → W p l e (rM 2 52) s m args below meth c H locs 0 0 (mZ g below args s w0 ((wX0 g a i o) ++ (wX3 g b j xt)) none) (F0 m 167 ls [.long t2, .int t1, .ref (a (i + 1))]) := by
  have hx := X.1
  have hb := X.2.1
  intro xs l4 t1 t2 H locs ls h hH hl
  unfold qX0_solve_167 at h
  obtain ⟨j5, ej5, hinj5, h⟩ := ga_x h
  obtain ⟨xs2, exs2, h⟩ := ltt_x h
  refine a_ls X hH (ws1 := ((wX0 g a i xs2) ++ (wX3 g b j xt))) 1 rfl hinj5 ej5 (by rw [exs2]; rfl) dX0_solve_167 (fun H locs hH => ?_)
  obtain ⟨v1, ev1, h⟩ := ltt_x h
  refine s_inc X (k := 4) (lv' := [(4, .int v1), (0, .ref (a i)), (1, .ref (b j)), (2, .int pa), (3, .int pb)]) hl rfl (by rw [ev1]; rfl) dX0_solve_168 (by decide) rfl (fun ls hl => ?_)
  refine lv_goto (tgt := 125) hx hb dX0_solve_171 (by decide) ?_
  exact K125 xs2 v1 H locs ls h hH (lv_sub hl [1, 2, 3, 4, 0] rfl)
set_option maxHeartbeats 4000000 in
set_option maxRecDepth 100000 in
theorem pX0_solve_125 {p : Program} {l : Launch} {e : Env} {s : State} {m : MethodId} {args : Array Value} {below : List Frame} {meth : Method} {c : Code} {g : GG} {w0 : va_W} {a : Nat → Nat} {i : Nat} {b : Nat → Nat} {j : Nat} {xt : SX3} {pa : Int32} {pb : Int32} {o : SX0} (X : mX g yX0_solve cX0_solve 5 none p s m args meth c w0) :
  ∀ (fu : Nat) (xs : SX0) (l4 : Int32) (H : Heap) (locs : List Loc) (ls : Array Slot), qX0_solve_125 xt pa pb fu xs l4 = some o → mH g s w0 ((wX0 g a i xs) ++ (wX3 g b j xt)) H locs → lv_has ls 5 [(0, .ref (a i)), (1, .ref (b j)), (2, .int pa), (3, .int pb), (4, .int l4)] → W p l e (rM 2 52) s m args below meth c H locs 0 0 (mZ g below args s w0 ((wX0 g a i o) ++ (wX3 g b j xt)) none) (F0 m 125 ls []) := by
  have hx := X.1
  have hb := X.2.1
  intro fu
  induction fu with
  | zero =>
    intro xs l4 H locs ls h
    unfold qX0_solve_125 at h
    cases h
  | succ fu ih =>
    intro xs l4 H locs ls h hH hl
    unfold qX0_solve_125 at h
    refine lv_iload hx hb dX0_solve_125 (lv_at hl 4 rfl) ?_
    refine lv_bipush (v := (6 : Int32)) hx hb dX0_solve_127 (by decide) ?_
    refine lv_icmp_ge (tgt := 174) hx hb dX0_solve_129 (by decide) (fun c3 => ?_) (fun c3 => ?_)
    · have h := it_x h c3
      have h := Option.some.inj h
      subst h
      exact e_v X hH dX0_solve_174
    · have h := ie_x h c3
      refine lv_aload_n hx hb dX0_solve_132 rfl (lv_at hl 0 rfl) ?_
      refine f_get X hH 0 rfl rfl 0 (by decide) inX0 fX0_9 rfl dX0_solve_133 ?_
      refine lv_iload hx hb dX0_solve_136 (lv_at hl 4 rfl) ?_
      refine lv_aload_n hx hb dX0_solve_138 rfl (lv_at hl 0 rfl) ?_
      refine f_get X hH 0 rfl rfl 3 (by decide) inX0 fX0_24 rfl dX0_solve_139 ?_
      refine lv_iload hx hb dX0_solve_142 (lv_at hl 4 rfl) ?_
      obtain ⟨j1, ej1, hinj1, h⟩ := ga_x h
      refine a_il X hH 9 rfl hinj1 ej1 dX0_solve_144 ?_
      refine lv_if_ge (tgt := 152) hx hb dX0_solve_145 (by decide) (fun c4 => ?_) (fun c4 => ?_)
      · have h := it_x h c4
        refine lv_aload_n hx hb dX0_solve_152 rfl (lv_at hl 0 rfl) ?_
        refine f_get X hH 0 rfl rfl 2 (by decide) inX0 fX0_21 rfl dX0_solve_153 ?_
        refine lv_aload_n hx hb dX0_solve_156 rfl (lv_at hl 0 rfl) ?_
        refine f_get X hH 0 rfl rfl 3 (by decide) inX0 fX0_24 rfl dX0_solve_157 ?_
        refine lv_iload hx hb dX0_solve_160 (lv_at hl 4 rfl) ?_
        obtain ⟨j2, ej2, hinj2, h⟩ := ga_x h
        refine a_il X hH 9 rfl hinj2 ej2 dX0_solve_162 ?_
        obtain ⟨j3, ej3, hinj3, h⟩ := ga_x h
        have hltj3 : j3 < 6 := by rw [ej3]; exact vp_lt hinj3
        refine a_al X hH (v := .ref (a (i + 3 + j3))) 2 4 rfl rfl hinj3 ej3 (rf_in hltj3) dX0_solve_163 ?_
        refine lv_bipush (v := (6 : Int32)) hx hb dX0_solve_164 (by decide) ?_
        obtain ⟨j4, ej4, hinj4, h⟩ := ga_x h
        refine a_ll X hH (3 + j3) (co_6 (P := fun jj => (((wX0 g a i xs) ++ (wX3 g b j xt)))[3 + jj]? = some (a (i + 3 + jj), .inl (g.2.1 1, 7, .inr (.inl ((eq_rows xs) jj))))) rfl rfl rfl rfl rfl rfl hltj3) hinj4 ej4 dX0_solve_166 ?_
        exact pX0_solve_167 X ih xs l4 l4 ((eq_rows xs) j3 j4) H locs ls h hH (lv_sub hl [0, 1, 2, 3, 4] rfl)
      · have h := ie_x h c4
        refine lv_lconst (v := (0 : Int64)) hx hb dX0_solve_148 (by decide) ?_
        refine lv_goto (tgt := 167) hx hb dX0_solve_149 (by decide) ?_
        exact pX0_solve_167 X ih xs l4 l4 (0 : Int64) H locs ls h hH (lv_sub hl [0, 1, 2, 3, 4] rfl)
set_option maxHeartbeats 4000000 in
set_option maxRecDepth 100000 in
theorem pX0_solve_83 {p : Program} {l : Launch} {e : Env} {s : State} {m : MethodId} {args : Array Value} {below : List Frame} {meth : Method} {c : Code} {g : GG} {w0 : va_W} {a : Nat → Nat} {i : Nat} {b : Nat → Nat} {j : Nat} {xt : SX3} {pa : Int32} {pb : Int32} {o : SX0} (X : mX g yX0_solve cX0_solve 5 none p s m args meth c w0) :
  ∀ (fu : Nat) (xs : SX0) (l4 : Int32) (H : Heap) (locs : List Loc) (ls : Array Slot), qX0_solve_83 xt pa pb fu xs l4 = some o → mH g s w0 ((wX0 g a i xs) ++ (wX3 g b j xt)) H locs → lv_has ls 5 [(0, .ref (a i)), (1, .ref (b j)), (2, .int pa), (3, .int pb), (4, .int l4)] → W p l e (rM 2 52) s m args below meth c H locs 0 0 (mZ g below args s w0 ((wX0 g a i o) ++ (wX3 g b j xt)) none) (F0 m 83 ls []) := by
  have hx := X.1
  have hb := X.2.1
  intro fu
  induction fu with
  | zero =>
    intro xs l4 H locs ls h
    unfold qX0_solve_83 at h
    cases h
  | succ fu ih =>
    intro xs l4 H locs ls h hH hl
    unfold qX0_solve_83 at h
    refine lv_iload hx hb dX0_solve_83 (lv_at hl 4 rfl) ?_
    refine lv_aload_n hx hb dX0_solve_85 rfl (lv_at hl 0 rfl) ?_
    refine f_get X hH 0 rfl rfl 5 (by decide) inX0 fX0_31 rfl dX0_solve_86 ?_
    refine lv_icmp_ge (tgt := 122) hx hb dX0_solve_89 (by decide) (fun c2 => ?_) (fun c2 => ?_)
    · have h := it_x h c2
      refine lv_iconst (v := (0 : Int32)) hx hb dX0_solve_122 (by decide) ?_
      refine s_i X (lv' := [(4, .int (0 : Int32)), (0, .ref (a i)), (1, .ref (b j)), (2, .int pa), (3, .int pb)]) hl rfl dX0_solve_123 (by decide) rfl (fun ls hl => ?_)
      exact pX0_solve_125 X FU xs (0 : Int32) H locs ls h hH (lv_sub hl [1, 2, 3, 4, 0] rfl)
    · have h := ie_x h c2
      refine lv_aload_n hx hb dX0_solve_92 rfl (lv_at hl 0 rfl) ?_
      refine lv_iload hx hb dX0_solve_93 (lv_at hl 4 rfl) ?_
      refine lv_aload_n hx hb dX0_solve_95 rfl (lv_at hl 0 rfl) ?_
      refine f_get X hH 0 rfl rfl 1 (by decide) inX0 fX0_15 rfl dX0_solve_96 ?_
      obtain ⟨o3, ho3, h⟩ := bd_x h
      refine r_V X hH (ws1 := ((wX0 g a i o3) ++ (wX3 g b j xt))) (As := [.int l4, .long (eq_below xs)]) (rest := []) (st1 := []) (uX0_clearColumn (a := a) (i := i) ho3) kX0_clearColumn mX0_82 iX0_clearColumn vX0_clearColumn zX0 okX0_clearColumn ⟨Nat.le_of_ble_eq_true rfl, Nat.le_of_ble_eq_true rfl⟩ rfl rfl (q0 := 0) rfl rfl (pm_0 _ _) (pm_0 _ _) rfl hl.1 rfl (Nat.le_of_ble_eq_true rfl) ⟨Nat.le_refl 0, Nat.le_refl 0⟩ rfl dX0_solve_99 (fun H locs hH => ?_)
      refine lv_aload_n hx hb dX0_solve_102 rfl (lv_at hl 0 rfl) ?_
      refine lv_aload_n hx hb dX0_solve_103 rfl (lv_at hl 0 rfl) ?_
      refine f_get X hH 0 rfl rfl 2 (by decide) inX0 fX0_21 rfl dX0_solve_104 ?_
      refine lv_iload hx hb dX0_solve_107 (lv_at hl 4 rfl) ?_
      obtain ⟨j6, ej6, hinj6, h⟩ := ga_x h
      have hltj6 : j6 < 6 := by rw [ej6]; exact vp_lt hinj6
      refine a_al X hH (v := .ref (a (i + 3 + j6))) 2 4 rfl rfl hinj6 ej6 (rf_in hltj6) dX0_solve_109 ?_
      refine lv_iload hx hb dX0_solve_110 (lv_at hl 4 rfl) ?_
      obtain ⟨j7, ej7, hinj7, h⟩ := ga_x h
      refine a_ll X hH (3 + j6) (co_6 (P := fun jj => (((wX0 g a i o3) ++ (wX3 g b j xt)))[3 + jj]? = some (a (i + 3 + jj), .inl (g.2.1 1, 7, .inr (.inl ((eq_rows o3) jj))))) rfl rfl rfl rfl rfl rfl hltj6) hinj7 ej7 dX0_solve_112 ?_
      obtain ⟨v2, ev2, h⟩ := ltt_x h
      refine lv_topl (fun y0 e0 => ?_)
      rw [← ev2] at e0
      subst y0
      obtain ⟨xs3, exs3, h⟩ := ltt_x h
      refine f_put X hH (ws1 := ((wX0 g a i xs3) ++ (wX3 g b j xt))) 0 rfl rfl 1 (by decide) inX0 tyX0 tyX0_ok nmX0 fX0_15 rfl rfl rfl (Nat.le_of_ble_eq_true rfl) (by rw [exs3]; rfl) dX0_solve_113 (fun H locs hH => ?_)
      obtain ⟨v3, ev3, h⟩ := ltt_x h
      refine s_inc X (k := 4) (lv' := [(4, .int v3), (0, .ref (a i)), (1, .ref (b j)), (2, .int pa), (3, .int pb)]) hl rfl (by rw [ev3]; rfl) dX0_solve_116 (by decide) rfl (fun ls hl => ?_)
      refine lv_goto (tgt := 83) hx hb dX0_solve_119 (by decide) ?_
      exact ih xs3 v3 H locs ls h hH (lv_sub hl [1, 2, 3, 4, 0] rfl)
set_option maxHeartbeats 4000000 in
set_option maxRecDepth 100000 in
theorem pX0_solve_69 {p : Program} {l : Launch} {e : Env} {s : State} {m : MethodId} {args : Array Value} {below : List Frame} {meth : Method} {c : Code} {g : GG} {w0 : va_W} {a : Nat → Nat} {i : Nat} {b : Nat → Nat} {j : Nat} {xt : SX3} {pa : Int32} {pb : Int32} {o : SX0} (X : mX g yX0_solve cX0_solve 5 none p s m args meth c w0)
  {k17 : SX0 → Int32 → Option SX0} (K17 : ∀ (xs : SX0) (l4 : Int32) (H : Heap) (locs : List Loc) (ls : Array Slot), k17 xs l4 = some o → mH g s w0 ((wX0 g a i xs) ++ (wX3 g b j xt)) H locs → lv_has ls 5 [(0, .ref (a i)), (1, .ref (b j)), (2, .int pa), (3, .int pb), (4, .int l4)] → W p l e (rM 2 52) s m args below meth c H locs 0 0 (mZ g below args s w0 ((wX0 g a i o) ++ (wX3 g b j xt)) none) (F0 m 17 ls [])) :
  ∀ (xs : SX0) (l4 : Int32) (H : Heap) (locs : List Loc) (ls : Array Slot), qX0_solve_69 xt pa pb k17 xs l4 = some o → mH g s w0 ((wX0 g a i xs) ++ (wX3 g b j xt)) H locs → lv_has ls 5 [(0, .ref (a i)), (1, .ref (b j)), (2, .int pa), (3, .int pb), (4, .int l4)] → W p l e (rM 2 52) s m args below meth c H locs 0 0 (mZ g below args s w0 ((wX0 g a i o) ++ (wX3 g b j xt)) none) (F0 m 69 ls []) := by
  have hx := X.1
  have hb := X.2.1
  intro xs l4 H locs ls h hH hl
  unfold qX0_solve_69 at h
  obtain ⟨v4, ev4, h⟩ := ltt_x h
  refine s_inc X (k := 4) (lv' := [(4, .int v4), (0, .ref (a i)), (1, .ref (b j)), (2, .int pa), (3, .int pb)]) hl rfl (by rw [ev4]; rfl) dX0_solve_69 (by decide) rfl (fun ls hl => ?_)
  refine lv_goto (tgt := 17) hx hb dX0_solve_72 (by decide) ?_
  exact K17 xs v4 H locs ls h hH (lv_sub hl [1, 2, 3, 4, 0] rfl)
set_option maxHeartbeats 4000000 in
set_option maxRecDepth 100000 in
theorem pX0_solve_17 {p : Program} {l : Launch} {e : Env} {s : State} {m : MethodId} {args : Array Value} {below : List Frame} {meth : Method} {c : Code} {g : GG} {w0 : va_W} {a : Nat → Nat} {i : Nat} {b : Nat → Nat} {j : Nat} {xt : SX3} {pa : Int32} {pb : Int32} {o : SX0} (X : mX g yX0_solve cX0_solve 5 none p s m args meth c w0) :
  ∀ (fu : Nat) (xs : SX0) (l4 : Int32) (H : Heap) (locs : List Loc) (ls : Array Slot), qX0_solve_17 xt pa pb fu xs l4 = some o → mH g s w0 ((wX0 g a i xs) ++ (wX3 g b j xt)) H locs → lv_has ls 5 [(0, .ref (a i)), (1, .ref (b j)), (2, .int pa), (3, .int pb), (4, .int l4)] → W p l e (rM 2 52) s m args below meth c H locs 0 0 (mZ g below args s w0 ((wX0 g a i o) ++ (wX3 g b j xt)) none) (F0 m 17 ls []) := by
  have hx := X.1
  have hb := X.2.1
  intro fu
  induction fu with
  | zero =>
    intro xs l4 H locs ls h
    unfold qX0_solve_17 at h
    cases h
  | succ fu ih =>
    intro xs l4 H locs ls h hH hl
    unfold qX0_solve_17 at h
    refine lv_iload hx hb dX0_solve_17 (lv_at hl 4 rfl) ?_
    refine lv_aload_n hx hb dX0_solve_19 rfl (lv_at hl 1 rfl) ?_
    refine f_get X hH 11 rfl rfl 1 (by decide) inX3 fX0_38 rfl dX0_solve_20 ?_
    refine lv_icmp_ge (tgt := 75) hx hb dX0_solve_23 (by decide) (fun c1 => ?_) (fun c1 => ?_)
    · have h := it_x h c1
      refine lv_aload_n hx hb dX0_solve_75 rfl (lv_at hl 0 rfl) ?_
      refine lv_lconst (v := (1 : Int64)) hx hb dX0_solve_76 (by decide) ?_
      obtain ⟨xs1, exs1, h⟩ := ltt_x h
      refine f_put X hH (ws1 := ((wX0 g a i xs1) ++ (wX3 g b j xt))) 0 rfl rfl 1 (by decide) inX0 tyX0 tyX0_ok nmX0 fX0_15 rfl rfl rfl (Nat.le_of_ble_eq_true rfl) (by rw [exs1]; rfl) dX0_solve_77 (fun H locs hH => ?_)
      refine lv_iconst (v := (0 : Int32)) hx hb dX0_solve_80 (by decide) ?_
      refine s_i X (lv' := [(4, .int (0 : Int32)), (0, .ref (a i)), (1, .ref (b j)), (2, .int pa), (3, .int pb)]) hl rfl dX0_solve_81 (by decide) rfl (fun ls hl => ?_)
      exact pX0_solve_83 X FU xs1 (0 : Int32) H locs ls h hH (lv_sub hl [1, 2, 3, 4, 0] rfl)
    · have h := ie_x h c1
      refine lv_iload_n hx hb dX0_solve_26 rfl (lv_at hl 2 rfl) ?_
      refine lv_iload hx hb dX0_solve_27 (lv_at hl 4 rfl) ?_
      obtain ⟨o4, ho4, h⟩ := bd_x h
      refine r_SN X hH (ws1 := ((wX0 g a i xs) ++ (wX3 g b j xt))) (As := [.int pa, .int l4]) (rest := []) (st1 := [.int o4]) (uX8_has  ho4) kX8_has nnX0_43 sX8_has zX8 okX8_has ⟨Nat.le_of_ble_eq_true rfl, Nat.le_of_ble_eq_true rfl⟩ rfl rfl (pm_none _) (pm_none _) rfl hl.1 rfl (Nat.le_of_ble_eq_true rfl) ⟨Nat.le_refl 0, Nat.le_refl 0⟩ rfl dX0_solve_29 (fun H locs hH => ?_)
      refine lv_if_eq (tgt := 69) hx hb dX0_solve_32 (by decide) (fun c5 => ?_) (fun c5 => ?_)
      · have h := it_x h c5
        exact pX0_solve_69 X ih xs l4 H locs ls h hH (lv_sub hl [0, 1, 2, 3, 4] rfl)
      · have h := ie_x h c5
        refine lv_aload_n hx hb dX0_solve_35 rfl (lv_at hl 0 rfl) ?_
        refine lv_aload_n hx hb dX0_solve_36 rfl (lv_at hl 0 rfl) ?_
        refine f_get X hH 0 rfl rfl 3 (by decide) inX0 fX0_24 rfl dX0_solve_37 ?_
        refine lv_aload_n hx hb dX0_solve_40 rfl (lv_at hl 1 rfl) ?_
        refine f_get X hH 11 rfl rfl 2 (by decide) inX3 fX0_54 rfl dX0_solve_41 ?_
        refine lv_iload hx hb dX0_solve_44 (lv_at hl 4 rfl) ?_
        obtain ⟨j8, ej8, hinj8, h⟩ := ga_x h
        refine a_il X hH 12 rfl hinj8 ej8 dX0_solve_46 ?_
        obtain ⟨j9, ej9, hinj9, h⟩ := ga_x h
        refine a_il X hH 9 rfl hinj9 ej9 dX0_solve_47 ?_
        refine lv_aload_n hx hb dX0_solve_48 rfl (lv_at hl 0 rfl) ?_
        refine f_get X hH 0 rfl rfl 3 (by decide) inX0 fX0_24 rfl dX0_solve_49 ?_
        refine lv_aload_n hx hb dX0_solve_52 rfl (lv_at hl 1 rfl) ?_
        refine f_get X hH 11 rfl rfl 3 (by decide) inX3 fX0_57 rfl dX0_solve_53 ?_
        refine lv_iload hx hb dX0_solve_56 (lv_at hl 4 rfl) ?_
        obtain ⟨j10, ej10, hinj10, h⟩ := ga_x h
        refine a_il X hH 13 rfl hinj10 ej10 dX0_solve_58 ?_
        obtain ⟨j11, ej11, hinj11, h⟩ := ga_x h
        refine a_il X hH 9 rfl hinj11 ej11 dX0_solve_59 ?_
        refine lv_aload_n hx hb dX0_solve_60 rfl (lv_at hl 1 rfl) ?_
        refine lv_iload hx hb dX0_solve_61 (lv_at hl 4 rfl) ?_
        obtain ⟨o5, ho5, h⟩ := bd_x h
        refine r_V X hH (ws1 := ((wX0 g a i xs) ++ (wX3 g b j xt))) (As := [.int l4]) (rest := [.int ((eq_rowOf xs) j11), .int ((eq_rowOf xs) j9), .ref (a i)]) (st1 := [.int o5, .int ((eq_rowOf xs) j11), .int ((eq_rowOf xs) j9), .ref (a i)]) (uX3_weight (a := b) (i := j) ho5) kX3_weight mX0_47 iX3_weight vX3_weight zX3 okX3_weight ⟨Nat.le_of_ble_eq_true rfl, Nat.le_of_ble_eq_true rfl⟩ rfl rfl (q0 := 11) rfl rfl (pm_s (pm_all _)) (pm_s (pm_all _)) rfl hl.1 rfl (Nat.le_of_ble_eq_true rfl) ⟨Nat.le_refl 0, Nat.le_refl 0⟩ rfl dX0_solve_63 (fun H locs hH => ?_)
        obtain ⟨o6, ho6, h⟩ := bd_x h
        refine r_V X hH (ws1 := ((wX0 g a i o6) ++ (wX3 g b j xt))) (As := [.int ((eq_rowOf xs) j9), .int ((eq_rowOf xs) j11), .int o5]) (rest := []) (st1 := []) (uX0_addWay (a := a) (i := i) ho6) kX0_addWay mX0_78 iX0_addWay vX0_addWay zX0 okX0_addWay ⟨Nat.le_of_ble_eq_true rfl, Nat.le_of_ble_eq_true rfl⟩ rfl rfl (q0 := 0) rfl rfl (pm_0 _ _) (pm_0 _ _) rfl hl.1 rfl (Nat.le_of_ble_eq_true rfl) ⟨Nat.le_refl 0, Nat.le_refl 0⟩ rfl dX0_solve_66 (fun H locs hH => ?_)
        exact pX0_solve_69 X ih o6 l4 H locs ls h hH (lv_sub hl [0, 1, 2, 3, 4] rfl)
set_option maxHeartbeats 4000000 in
set_option maxRecDepth 100000 in
theorem uX0_solve {l : Launch} {g : GG} {a : Nat → Nat} {i : Nat} {b : Nat → Nat} {j : Nat} {xs : SX0} {xt : SX3} {pa : Int32} {pb : Int32} {o : SX0} (h : fX0_solve xs xt pa pb = some o) : mC l g yX0_solve cX0_solve 5 none (rM 2 52) [.ref (a i), .ref (b j), .int pa, .int pb] ((wX0 g a i xs) ++ (wX3 g b j xt)) ((wX0 g a i o) ++ (wX3 g b j xt)) none := by
  refine mC.ofW (by decide) (fun p e s m below meth c X hH ls _ hl => ?_) (Nat.le_of_ble_eq_true rfl)
  have hx := X.1
  have hb := X.2.1
  have hl : lv_has ls 5 [(0, .ref (a i)), (1, .ref (b j)), (2, .int pa), (3, .int pb)] := hl
  unfold fX0_solve at h
  suffices HH : ∀ (H : Heap) (locs : List Loc), mH g s ((wX0 g a i xs) ++ (wX3 g b j xt)) ((wX0 g a i xs) ++ (wX3 g b j xt)) H locs → W p l e (rM 2 52) s m _ below meth c H locs 0 0 (mZ g below _ s ((wX0 g a i xs) ++ (wX3 g b j xt)) ((wX0 g a i o) ++ (wX3 g b j xt)) none) (F0 m 0 ls []) from HH _ _ hH
  clear hH
  intro H locs hH
  refine lv_aload_n hx hb dX0_solve_0 rfl (lv_at hl 0 rfl) ?_
  refine lv_aload_n hx hb dX0_solve_1 rfl (lv_at hl 1 rfl) ?_
  refine lv_iload_n hx hb dX0_solve_2 rfl (lv_at hl 3 rfl) ?_
  refine lv_iload_n hx hb dX0_solve_3 rfl (lv_at hl 2 rfl) ?_
  obtain ⟨o1, ho1, h⟩ := bd_x h
  refine r_V X hH (ws1 := ((wX0 g a i xs) ++ (wX3 g b j xt))) (As := [.int pb, .int pa]) (rest := [.ref (a i)]) (st1 := [.int o1, .ref (a i)]) (uX3_reached (a := b) (i := j) ho1) kX3_reached mX0_71 iX3_reached vX3_reached zX3 okX3_reached ⟨Nat.le_of_ble_eq_true rfl, Nat.le_of_ble_eq_true rfl⟩ rfl rfl (q0 := 11) rfl rfl (pm_s (pm_all _)) (pm_s (pm_all _)) rfl hl.1 rfl (Nat.le_of_ble_eq_true rfl) ⟨Nat.le_refl 0, Nat.le_refl 0⟩ rfl dX0_solve_4 (fun H locs hH => ?_)
  refine lv_iload_n hx hb dX0_solve_7 rfl (lv_at hl 3 rfl) ?_
  refine lv_iconst (v := (-1 : Int32)) hx hb dX0_solve_8 (by decide) ?_
  refine lv_ixor hx hb dX0_solve_9 ?_
  refine lv_iand hx hb dX0_solve_10 ?_
  obtain ⟨o2, ho2, h⟩ := bd_x h
  refine r_V X hH (ws1 := ((wX0 g a i o2) ++ (wX3 g b j xt))) (As := [.int (o1 &&& (pb ^^^ (-1 : Int32)))]) (rest := []) (st1 := []) (uX0_layRows (a := a) (i := i) ho2) kX0_layRows mX0_74 iX0_layRows vX0_layRows zX0 okX0_layRows ⟨Nat.le_of_ble_eq_true rfl, Nat.le_of_ble_eq_true rfl⟩ rfl rfl (q0 := 0) rfl rfl (pm_0 _ _) (pm_0 _ _) rfl hl.1 rfl (Nat.le_of_ble_eq_true rfl) ⟨Nat.le_refl 0, Nat.le_refl 0⟩ rfl dX0_solve_11 (fun H locs hH => ?_)
  refine lv_iconst (v := (0 : Int32)) hx hb dX0_solve_14 (by decide) ?_
  refine s_i X (lv' := [(4, .int (0 : Int32)), (0, .ref (a i)), (1, .ref (b j)), (2, .int pa), (3, .int pb)]) hl rfl dX0_solve_15 (by decide) rfl (fun ls hl => ?_)
  exact pX0_solve_17 X FU o2 (0 : Int32) H locs ls h hH (lv_sub hl [1, 2, 3, 4, 0] rfl)

def qX8_minutesOf_32 (pa : Int32) (pb : Int32) (pc_ : Int32)   : Option Int32 :=
  some ((pc_ + (1 : Int32)) / (2 : Int32))
def fX8_minutesOf (pa : Int32) (pb : Int32) (pc_ : Int32) : Option Int32 :=
  (if pa = (2 : Int32) then
  qX8_minutesOf_32 pa pb pc_ 
  else
  (if pa = (3 : Int32) then
  qX8_minutesOf_32 pa pb pc_ 
  else
  (if pa = (4 : Int32) then
  some (pc_ + pb)
  else
  (if pa = (5 : Int32) then
  some (pc_ + pb)
  else
  some pc_))))
set_option maxHeartbeats 4000000 in
set_option maxRecDepth 100000 in
theorem pX8_minutesOf_32 {p : Program} {l : Launch} {e : Env} {s : State} {m : MethodId} {args : Array Value} {below : List Frame} {meth : Method} {c : Code} {g : GG} {w0 : va_W}  {pa : Int32} {pb : Int32} {pc_ : Int32} {o : Int32} (X : mX g yX8_minutesOf cX8_minutesOf 3 (some .int) p s m args meth c w0) :
  ∀  (H : Heap) (locs : List Loc) (ls : Array Slot), qX8_minutesOf_32 pa pb pc_ = some o → mH g s w0 [] H locs → lv_has ls 3 [(0, .int pa), (1, .int pb), (2, .int pc_)] → W p l e (rM 0 0) s m args below meth c H locs 0 0 (mZ g below args s w0 [] (some (.int o))) (F0 m 32 ls []) := by
  have hx := X.1
  have hb := X.2.1
  intro  H locs ls h hH hl
  unfold qX8_minutesOf_32 at h
  refine lv_iload_n hx hb dX8_minutesOf_32 rfl (lv_at hl 2 rfl) ?_
  refine lv_iconst (v := (1 : Int32)) hx hb dX8_minutesOf_33 (by decide) ?_
  refine lv_iadd hx hb dX8_minutesOf_34 ?_
  refine lv_iconst (v := (2 : Int32)) hx hb dX8_minutesOf_35 (by decide) ?_
  refine lv_idiv hx hb dX8_minutesOf_36 (by decide) ?_
  have h := Option.some.inj h
  subst h
  exact e_i X hH dX8_minutesOf_37
set_option maxHeartbeats 4000000 in
set_option maxRecDepth 100000 in
theorem uX8_minutesOf {l : Launch} {g : GG}  {pa : Int32} {pb : Int32} {pc_ : Int32} {o : Int32} (h : fX8_minutesOf pa pb pc_ = some o) : mC l g yX8_minutesOf cX8_minutesOf 3 (some .int) (rM 0 0) [.int pa, .int pb, .int pc_] [] [] (some (.int o)) := by
  refine mC.ofW (by decide) (fun p e s m below meth c X hH ls _ hl => ?_) (Nat.le_of_ble_eq_true rfl)
  have hx := X.1
  have hb := X.2.1
  have hl : lv_has ls 3 [(0, .int pa), (1, .int pb), (2, .int pc_)] := hl
  unfold fX8_minutesOf at h
  suffices HH : ∀ (H : Heap) (locs : List Loc), mH g s [] [] H locs → W p l e (rM 0 0) s m _ below meth c H locs 0 0 (mZ g below _ s [] [] (some (.int o))) (F0 m 0 ls []) from HH _ _ hH
  clear hH
  intro H locs hH
  refine lv_iload_n hx hb dX8_minutesOf_0 rfl (lv_at hl 0 rfl) ?_
  rcases Classical.em (pa = (2 : Int32)) with c1 | c1
  · have h := it_x h c1
    refine lv_tableIn (tgt := 32) hx hb dX8_minutesOf_1 (by rw [c1]; decide) (by rw [c1]; decide) (off := 31) (by rw [c1]; decide) (by decide) ?_
    exact pX8_minutesOf_32 X   H locs ls h hH (lv_sub hl [0, 1, 2] rfl)
  · have h := ie_x h c1
    rcases Classical.em (pa = (3 : Int32)) with c2 | c2
    · have h := it_x h c2
      refine lv_tableIn (tgt := 32) hx hb dX8_minutesOf_1 (by rw [c2]; decide) (by rw [c2]; decide) (off := 31) (by rw [c2]; decide) (by decide) ?_
      exact pX8_minutesOf_32 X   H locs ls h hH (lv_sub hl [0, 1, 2] rfl)
    · have h := ie_x h c2
      rcases Classical.em (pa = (4 : Int32)) with c3 | c3
      · have h := it_x h c3
        refine lv_tableIn (tgt := 38) hx hb dX8_minutesOf_1 (by rw [c3]; decide) (by rw [c3]; decide) (off := 37) (by rw [c3]; decide) (by decide) ?_
        refine lv_iload_n hx hb dX8_minutesOf_38 rfl (lv_at hl 2 rfl) ?_
        refine lv_iload_n hx hb dX8_minutesOf_39 rfl (lv_at hl 1 rfl) ?_
        refine lv_iadd hx hb dX8_minutesOf_40 ?_
        have h := Option.some.inj h
        subst h
        exact e_i X hH dX8_minutesOf_41
      · have h := ie_x h c3
        rcases Classical.em (pa = (5 : Int32)) with c4 | c4
        · have h := it_x h c4
          refine lv_tableIn (tgt := 38) hx hb dX8_minutesOf_1 (by rw [c4]; decide) (by rw [c4]; decide) (off := 37) (by rw [c4]; decide) (by decide) ?_
          refine lv_iload_n hx hb dX8_minutesOf_38 rfl (lv_at hl 2 rfl) ?_
          refine lv_iload_n hx hb dX8_minutesOf_39 rfl (lv_at hl 1 rfl) ?_
          refine lv_iadd hx hb dX8_minutesOf_40 ?_
          have h := Option.some.inj h
          subst h
          exact e_i X hH dX8_minutesOf_41
        · have h := ie_x h c4
          refine lv_tableOut (tgt := 42) hx hb dX8_minutesOf_1 (tsw_2_5 (c1) (c2) (c3) (c4)) (by decide) ?_
          refine lv_iload_n hx hb dX8_minutesOf_42 rfl (lv_at hl 2 rfl) ?_
          have h := Option.some.inj h
          subst h
          exact e_i X hH dX8_minutesOf_43

def fX3_minutes (xs : SX3) (pa : Int32) : Option Int32 :=
  ga 11 pa fun j1 =>
  ga 11 pa fun j2 =>
  ga 11 pa fun j3 =>
  (fX8_minutesOf ((n_kinds xs) j1) ((n_figures xs) j2) ((n_lengths xs) j3)).bind fun o1 =>
  some o1
set_option maxHeartbeats 4000000 in
set_option maxRecDepth 100000 in
theorem uX3_minutes {l : Launch} {g : GG} {a : Nat → Nat} {i : Nat} {xs : SX3} {pa : Int32} {o : Int32} (h : fX3_minutes xs pa = some o) : mC l g yX3_minutes cX3_minutes 2 (some .int) (rM 1 22) [.ref (a i), .int pa] (wX3 g a i xs) (wX3 g a i xs) (some (.int o)) := by
  refine mC.ofW (by decide) (fun p e s m below meth c X hH ls _ hl => ?_) (Nat.le_of_ble_eq_true rfl)
  have hx := X.1
  have hb := X.2.1
  have hl : lv_has ls 2 [(0, .ref (a i)), (1, .int pa)] := hl
  unfold fX3_minutes at h
  suffices HH : ∀ (H : Heap) (locs : List Loc), mH g s (wX3 g a i xs) (wX3 g a i xs) H locs → W p l e (rM 1 22) s m _ below meth c H locs 0 0 (mZ g below _ s (wX3 g a i xs) (wX3 g a i xs) (some (.int o))) (F0 m 0 ls []) from HH _ _ hH
  clear hH
  intro H locs hH
  refine lv_aload_n hx hb dX3_minutes_0 rfl (lv_at hl 0 rfl) ?_
  refine f_get X hH 0 rfl rfl 4 (by decide) inX3 fX3_25 rfl dX3_minutes_1 ?_
  refine lv_iload_n hx hb dX3_minutes_4 rfl (lv_at hl 1 rfl) ?_
  obtain ⟨j1, ej1, hinj1, h⟩ := ga_x h
  refine a_il X hH 3 rfl hinj1 ej1 dX3_minutes_5 ?_
  refine lv_aload_n hx hb dX3_minutes_6 rfl (lv_at hl 0 rfl) ?_
  refine f_get X hH 0 rfl rfl 5 (by decide) inX3 fX3_28 rfl dX3_minutes_7 ?_
  refine lv_iload_n hx hb dX3_minutes_10 rfl (lv_at hl 1 rfl) ?_
  obtain ⟨j2, ej2, hinj2, h⟩ := ga_x h
  refine a_il X hH 4 rfl hinj2 ej2 dX3_minutes_11 ?_
  refine lv_aload_n hx hb dX3_minutes_12 rfl (lv_at hl 0 rfl) ?_
  refine f_get X hH 0 rfl rfl 7 (by decide) inX3 fX3_34 rfl dX3_minutes_13 ?_
  refine lv_iload_n hx hb dX3_minutes_16 rfl (lv_at hl 1 rfl) ?_
  obtain ⟨j3, ej3, hinj3, h⟩ := ga_x h
  refine a_il X hH 6 rfl hinj3 ej3 dX3_minutes_17 ?_
  obtain ⟨o1, ho1, h⟩ := bd_x h
  refine r_SN X hH (ws1 := (wX3 g a i xs)) (As := [.int ((n_kinds xs) j1), .int ((n_figures xs) j2), .int ((n_lengths xs) j3)]) (rest := []) (st1 := [.int o1]) (uX8_minutesOf  ho1) kX8_minutesOf nnX3_41 sX8_minutesOf zX8 okX8_minutesOf ⟨Nat.le_of_ble_eq_true rfl, Nat.le_of_ble_eq_true rfl⟩ rfl rfl (pm_none _) (pm_none _) rfl hl.1 rfl (Nat.le_of_ble_eq_true rfl) ⟨Nat.le_refl 0, Nat.le_refl 0⟩ rfl dX3_minutes_18 (fun H locs hH => ?_)
  have h := Option.some.inj h
  subst h
  exact e_i X hH dX3_minutes_21

def qX0_timesTo_75 (xt : SX3) (pa : Int32) (pb : Int32) (k7 : SX0 → Int32 → Option SX0) (xs : SX0) (l4 : Int32) : Option SX0 :=
  ltt (l4 + (1 : Int32)) fun v1 =>
  k7 xs v1
def qX0_timesTo_7 (xt : SX3) (pa : Int32) (pb : Int32)  : Nat → SX0 → Int32 → Option SX0
  | 0, _, _ => none
  | fu + 1, xs, l4 =>
  (if (n_ways xt) ≤ l4 then
  (fX0_solve xs xt pa ((1 : Int32) <<< (pb &&& 31))).bind fun o2 =>
  some o2
  else
  (fX8_has pa l4).bind fun o3 =>
  (if o3 = (0 : Int32) then
  qX0_timesTo_75 xt pa pb (qX0_timesTo_7 xt pa pb  fu) xs l4
  else
  (fX3_weight xt l4).bind fun o4 =>
  (fX3_minutes xt l4).bind fun o5 =>
  ltt (((o4 * o5).toInt64)) fun v2 =>
  ga 11 l4 fun j1 =>
  ga 6 ((n_first xt) j1) fun j2 =>
  ltt ((((eq_due xs) j2) + v2)) fun v3 =>
  ga 6 ((n_first xt) j1) fun j3 =>
  ltt ((eq_due_s xs (vp_updL (eq_due xs) j3 v3))) fun xs1 =>
  ga 11 l4 fun j4 =>
  ga 6 ((n_second xt) j4) fun j5 =>
  ltt ((((eq_due xs1) j5) + v2)) fun v4 =>
  ga 6 ((n_second xt) j4) fun j6 =>
  ltt ((eq_due_s xs1 (vp_updL (eq_due xs1) j6 v4))) fun xs2 =>
  qX0_timesTo_75 xt pa pb (qX0_timesTo_7 xt pa pb  fu) xs2 l4))
def fX0_timesTo (xs : SX0) (xt : SX3) (pa : Int32) (pb : Int32) : Option SX0 :=
  (fX0_nothingIsDue xs).bind fun o1 =>
  qX0_timesTo_7 xt pa pb FU o1 (0 : Int32)
set_option maxHeartbeats 4000000 in
set_option maxRecDepth 100000 in
theorem pX0_timesTo_75 {p : Program} {l : Launch} {e : Env} {s : State} {m : MethodId} {args : Array Value} {below : List Frame} {meth : Method} {c : Code} {g : GG} {w0 : va_W} {a : Nat → Nat} {i : Nat} {b : Nat → Nat} {j : Nat} {xt : SX3} {pa : Int32} {pb : Int32} {o : SX0} (X : mX g yX0_timesTo cX0_timesTo 7 none p s m args meth c w0)
  {k7 : SX0 → Int32 → Option SX0} (K7 : ∀ (xs : SX0) (l4 : Int32) (H : Heap) (locs : List Loc) (ls : Array Slot), k7 xs l4 = some o → mH g s w0 ((wX0 g a i xs) ++ (wX3 g b j xt)) H locs → lv_has ls 7 [(0, .ref (a i)), (1, .ref (b j)), (2, .int pa), (3, .int pb), (4, .int l4)] → W p l e (rM 3 76) s m args below meth c H locs 0 0 (mZ g below args s w0 ((wX0 g a i o) ++ (wX3 g b j xt)) none) (F0 m 7 ls [])) :
  ∀ (xs : SX0) (l4 : Int32) (H : Heap) (locs : List Loc) (ls : Array Slot), qX0_timesTo_75 xt pa pb k7 xs l4 = some o → mH g s w0 ((wX0 g a i xs) ++ (wX3 g b j xt)) H locs → lv_has ls 7 [(0, .ref (a i)), (1, .ref (b j)), (2, .int pa), (3, .int pb), (4, .int l4)] → W p l e (rM 3 76) s m args below meth c H locs 0 0 (mZ g below args s w0 ((wX0 g a i o) ++ (wX3 g b j xt)) none) (F0 m 75 ls []) := by
  have hx := X.1
  have hb := X.2.1
  intro xs l4 H locs ls h hH hl
  unfold qX0_timesTo_75 at h
  obtain ⟨v1, ev1, h⟩ := ltt_x h
  refine s_inc X (k := 4) (lv' := [(4, .int v1), (0, .ref (a i)), (1, .ref (b j)), (2, .int pa), (3, .int pb)]) hl rfl (by rw [ev1]; rfl) dX0_timesTo_75 (by decide) rfl (fun ls hl => ?_)
  refine lv_goto (tgt := 7) hx hb dX0_timesTo_78 (by decide) ?_
  exact K7 xs v1 H locs ls h hH (lv_sub hl [1, 2, 3, 4, 0] rfl)
set_option maxHeartbeats 4000000 in
set_option maxRecDepth 100000 in
theorem pX0_timesTo_7 {p : Program} {l : Launch} {e : Env} {s : State} {m : MethodId} {args : Array Value} {below : List Frame} {meth : Method} {c : Code} {g : GG} {w0 : va_W} {a : Nat → Nat} {i : Nat} {b : Nat → Nat} {j : Nat} {xt : SX3} {pa : Int32} {pb : Int32} {o : SX0} (X : mX g yX0_timesTo cX0_timesTo 7 none p s m args meth c w0) :
  ∀ (fu : Nat) (xs : SX0) (l4 : Int32) (H : Heap) (locs : List Loc) (ls : Array Slot), qX0_timesTo_7 xt pa pb fu xs l4 = some o → mH g s w0 ((wX0 g a i xs) ++ (wX3 g b j xt)) H locs → lv_has ls 7 [(0, .ref (a i)), (1, .ref (b j)), (2, .int pa), (3, .int pb), (4, .int l4)] → W p l e (rM 3 76) s m args below meth c H locs 0 0 (mZ g below args s w0 ((wX0 g a i o) ++ (wX3 g b j xt)) none) (F0 m 7 ls []) := by
  have hx := X.1
  have hb := X.2.1
  intro fu
  induction fu with
  | zero =>
    intro xs l4 H locs ls h
    unfold qX0_timesTo_7 at h
    cases h
  | succ fu ih =>
    intro xs l4 H locs ls h hH hl
    unfold qX0_timesTo_7 at h
    refine lv_iload hx hb dX0_timesTo_7 (lv_at hl 4 rfl) ?_
    refine lv_aload_n hx hb dX0_timesTo_9 rfl (lv_at hl 1 rfl) ?_
    refine f_get X hH 11 rfl rfl 1 (by decide) inX3 fX0_38 rfl dX0_timesTo_10 ?_
    refine lv_icmp_ge (tgt := 81) hx hb dX0_timesTo_13 (by decide) (fun c1 => ?_) (fun c1 => ?_)
    · have h := it_x h c1
      refine lv_aload_n hx hb dX0_timesTo_81 rfl (lv_at hl 0 rfl) ?_
      refine lv_aload_n hx hb dX0_timesTo_82 rfl (lv_at hl 1 rfl) ?_
      refine lv_iload_n hx hb dX0_timesTo_83 rfl (lv_at hl 2 rfl) ?_
      refine lv_iconst (v := (1 : Int32)) hx hb dX0_timesTo_84 (by decide) ?_
      refine lv_iload_n hx hb dX0_timesTo_85 rfl (lv_at hl 3 rfl) ?_
      refine lv_ishl hx hb dX0_timesTo_86 ?_
      obtain ⟨o2, ho2, h⟩ := bd_x h
      refine r_V X hH (ws1 := ((wX0 g a i o2) ++ (wX3 g b j xt))) (As := [.ref (b j), .int pa, .int ((1 : Int32) <<< (pb &&& 31))]) (rest := []) (st1 := []) (uX0_solve (a := a) (i := i) (b := b) (j := j) ho2) kX0_solve mX0_60 iX0_solve vX0_solve zX0 okX0_solve ⟨Nat.le_of_ble_eq_true rfl, Nat.le_of_ble_eq_true rfl⟩ rfl rfl (q0 := 0) rfl rfl (pm_all _) (pm_all _) rfl hl.1 rfl (Nat.le_of_ble_eq_true rfl) ⟨Nat.le_refl 0, Nat.le_refl 0⟩ rfl dX0_timesTo_87 (fun H locs hH => ?_)
      have h := Option.some.inj h
      subst h
      exact e_v X hH dX0_timesTo_90
    · have h := ie_x h c1
      refine lv_iload_n hx hb dX0_timesTo_16 rfl (lv_at hl 2 rfl) ?_
      refine lv_iload hx hb dX0_timesTo_17 (lv_at hl 4 rfl) ?_
      obtain ⟨o3, ho3, h⟩ := bd_x h
      refine r_SN X hH (ws1 := ((wX0 g a i xs) ++ (wX3 g b j xt))) (As := [.int pa, .int l4]) (rest := []) (st1 := [.int o3]) (uX8_has  ho3) kX8_has nnX0_43 sX8_has zX8 okX8_has ⟨Nat.le_of_ble_eq_true rfl, Nat.le_of_ble_eq_true rfl⟩ rfl rfl (pm_none _) (pm_none _) rfl hl.1 rfl (Nat.le_of_ble_eq_true rfl) ⟨Nat.le_refl 0, Nat.le_refl 0⟩ rfl dX0_timesTo_19 (fun H locs hH => ?_)
      refine lv_if_eq (tgt := 75) hx hb dX0_timesTo_22 (by decide) (fun c2 => ?_) (fun c2 => ?_)
      · have h := it_x h c2
        exact pX0_timesTo_75 X ih xs l4 H locs ls h hH (lv_sub hl [0, 1, 2, 3, 4] rfl)
      · have h := ie_x h c2
        refine lv_aload_n hx hb dX0_timesTo_25 rfl (lv_at hl 1 rfl) ?_
        refine lv_iload hx hb dX0_timesTo_26 (lv_at hl 4 rfl) ?_
        obtain ⟨o4, ho4, h⟩ := bd_x h
        refine r_V X hH (ws1 := ((wX0 g a i xs) ++ (wX3 g b j xt))) (As := [.int l4]) (rest := []) (st1 := [.int o4]) (uX3_weight (a := b) (i := j) ho4) kX3_weight mX0_47 iX3_weight vX3_weight zX3 okX3_weight ⟨Nat.le_of_ble_eq_true rfl, Nat.le_of_ble_eq_true rfl⟩ rfl rfl (q0 := 11) rfl rfl (pm_s (pm_all _)) (pm_s (pm_all _)) rfl hl.1 rfl (Nat.le_of_ble_eq_true rfl) ⟨Nat.le_refl 0, Nat.le_refl 0⟩ rfl dX0_timesTo_28 (fun H locs hH => ?_)
        refine lv_aload_n hx hb dX0_timesTo_31 rfl (lv_at hl 1 rfl) ?_
        refine lv_iload hx hb dX0_timesTo_32 (lv_at hl 4 rfl) ?_
        obtain ⟨o5, ho5, h⟩ := bd_x h
        refine r_V X hH (ws1 := ((wX0 g a i xs) ++ (wX3 g b j xt))) (As := [.int l4]) (rest := [.int o4]) (st1 := [.int o5, .int o4]) (uX3_minutes (a := b) (i := j) ho5) kX3_minutes mX0_51 iX3_minutes vX3_minutes zX3 okX3_minutes ⟨Nat.le_of_ble_eq_true rfl, Nat.le_of_ble_eq_true rfl⟩ rfl rfl (q0 := 11) rfl rfl (pm_s (pm_all _)) (pm_s (pm_all _)) rfl hl.1 rfl (Nat.le_of_ble_eq_true rfl) ⟨Nat.le_refl 0, Nat.le_refl 0⟩ rfl dX0_timesTo_34 (fun H locs hH => ?_)
        refine lv_imul hx hb dX0_timesTo_37 ?_
        refine lv_i2l hx hb dX0_timesTo_38 rfl ?_
        obtain ⟨v2, ev2, h⟩ := ltt_x h
        refine s_l X (lv' := [(5, .long v2), (0, .ref (a i)), (1, .ref (b j)), (2, .int pa), (3, .int pb), (4, .int l4)]) hl ev2 dX0_timesTo_39 (by decide) rfl (fun ls hl => ?_)
        refine lv_aload_n hx hb dX0_timesTo_41 rfl (lv_at hl 1 rfl) ?_
        refine f_get X hH 0 rfl rfl 4 (by decide) inX0 fX0_28 rfl dX0_timesTo_42 ?_
        refine lv_aload_n hx hb dX0_timesTo_45 rfl (lv_at hl 2 rfl) ?_
        refine f_get X hH 11 rfl rfl 2 (by decide) inX3 fX0_54 rfl dX0_timesTo_46 ?_
        refine lv_iload hx hb dX0_timesTo_49 (lv_at hl 5 rfl) ?_
        obtain ⟨j1, ej1, hinj1, h⟩ := ga_x h
        refine a_il X hH 12 rfl hinj1 ej1 dX0_timesTo_51 ?_
        refine lv_dup2_11 hx hb dX0_timesTo_52 rfl rfl ?_
        obtain ⟨j2, ej2, hinj2, h⟩ := ga_x h
        refine a_ll X hH 10 rfl hinj2 ej2 dX0_timesTo_53 ?_
        refine lv_lload hx hb dX0_timesTo_54 (lv_at hl 0 rfl) ?_
        refine lv_ladd hx hb dX0_timesTo_56 ?_
        obtain ⟨v3, ev3, h⟩ := ltt_x h
        refine lv_topl (fun y0 e0 => ?_)
        rw [← ev3] at e0
        subst y0
        obtain ⟨j3, ej3, hinj3, h⟩ := ga_x h
        obtain ⟨xs1, exs1, h⟩ := ltt_x h
        refine a_ls X hH (ws1 := ((wX0 g a i xs1) ++ (wX3 g b j xt))) 10 rfl hinj3 ej3 (by rw [exs1]; rfl) dX0_timesTo_57 (fun H locs hH => ?_)
        refine lv_aload_n hx hb dX0_timesTo_58 rfl (lv_at hl 1 rfl) ?_
        refine f_get X hH 0 rfl rfl 4 (by decide) inX0 fX0_28 rfl dX0_timesTo_59 ?_
        refine lv_aload_n hx hb dX0_timesTo_62 rfl (lv_at hl 2 rfl) ?_
        refine f_get X hH 11 rfl rfl 3 (by decide) inX3 fX0_57 rfl dX0_timesTo_63 ?_
        refine lv_iload hx hb dX0_timesTo_66 (lv_at hl 5 rfl) ?_
        obtain ⟨j4, ej4, hinj4, h⟩ := ga_x h
        refine a_il X hH 13 rfl hinj4 ej4 dX0_timesTo_68 ?_
        refine lv_dup2_11 hx hb dX0_timesTo_69 rfl rfl ?_
        obtain ⟨j5, ej5, hinj5, h⟩ := ga_x h
        refine a_ll X hH 10 rfl hinj5 ej5 dX0_timesTo_70 ?_
        refine lv_lload hx hb dX0_timesTo_71 (lv_at hl 0 rfl) ?_
        refine lv_ladd hx hb dX0_timesTo_73 ?_
        obtain ⟨v4, ev4, h⟩ := ltt_x h
        refine lv_topl (fun y0 e0 => ?_)
        rw [← ev4] at e0
        subst y0
        obtain ⟨j6, ej6, hinj6, h⟩ := ga_x h
        obtain ⟨xs2, exs2, h⟩ := ltt_x h
        refine a_ls X hH (ws1 := ((wX0 g a i xs2) ++ (wX3 g b j xt))) 10 rfl hinj6 ej6 (by rw [exs2]; rfl) dX0_timesTo_74 (fun H locs hH => ?_)
        exact pX0_timesTo_75 X ih xs2 l4 H locs ls h hH (lv_sub hl [1, 2, 3, 4, 5] rfl)
set_option maxHeartbeats 4000000 in
set_option maxRecDepth 100000 in
theorem uX0_timesTo {l : Launch} {g : GG} {a : Nat → Nat} {i : Nat} {b : Nat → Nat} {j : Nat} {xs : SX0} {xt : SX3} {pa : Int32} {pb : Int32} {o : SX0} (h : fX0_timesTo xs xt pa pb = some o) : mC l g yX0_timesTo cX0_timesTo 7 none (rM 3 76) [.ref (a i), .ref (b j), .int pa, .int pb] ((wX0 g a i xs) ++ (wX3 g b j xt)) ((wX0 g a i o) ++ (wX3 g b j xt)) none := by
  refine mC.ofW (by decide) (fun p e s m below meth c X hH ls _ hl => ?_) (Nat.le_of_ble_eq_true rfl)
  have hx := X.1
  have hb := X.2.1
  have hl : lv_has ls 7 [(0, .ref (a i)), (1, .ref (b j)), (2, .int pa), (3, .int pb)] := hl
  unfold fX0_timesTo at h
  suffices HH : ∀ (H : Heap) (locs : List Loc), mH g s ((wX0 g a i xs) ++ (wX3 g b j xt)) ((wX0 g a i xs) ++ (wX3 g b j xt)) H locs → W p l e (rM 3 76) s m _ below meth c H locs 0 0 (mZ g below _ s ((wX0 g a i xs) ++ (wX3 g b j xt)) ((wX0 g a i o) ++ (wX3 g b j xt)) none) (F0 m 0 ls []) from HH _ _ hH
  clear hH
  intro H locs hH
  refine lv_aload_n hx hb dX0_timesTo_0 rfl (lv_at hl 0 rfl) ?_
  obtain ⟨o1, ho1, h⟩ := bd_x h
  refine r_V X hH (ws1 := ((wX0 g a i o1) ++ (wX3 g b j xt))) (As := []) (rest := []) (st1 := []) (uX0_nothingIsDue (a := a) (i := i) ho1) kX0_nothingIsDue mX0_35 iX0_nothingIsDue vX0_nothingIsDue zX0 okX0_nothingIsDue ⟨Nat.le_of_ble_eq_true rfl, Nat.le_of_ble_eq_true rfl⟩ rfl rfl (q0 := 0) rfl rfl (pm_0 _ _) (pm_0 _ _) rfl hl.1 rfl (Nat.le_of_ble_eq_true rfl) ⟨Nat.le_refl 0, Nat.le_refl 0⟩ rfl dX0_timesTo_1 (fun H locs hH => ?_)
  refine lv_iconst (v := (0 : Int32)) hx hb dX0_timesTo_4 (by decide) ?_
  refine s_i X (lv' := [(4, .int (0 : Int32)), (0, .ref (a i)), (1, .ref (b j)), (2, .int pa), (3, .int pb)]) hl rfl dX0_timesTo_5 (by decide) rfl (fun ls hl => ?_)
  exact pX0_timesTo_7 X FU o1 (0 : Int32) H locs ls h hH (lv_sub hl [1, 2, 3, 4, 0] rfl)
