def fX5_refusalOfPlace (xs : SX5) (pa : Int32) (pb : Int32) : Option Int32 :=
  ga 3 pa fun j1 =>
  (if (0 : Int32) ≤ ((sl_sizes xs) j1) then
  (if pb < (0 : Int32) then
  some (-13 : Int32)
  else
  ga 3 pa fun j2 =>
  (if ((sl_sizes xs) j2) ≤ pb then
  some (-13 : Int32)
  else
  some (0 : Int32)))
  else
  some (-11 : Int32))
set_option maxHeartbeats 4000000 in
set_option maxRecDepth 100000 in
theorem uX5_refusalOfPlace {l : Launch} {g : GG} {a : Nat → Nat} {i : Nat} {xs : SX5} {pa : Int32} {pb : Int32} {o : Int32} (h : fX5_refusalOfPlace xs pa pb = some o) : mC l g yX5_refusalOfPlace cX5_refusalOfPlace 3 (some .int) (rM 0 0) [.ref (a i), .int pa, .int pb] (wX5 g a i xs) (wX5 g a i xs) (some (.int o)) := by
  refine mC.ofW (by decide) (fun p e s m below meth c X hH ls _ hl => ?_) (Nat.le_of_ble_eq_true rfl)
  have hx := X.1
  have hb := X.2.1
  have hl : lv_has ls 3 [(0, .ref (a i)), (1, .int pa), (2, .int pb)] := hl
  unfold fX5_refusalOfPlace at h
  suffices HH : ∀ (H : Heap) (locs : List Loc), mH g s (wX5 g a i xs) (wX5 g a i xs) H locs → W p l e (rM 0 0) s m _ below meth c H locs 0 0 (mZ g below _ s (wX5 g a i xs) (wX5 g a i xs) (some (.int o))) (F0 m 0 ls []) from HH _ _ hH
  clear hH
  intro H locs hH
  refine lv_aload_n hx hb dX5_refusalOfPlace_0 rfl (lv_at hl 0 rfl) ?_
  refine f_get X hH 0 rfl rfl 0 (by decide) inX5 fX5_9 rfl dX5_refusalOfPlace_1 ?_
  refine lv_iload_n hx hb dX5_refusalOfPlace_4 rfl (lv_at hl 1 rfl) ?_
  obtain ⟨j1, ej1, hinj1, h⟩ := ga_x h
  refine a_il X hH 1 rfl hinj1 ej1 dX5_refusalOfPlace_5 ?_
  refine lv_if_ge (tgt := 12) hx hb dX5_refusalOfPlace_6 (by decide) (fun c1 => ?_) (fun c1 => ?_)
  · have h := it_x h c1
    refine lv_iload_n hx hb dX5_refusalOfPlace_12 rfl (lv_at hl 2 rfl) ?_
    refine lv_if_lt (tgt := 30) hx hb dX5_refusalOfPlace_13 (by decide) (fun c2 => ?_) (fun c2 => ?_)
    · have h := it_x h c2
      refine lv_bipush (v := (-13 : Int32)) hx hb dX5_refusalOfPlace_30 (by decide) ?_
      have h := Option.some.inj h
      subst h
      exact e_i X hH dX5_refusalOfPlace_32
    · have h := ie_x h c2
      refine lv_iload_n hx hb dX5_refusalOfPlace_16 rfl (lv_at hl 2 rfl) ?_
      refine lv_aload_n hx hb dX5_refusalOfPlace_17 rfl (lv_at hl 0 rfl) ?_
      refine f_get X hH 0 rfl rfl 0 (by decide) inX5 fX5_9 rfl dX5_refusalOfPlace_18 ?_
      refine lv_iload_n hx hb dX5_refusalOfPlace_21 rfl (lv_at hl 1 rfl) ?_
      obtain ⟨j2, ej2, hinj2, h⟩ := ga_x h
      refine a_il X hH 1 rfl hinj2 ej2 dX5_refusalOfPlace_22 ?_
      refine lv_icmp_ge (tgt := 30) hx hb dX5_refusalOfPlace_23 (by decide) (fun c3 => ?_) (fun c3 => ?_)
      · have h := it_x h c3
        refine lv_bipush (v := (-13 : Int32)) hx hb dX5_refusalOfPlace_30 (by decide) ?_
        have h := Option.some.inj h
        subst h
        exact e_i X hH dX5_refusalOfPlace_32
      · have h := ie_x h c3
        refine lv_iconst (v := (0 : Int32)) hx hb dX5_refusalOfPlace_26 (by decide) ?_
        refine lv_goto (tgt := 32) hx hb dX5_refusalOfPlace_27 (by decide) ?_
        have h := Option.some.inj h
        subst h
        exact e_i X hH dX5_refusalOfPlace_32
  · have h := ie_x h c1
    refine lv_bipush (v := (-11 : Int32)) hx hb dX5_refusalOfPlace_9 (by decide) ?_
    have h := Option.some.inj h
    subst h
    exact e_i X hH dX5_refusalOfPlace_11

def qX5_lay_47 (pa : Int32) (pb : Int32) (pc_ : Int32) (pd : Int32)  (xs : SX5) : Option (Int32 × SX5) :=
  ga 3 pa fun j1 =>
  ga 9 pb fun j2 =>
  ltt ((sl_kinds_s xs (va_up (sl_kinds xs) j1 (upd ((sl_kinds xs) j1) j2 pc_)))) fun xs1 =>
  ga 3 pa fun j3 =>
  ga 9 pb fun j4 =>
  ltt ((sl_figures_s xs1 (va_up (sl_figures xs1) j3 (upd ((sl_figures xs1) j3) j4 pd)))) fun xs2 =>
  some ((1 : Int32), xs2)
def qX5_lay_17 (pa : Int32) (pb : Int32) (pc_ : Int32) (pd : Int32)  (xs : SX5) (t0 : Int32) : Option (Int32 × SX5) :=
  (if t0 = (0 : Int32) then
  (if pc_ < (0 : Int32) then
  qX5_lay_47 pa pb pc_ pd xs
  else
  ga 3 pa fun j5 =>
  (fX8_isOfKind pc_ ((sl_madeFor xs) j5)).bind fun o2 =>
  (if o2 = (0 : Int32) then
  some ((-16 : Int32), xs)
  else
  qX5_lay_47 pa pb pc_ pd xs))
  else
  some (t0, xs))
def fX5_lay (xs : SX5) (pa : Int32) (pb : Int32) (pc_ : Int32) (pd : Int32) : Option (Int32 × SX5) :=
  (fX5_isSlot pa).bind fun o1 =>
  (if o1 = (0 : Int32) then
  qX5_lay_17 pa pb pc_ pd xs (-1 : Int32)
  else
  (fX5_refusalOfPlace xs pa pb).bind fun o3 =>
  qX5_lay_17 pa pb pc_ pd xs o3)
set_option maxHeartbeats 4000000 in
set_option maxRecDepth 100000 in
theorem pX5_lay_47 {p : Program} {l : Launch} {e : Env} {s : State} {m : MethodId} {args : Array Value} {below : List Frame} {meth : Method} {c : Code} {g : GG} {w0 : va_W} {a : Nat → Nat} {i : Nat} {pa : Int32} {pb : Int32} {pc_ : Int32} {pd : Int32} {o : (Int32 × SX5)} (X : mX g yX5_lay cX5_lay 6 (some .int) p s m args meth c w0) :
  ∀ (xs : SX5) (H : Heap) (locs : List Loc) (ls : Array Slot), qX5_lay_47 pa pb pc_ pd xs = some o → mH g s w0 (wX5 g a i xs) H locs → lv_has ls 6 [(0, .ref (a i)), (1, .int pa), (2, .int pb), (3, .int pc_), (4, .int pd)] → W p l e (rM 2 43) s m args below meth c H locs 0 0 (mZ g below args s w0 (wX5 g a i o.2) (some (.int o.1))) (F0 m 47 ls []) := by
  have hx := X.1
  have hb := X.2.1
  intro xs H locs ls h hH hl
  unfold qX5_lay_47 at h
  refine lv_aload_n hx hb dX5_lay_47 rfl (lv_at hl 0 rfl) ?_
  refine f_get X hH 0 rfl rfl 2 (by decide) inX5 fX5_20 rfl dX5_lay_48 ?_
  refine lv_iload_n hx hb dX5_lay_51 rfl (lv_at hl 1 rfl) ?_
  obtain ⟨j1, ej1, hinj1, h⟩ := ga_x h
  have hltj1 : j1 < 3 := by rw [ej1]; exact vp_lt hinj1
  refine a_al X hH (v := .ref (a (i + 4 + j1))) 3 5 rfl rfl hinj1 ej1 (rf_in hltj1) dX5_lay_52 ?_
  refine lv_iload_n hx hb dX5_lay_53 rfl (lv_at hl 2 rfl) ?_
  refine lv_iload_n hx hb dX5_lay_54 rfl (lv_at hl 3 rfl) ?_
  obtain ⟨j2, ej2, hinj2, h⟩ := ga_x h
  obtain ⟨xs1, exs1, h⟩ := ltt_x h
  have hwxs1 := co_3 (P := fun jj => ((wX5 g a i xs)).set (4 + jj) (a (i + 4 + jj), .inl (g.2.1 0, 9, .inl (upd ((sl_kinds xs) jj) j2 pc_))) = (wX5 g a i (sl_kinds_s xs (va_up (sl_kinds xs) jj (upd ((sl_kinds xs) jj) j2 pc_))))) rfl rfl rfl hltj1
  refine a_is X hH (ws1 := (wX5 g a i xs1)) (4 + j1) (co_3 (P := fun jj => ((wX5 g a i xs))[4 + jj]? = some (a (i + 4 + jj), .inl (g.2.1 0, 9, .inl ((sl_kinds xs) jj)))) rfl rfl rfl hltj1) hinj2 ej2 (hwxs1.trans (by rw [exs1])) dX5_lay_55 (fun H locs hH => ?_)
  refine lv_aload_n hx hb dX5_lay_56 rfl (lv_at hl 0 rfl) ?_
  refine f_get X hH 0 rfl rfl 3 (by decide) inX5 fX5_23 rfl dX5_lay_57 ?_
  refine lv_iload_n hx hb dX5_lay_60 rfl (lv_at hl 1 rfl) ?_
  obtain ⟨j3, ej3, hinj3, h⟩ := ga_x h
  have hltj3 : j3 < 3 := by rw [ej3]; exact vp_lt hinj3
  refine a_al X hH (v := .ref (a (i + 8 + j3))) 7 5 rfl rfl hinj3 ej3 (rf_in hltj3) dX5_lay_61 ?_
  refine lv_iload_n hx hb dX5_lay_62 rfl (lv_at hl 2 rfl) ?_
  refine lv_iload hx hb dX5_lay_63 (lv_at hl 4 rfl) ?_
  obtain ⟨j4, ej4, hinj4, h⟩ := ga_x h
  obtain ⟨xs2, exs2, h⟩ := ltt_x h
  have hwxs2 := co_3 (P := fun jj => ((wX5 g a i xs1)).set (8 + jj) (a (i + 8 + jj), .inl (g.2.1 0, 9, .inl (upd ((sl_figures xs1) jj) j4 pd))) = (wX5 g a i (sl_figures_s xs1 (va_up (sl_figures xs1) jj (upd ((sl_figures xs1) jj) j4 pd))))) rfl rfl rfl hltj3
  refine a_is X hH (ws1 := (wX5 g a i xs2)) (8 + j3) (co_3 (P := fun jj => ((wX5 g a i xs1))[8 + jj]? = some (a (i + 8 + jj), .inl (g.2.1 0, 9, .inl ((sl_figures xs1) jj)))) rfl rfl rfl hltj3) hinj4 ej4 (hwxs2.trans (by rw [exs2])) dX5_lay_65 (fun H locs hH => ?_)
  refine lv_iconst (v := (1 : Int32)) hx hb dX5_lay_66 (by decide) ?_
  have h := Option.some.inj h
  subst h
  exact e_i X hH dX5_lay_67
set_option maxHeartbeats 4000000 in
set_option maxRecDepth 100000 in
theorem pX5_lay_17 {p : Program} {l : Launch} {e : Env} {s : State} {m : MethodId} {args : Array Value} {below : List Frame} {meth : Method} {c : Code} {g : GG} {w0 : va_W} {a : Nat → Nat} {i : Nat} {pa : Int32} {pb : Int32} {pc_ : Int32} {pd : Int32} {o : (Int32 × SX5)} (X : mX g yX5_lay cX5_lay 6 (some .int) p s m args meth c w0) :
  ∀ (xs : SX5) (t0 : Int32) (H : Heap) (locs : List Loc) (ls : Array Slot), qX5_lay_17 pa pb pc_ pd xs t0 = some o → mH g s w0 (wX5 g a i xs) H locs → lv_has ls 6 [(0, .ref (a i)), (1, .int pa), (2, .int pb), (3, .int pc_), (4, .int pd)] → W p l e (rM 2 43) s m args below meth c H locs 0 0 (mZ g below args s w0 (wX5 g a i o.2) (some (.int o.1))) (F0 m 17 ls [.int t0]) := by
  have hx := X.1
  have hb := X.2.1
  intro xs t0 H locs ls h hH hl
  unfold qX5_lay_17 at h
  refine s_i X (lv' := [(5, .int t0), (0, .ref (a i)), (1, .int pa), (2, .int pb), (3, .int pc_), (4, .int pd)]) hl rfl dX5_lay_17 (by decide) rfl (fun ls hl => ?_)
  refine lv_iload hx hb dX5_lay_19 (lv_at hl 0 rfl) ?_
  refine lv_if_eq (tgt := 27) hx hb dX5_lay_21 (by decide) (fun c2 => ?_) (fun c2 => ?_)
  · have h := it_x h c2
    refine lv_iload_n hx hb dX5_lay_27 rfl (lv_at hl 4 rfl) ?_
    refine lv_if_lt (tgt := 47) hx hb dX5_lay_28 (by decide) (fun c3 => ?_) (fun c3 => ?_)
    · have h := it_x h c3
      exact pX5_lay_47 X  xs H locs ls h hH (lv_sub hl [1, 2, 3, 4, 5] rfl)
    · have h := ie_x h c3
      refine lv_iload_n hx hb dX5_lay_31 rfl (lv_at hl 4 rfl) ?_
      refine lv_aload_n hx hb dX5_lay_32 rfl (lv_at hl 1 rfl) ?_
      refine f_get X hH 0 rfl rfl 1 (by decide) inX5 fX5_15 rfl dX5_lay_33 ?_
      refine lv_iload_n hx hb dX5_lay_36 rfl (lv_at hl 2 rfl) ?_
      obtain ⟨j5, ej5, hinj5, h⟩ := ga_x h
      refine a_il X hH 2 rfl hinj5 ej5 dX5_lay_37 ?_
      obtain ⟨o2, ho2, h⟩ := bd_x h
      refine r_SN X hH (ws1 := (wX5 g a i xs)) (As := [.int pc_, .int ((sl_madeFor xs) j5)]) (rest := []) (st1 := [.int o2]) (uX8_isOfKind  ho2) kX8_isOfKind nnX5_37 sX8_isOfKind zX8 okX8_isOfKind ⟨Nat.le_of_ble_eq_true rfl, Nat.le_of_ble_eq_true rfl⟩ rfl rfl (pm_none _) (pm_none _) rfl hl.1 rfl (Nat.le_of_ble_eq_true rfl) ⟨Nat.le_refl 0, Nat.le_refl 0⟩ rfl dX5_lay_38 (fun H locs hH => ?_)
      refine lv_if_ne (tgt := 47) hx hb dX5_lay_41 (by decide) (fun c4 => ?_) (fun c4 => ?_)
      · have h := ie_x h c4
        exact pX5_lay_47 X  xs H locs ls h hH (lv_sub hl [1, 2, 3, 4, 5] rfl)
      · have h := it_x h c4
        refine lv_bipush (v := (-16 : Int32)) hx hb dX5_lay_44 (by decide) ?_
        have h := Option.some.inj h
        subst h
        exact e_i X hH dX5_lay_46
  · have h := ie_x h c2
    refine lv_iload hx hb dX5_lay_24 (lv_at hl 0 rfl) ?_
    have h := Option.some.inj h
    subst h
    exact e_i X hH dX5_lay_26
set_option maxHeartbeats 4000000 in
set_option maxRecDepth 100000 in
theorem uX5_lay {l : Launch} {g : GG} {a : Nat → Nat} {i : Nat} {xs : SX5} {pa : Int32} {pb : Int32} {pc_ : Int32} {pd : Int32} {o : (Int32 × SX5)} (h : fX5_lay xs pa pb pc_ pd = some o) : mC l g yX5_lay cX5_lay 6 (some .int) (rM 2 43) [.ref (a i), .int pa, .int pb, .int pc_, .int pd] (wX5 g a i xs) (wX5 g a i o.2) (some (.int o.1)) := by
  refine mC.ofW (by decide) (fun p e s m below meth c X hH ls _ hl => ?_) (Nat.le_of_ble_eq_true rfl)
  have hx := X.1
  have hb := X.2.1
  have hl : lv_has ls 6 [(0, .ref (a i)), (1, .int pa), (2, .int pb), (3, .int pc_), (4, .int pd)] := hl
  unfold fX5_lay at h
  suffices HH : ∀ (H : Heap) (locs : List Loc), mH g s (wX5 g a i xs) (wX5 g a i xs) H locs → W p l e (rM 2 43) s m _ below meth c H locs 0 0 (mZ g below _ s (wX5 g a i xs) (wX5 g a i o.2) (some (.int o.1))) (F0 m 0 ls []) from HH _ _ hH
  clear hH
  intro H locs hH
  refine lv_iload_n hx hb dX5_lay_0 rfl (lv_at hl 1 rfl) ?_
  obtain ⟨o1, ho1, h⟩ := bd_x h
  refine r_S X hH (ws1 := (wX5 g a i xs)) (As := [.int pa]) (rest := []) (st1 := [.int o1]) (uX5_isSlot  ho1) kX5_isSlot mX5_26 sX5_isSlot zX5 okX5_isSlot ⟨Nat.le_of_ble_eq_true rfl, Nat.le_of_ble_eq_true rfl⟩ rfl rfl (pm_none _) (pm_none _) rfl hl.1 rfl (Nat.le_of_ble_eq_true rfl) ⟨Nat.le_refl 0, Nat.le_refl 0⟩ rfl dX5_lay_1 (fun H locs hH => ?_)
  refine lv_if_eq (tgt := 16) hx hb dX5_lay_4 (by decide) (fun c1 => ?_) (fun c1 => ?_)
  · have h := it_x h c1
    refine lv_iconst (v := (-1 : Int32)) hx hb dX5_lay_16 (by decide) ?_
    exact pX5_lay_17 X  xs (-1 : Int32) H locs ls h hH (lv_sub hl [0, 1, 2, 3, 4] rfl)
  · have h := ie_x h c1
    refine lv_aload_n hx hb dX5_lay_7 rfl (lv_at hl 0 rfl) ?_
    refine lv_iload_n hx hb dX5_lay_8 rfl (lv_at hl 1 rfl) ?_
    refine lv_iload_n hx hb dX5_lay_9 rfl (lv_at hl 2 rfl) ?_
    obtain ⟨o3, ho3, h⟩ := bd_x h
    refine r_V X hH (ws1 := (wX5 g a i xs)) (As := [.int pa, .int pb]) (rest := []) (st1 := [.int o3]) (uX5_refusalOfPlace (a := a) (i := i) ho3) kX5_refusalOfPlace mX5_33 iX5_refusalOfPlace vX5_refusalOfPlace zX5 okX5_refusalOfPlace ⟨Nat.le_of_ble_eq_true rfl, Nat.le_of_ble_eq_true rfl⟩ rfl rfl (q0 := 0) rfl rfl (pm_all _) (pm_all _) rfl hl.1 rfl (Nat.le_of_ble_eq_true rfl) ⟨Nat.le_refl 0, Nat.le_refl 0⟩ rfl dX5_lay_10 (fun H locs hH => ?_)
    refine lv_goto (tgt := 17) hx hb dX5_lay_13 (by decide) ?_
    exact pX5_lay_17 X  xs o3 H locs ls h hH (lv_sub hl [0, 1, 2, 3, 4] rfl)

def qX5_weightIn_33 (xs : SX5) (pa : Int32) (pb : Int32) (pc_ : Int32)  (l4 : Int32) : Option Int32 :=
  (if l4 = (0 : Int32) then
  ga 3 pa fun j1 =>
  ga 9 pb fun j2 =>
  (if (0 : Int32) ≤ ((sl_kinds xs) j1 j2) then
  ga 3 pa fun j3 =>
  ga 9 pb fun j4 =>
  ga 3 pa fun j5 =>
  ga 9 pb fun j6 =>
  (fX8_weightOf ((sl_kinds xs) j3 j4) ((sl_figures xs) j5 j6) pc_).bind fun o2 =>
  some o2
  else
  some (-9 : Int32))
  else
  some l4)
def qX5_weightIn_18 (xs : SX5) (pa : Int32) (pb : Int32) (pc_ : Int32)  (t0 : Int32) : Option Int32 :=
  (if t0 = (0 : Int32) then
  (fX5_refusalOfPlace xs pa pb).bind fun o3 =>
  qX5_weightIn_33 xs pa pb pc_ o3
  else
  qX5_weightIn_33 xs pa pb pc_ t0)
def fX5_weightIn (xs : SX5) (pa : Int32) (pb : Int32) (pc_ : Int32) : Option Int32 :=
  (fX5_isSlot pa).bind fun o1 =>
  (if o1 = (0 : Int32) then
  qX5_weightIn_18 xs pa pb pc_ (-1 : Int32)
  else
  (fX8_refusalOfNumber pc_ (1 : Int32) (9 : Int32)).bind fun o4 =>
  qX5_weightIn_18 xs pa pb pc_ o4)
set_option maxHeartbeats 4000000 in
set_option maxRecDepth 100000 in
theorem pX5_weightIn_33 {p : Program} {l : Launch} {e : Env} {s : State} {m : MethodId} {args : Array Value} {below : List Frame} {meth : Method} {c : Code} {g : GG} {w0 : va_W} {a : Nat → Nat} {i : Nat} {xs : SX5} {pa : Int32} {pb : Int32} {pc_ : Int32} {o : Int32} (X : mX g yX5_weightIn cX5_weightIn 5 (some .int) p s m args meth c w0) :
  ∀ (l4 : Int32) (H : Heap) (locs : List Loc) (ls : Array Slot), qX5_weightIn_33 xs pa pb pc_ l4 = some o → mH g s w0 (wX5 g a i xs) H locs → lv_has ls 5 [(0, .ref (a i)), (1, .int pa), (2, .int pb), (3, .int pc_), (4, .int l4)] → W p l e (rM 1 22) s m args below meth c H locs 0 0 (mZ g below args s w0 (wX5 g a i xs) (some (.int o))) (F0 m 33 ls []) := by
  have hx := X.1
  have hb := X.2.1
  intro l4 H locs ls h hH hl
  unfold qX5_weightIn_33 at h
  refine lv_iload hx hb dX5_weightIn_33 (lv_at hl 4 rfl) ?_
  refine lv_if_eq (tgt := 41) hx hb dX5_weightIn_35 (by decide) (fun c3 => ?_) (fun c3 => ?_)
  · have h := it_x h c3
    refine lv_aload_n hx hb dX5_weightIn_41 rfl (lv_at hl 0 rfl) ?_
    refine f_get X hH 0 rfl rfl 2 (by decide) inX5 fX5_20 rfl dX5_weightIn_42 ?_
    refine lv_iload_n hx hb dX5_weightIn_45 rfl (lv_at hl 1 rfl) ?_
    obtain ⟨j1, ej1, hinj1, h⟩ := ga_x h
    have hltj1 : j1 < 3 := by rw [ej1]; exact vp_lt hinj1
    refine a_al X hH (v := .ref (a (i + 4 + j1))) 3 5 rfl rfl hinj1 ej1 (rf_in hltj1) dX5_weightIn_46 ?_
    refine lv_iload_n hx hb dX5_weightIn_47 rfl (lv_at hl 2 rfl) ?_
    obtain ⟨j2, ej2, hinj2, h⟩ := ga_x h
    refine a_il X hH (4 + j1) (co_3 (P := fun jj => ((wX5 g a i xs))[4 + jj]? = some (a (i + 4 + jj), .inl (g.2.1 0, 9, .inl ((sl_kinds xs) jj)))) rfl rfl rfl hltj1) hinj2 ej2 dX5_weightIn_48 ?_
    refine lv_if_ge (tgt := 57) hx hb dX5_weightIn_49 (by decide) (fun c4 => ?_) (fun c4 => ?_)
    · have h := it_x h c4
      refine lv_aload_n hx hb dX5_weightIn_57 rfl (lv_at hl 0 rfl) ?_
      refine f_get X hH 0 rfl rfl 2 (by decide) inX5 fX5_20 rfl dX5_weightIn_58 ?_
      refine lv_iload_n hx hb dX5_weightIn_61 rfl (lv_at hl 1 rfl) ?_
      obtain ⟨j3, ej3, hinj3, h⟩ := ga_x h
      have hltj3 : j3 < 3 := by rw [ej3]; exact vp_lt hinj3
      refine a_al X hH (v := .ref (a (i + 4 + j3))) 3 5 rfl rfl hinj3 ej3 (rf_in hltj3) dX5_weightIn_62 ?_
      refine lv_iload_n hx hb dX5_weightIn_63 rfl (lv_at hl 2 rfl) ?_
      obtain ⟨j4, ej4, hinj4, h⟩ := ga_x h
      refine a_il X hH (4 + j3) (co_3 (P := fun jj => ((wX5 g a i xs))[4 + jj]? = some (a (i + 4 + jj), .inl (g.2.1 0, 9, .inl ((sl_kinds xs) jj)))) rfl rfl rfl hltj3) hinj4 ej4 dX5_weightIn_64 ?_
      refine lv_aload_n hx hb dX5_weightIn_65 rfl (lv_at hl 0 rfl) ?_
      refine f_get X hH 0 rfl rfl 3 (by decide) inX5 fX5_23 rfl dX5_weightIn_66 ?_
      refine lv_iload_n hx hb dX5_weightIn_69 rfl (lv_at hl 1 rfl) ?_
      obtain ⟨j5, ej5, hinj5, h⟩ := ga_x h
      have hltj5 : j5 < 3 := by rw [ej5]; exact vp_lt hinj5
      refine a_al X hH (v := .ref (a (i + 8 + j5))) 7 5 rfl rfl hinj5 ej5 (rf_in hltj5) dX5_weightIn_70 ?_
      refine lv_iload_n hx hb dX5_weightIn_71 rfl (lv_at hl 2 rfl) ?_
      obtain ⟨j6, ej6, hinj6, h⟩ := ga_x h
      refine a_il X hH (8 + j5) (co_3 (P := fun jj => ((wX5 g a i xs))[8 + jj]? = some (a (i + 8 + jj), .inl (g.2.1 0, 9, .inl ((sl_figures xs) jj)))) rfl rfl rfl hltj5) hinj6 ej6 dX5_weightIn_72 ?_
      refine lv_iload_n hx hb dX5_weightIn_73 rfl (lv_at hl 3 rfl) ?_
      obtain ⟨o2, ho2, h⟩ := bd_x h
      refine r_SN X hH (ws1 := (wX5 g a i xs)) (As := [.int ((sl_kinds xs) j3 j4), .int ((sl_figures xs) j5 j6), .int pc_]) (rest := []) (st1 := [.int o2]) (uX8_weightOf  ho2) kX8_weightOf nnX5_45 sX8_weightOf zX8 okX8_weightOf ⟨Nat.le_of_ble_eq_true rfl, Nat.le_of_ble_eq_true rfl⟩ rfl rfl (pm_none _) (pm_none _) rfl hl.1 rfl (Nat.le_of_ble_eq_true rfl) ⟨Nat.le_refl 0, Nat.le_refl 0⟩ rfl dX5_weightIn_74 (fun H locs hH => ?_)
      have h := Option.some.inj h
      subst h
      exact e_i X hH dX5_weightIn_77
    · have h := ie_x h c4
      refine lv_bipush (v := (-9 : Int32)) hx hb dX5_weightIn_52 (by decide) ?_
      refine lv_goto (tgt := 77) hx hb dX5_weightIn_54 (by decide) ?_
      have h := Option.some.inj h
      subst h
      exact e_i X hH dX5_weightIn_77
  · have h := ie_x h c3
    refine lv_iload hx hb dX5_weightIn_38 (lv_at hl 4 rfl) ?_
    have h := Option.some.inj h
    subst h
    exact e_i X hH dX5_weightIn_40
set_option maxHeartbeats 4000000 in
set_option maxRecDepth 100000 in
theorem pX5_weightIn_18 {p : Program} {l : Launch} {e : Env} {s : State} {m : MethodId} {args : Array Value} {below : List Frame} {meth : Method} {c : Code} {g : GG} {w0 : va_W} {a : Nat → Nat} {i : Nat} {xs : SX5} {pa : Int32} {pb : Int32} {pc_ : Int32} {o : Int32} (X : mX g yX5_weightIn cX5_weightIn 5 (some .int) p s m args meth c w0) :
  ∀ (t0 : Int32) (H : Heap) (locs : List Loc) (ls : Array Slot), qX5_weightIn_18 xs pa pb pc_ t0 = some o → mH g s w0 (wX5 g a i xs) H locs → lv_has ls 5 [(0, .ref (a i)), (1, .int pa), (2, .int pb), (3, .int pc_)] → W p l e (rM 1 22) s m args below meth c H locs 0 0 (mZ g below args s w0 (wX5 g a i xs) (some (.int o))) (F0 m 18 ls [.int t0]) := by
  have hx := X.1
  have hb := X.2.1
  intro t0 H locs ls h hH hl
  unfold qX5_weightIn_18 at h
  refine s_i X (lv' := [(4, .int t0), (0, .ref (a i)), (1, .int pa), (2, .int pb), (3, .int pc_)]) hl rfl dX5_weightIn_18 (by decide) rfl (fun ls hl => ?_)
  refine lv_iload hx hb dX5_weightIn_20 (lv_at hl 0 rfl) ?_
  refine lv_if_ne (tgt := 33) hx hb dX5_weightIn_22 (by decide) (fun c2 => ?_) (fun c2 => ?_)
  · have h := ie_x h c2
    exact pX5_weightIn_33 X  t0 H locs ls h hH (lv_sub hl [1, 2, 3, 4, 0] rfl)
  · have h := it_x h c2
    refine lv_aload_n hx hb dX5_weightIn_25 rfl (lv_at hl 1 rfl) ?_
    refine lv_iload_n hx hb dX5_weightIn_26 rfl (lv_at hl 2 rfl) ?_
    refine lv_iload_n hx hb dX5_weightIn_27 rfl (lv_at hl 3 rfl) ?_
    obtain ⟨o3, ho3, h⟩ := bd_x h
    refine r_V X hH (ws1 := (wX5 g a i xs)) (As := [.int pa, .int pb]) (rest := []) (st1 := [.int o3]) (uX5_refusalOfPlace (a := a) (i := i) ho3) kX5_refusalOfPlace mX5_33 iX5_refusalOfPlace vX5_refusalOfPlace zX5 okX5_refusalOfPlace ⟨Nat.le_of_ble_eq_true rfl, Nat.le_of_ble_eq_true rfl⟩ rfl rfl (q0 := 0) rfl rfl (pm_all _) (pm_all _) rfl hl.1 rfl (Nat.le_of_ble_eq_true rfl) ⟨Nat.le_refl 0, Nat.le_refl 0⟩ rfl dX5_weightIn_28 (fun H locs hH => ?_)
    refine s_i X (lv' := [(4, .int o3), (0, .ref (a i)), (1, .int pa), (2, .int pb), (3, .int pc_)]) hl rfl dX5_weightIn_31 (by decide) rfl (fun ls hl => ?_)
    exact pX5_weightIn_33 X  o3 H locs ls h hH (lv_sub hl [1, 2, 3, 4, 0] rfl)
set_option maxHeartbeats 4000000 in
set_option maxRecDepth 100000 in
theorem uX5_weightIn {l : Launch} {g : GG} {a : Nat → Nat} {i : Nat} {xs : SX5} {pa : Int32} {pb : Int32} {pc_ : Int32} {o : Int32} (h : fX5_weightIn xs pa pb pc_ = some o) : mC l g yX5_weightIn cX5_weightIn 5 (some .int) (rM 1 22) [.ref (a i), .int pa, .int pb, .int pc_] (wX5 g a i xs) (wX5 g a i xs) (some (.int o)) := by
  refine mC.ofW (by decide) (fun p e s m below meth c X hH ls _ hl => ?_) (Nat.le_of_ble_eq_true rfl)
  have hx := X.1
  have hb := X.2.1
  have hl : lv_has ls 5 [(0, .ref (a i)), (1, .int pa), (2, .int pb), (3, .int pc_)] := hl
  unfold fX5_weightIn at h
  suffices HH : ∀ (H : Heap) (locs : List Loc), mH g s (wX5 g a i xs) (wX5 g a i xs) H locs → W p l e (rM 1 22) s m _ below meth c H locs 0 0 (mZ g below _ s (wX5 g a i xs) (wX5 g a i xs) (some (.int o))) (F0 m 0 ls []) from HH _ _ hH
  clear hH
  intro H locs hH
  refine lv_iload_n hx hb dX5_weightIn_0 rfl (lv_at hl 1 rfl) ?_
  obtain ⟨o1, ho1, h⟩ := bd_x h
  refine r_S X hH (ws1 := (wX5 g a i xs)) (As := [.int pa]) (rest := []) (st1 := [.int o1]) (uX5_isSlot  ho1) kX5_isSlot mX5_26 sX5_isSlot zX5 okX5_isSlot ⟨Nat.le_of_ble_eq_true rfl, Nat.le_of_ble_eq_true rfl⟩ rfl rfl (pm_none _) (pm_none _) rfl hl.1 rfl (Nat.le_of_ble_eq_true rfl) ⟨Nat.le_refl 0, Nat.le_refl 0⟩ rfl dX5_weightIn_1 (fun H locs hH => ?_)
  refine lv_if_eq (tgt := 17) hx hb dX5_weightIn_4 (by decide) (fun c1 => ?_) (fun c1 => ?_)
  · have h := it_x h c1
    refine lv_iconst (v := (-1 : Int32)) hx hb dX5_weightIn_17 (by decide) ?_
    exact pX5_weightIn_18 X  (-1 : Int32) H locs ls h hH (lv_sub hl [0, 1, 2, 3] rfl)
  · have h := ie_x h c1
    refine lv_iload_n hx hb dX5_weightIn_7 rfl (lv_at hl 3 rfl) ?_
    refine lv_iconst (v := (1 : Int32)) hx hb dX5_weightIn_8 (by decide) ?_
    refine lv_bipush (v := (9 : Int32)) hx hb dX5_weightIn_9 (by decide) ?_
    obtain ⟨o4, ho4, h⟩ := bd_x h
    refine r_SN X hH (ws1 := (wX5 g a i xs)) (As := [.int pc_, .int (1 : Int32), .int (9 : Int32)]) (rest := []) (st1 := [.int o4]) (uX8_refusalOfNumber  ho4) kX8_refusalOfNumber nnX5_41 sX8_refusalOfNumber zX8 okX8_refusalOfNumber ⟨Nat.le_of_ble_eq_true rfl, Nat.le_of_ble_eq_true rfl⟩ rfl rfl (pm_none _) (pm_none _) rfl hl.1 rfl (Nat.le_of_ble_eq_true rfl) ⟨Nat.le_refl 0, Nat.le_refl 0⟩ rfl dX5_weightIn_11 (fun H locs hH => ?_)
    refine lv_goto (tgt := 18) hx hb dX5_weightIn_14 (by decide) ?_
    exact pX5_weightIn_18 X  o4 H locs ls h hH (lv_sub hl [0, 1, 2, 3] rfl)

def qX5_copy_30 (pa : Int32) (pb : Int32)  : Nat → SX5 → Int32 → Option (Int32 × SX5)
  | 0, _, _ => none
  | fu + 1, xs, l3 =>
  ga 3 pb fun j2 =>
  (if ((sl_sizes xs) j2) ≤ l3 then
  ga 3 pb fun j3 =>
  ltt (((sl_madeFor xs) j3)) fun v1 =>
  ga 3 pa fun j4 =>
  ltt ((sl_madeFor_s xs (upd (sl_madeFor xs) j4 v1))) fun xs1 =>
  ga 3 pb fun j5 =>
  ltt (((sl_sizes xs1) j5)) fun v2 =>
  ga 3 pa fun j6 =>
  ltt ((sl_sizes_s xs1 (upd (sl_sizes xs1) j6 v2))) fun xs2 =>
  ga 3 pa fun j7 =>
  some (((sl_sizes xs2) j7), xs2)
  else
  ga 3 pa fun j8 =>
  ga 3 pb fun j9 =>
  ga 9 l3 fun j10 =>
  ltt (((sl_kinds xs) j9 j10)) fun v3 =>
  ga 9 l3 fun j11 =>
  ltt ((sl_kinds_s xs (va_up (sl_kinds xs) j8 (upd ((sl_kinds xs) j8) j11 v3)))) fun xs3 =>
  ga 3 pa fun j12 =>
  ga 3 pb fun j13 =>
  ga 9 l3 fun j14 =>
  ltt (((sl_figures xs3) j13 j14)) fun v4 =>
  ga 9 l3 fun j15 =>
  ltt ((sl_figures_s xs3 (va_up (sl_figures xs3) j12 (upd ((sl_figures xs3) j12) j15 v4)))) fun xs4 =>
  ltt (l3 + (1 : Int32)) fun v5 =>
  qX5_copy_30 pa pb  fu xs4 v5)
def fX5_copy (xs : SX5) (pa : Int32) (pb : Int32) : Option (Int32 × SX5) :=
  (fX5_isSlot pa).bind fun o1 =>
  (if o1 = (0 : Int32) then
  some ((-1 : Int32), xs)
  else
  (fX5_isSlot pb).bind fun o2 =>
  (if o2 = (0 : Int32) then
  some ((-1 : Int32), xs)
  else
  ga 3 pb fun j1 =>
  (if (0 : Int32) ≤ ((sl_sizes xs) j1) then
  qX5_copy_30 pa pb FU xs (0 : Int32)
  else
  some ((-11 : Int32), xs))))
set_option maxHeartbeats 4000000 in
set_option maxRecDepth 100000 in
theorem pX5_copy_30 {p : Program} {l : Launch} {e : Env} {s : State} {m : MethodId} {args : Array Value} {below : List Frame} {meth : Method} {c : Code} {g : GG} {w0 : va_W} {a : Nat → Nat} {i : Nat} {pa : Int32} {pb : Int32} {o : (Int32 × SX5)} (X : mX g yX5_copy cX5_copy 4 (some .int) p s m args meth c w0) :
  ∀ (fu : Nat) (xs : SX5) (l3 : Int32) (H : Heap) (locs : List Loc) (ls : Array Slot), qX5_copy_30 pa pb fu xs l3 = some o → mH g s w0 (wX5 g a i xs) H locs → lv_has ls 4 [(0, .ref (a i)), (1, .int pa), (2, .int pb), (3, .int l3)] → W p l e (rM 1 20) s m args below meth c H locs 0 0 (mZ g below args s w0 (wX5 g a i o.2) (some (.int o.1))) (F0 m 30 ls []) := by
  have hx := X.1
  have hb := X.2.1
  intro fu
  induction fu with
  | zero =>
    intro xs l3 H locs ls h
    unfold qX5_copy_30 at h
    cases h
  | succ fu ih =>
    intro xs l3 H locs ls h hH hl
    unfold qX5_copy_30 at h
    refine lv_iload_n hx hb dX5_copy_30 rfl (lv_at hl 3 rfl) ?_
    refine lv_aload_n hx hb dX5_copy_31 rfl (lv_at hl 0 rfl) ?_
    refine f_get X hH 0 rfl rfl 0 (by decide) inX5 fX5_9 rfl dX5_copy_32 ?_
    refine lv_iload_n hx hb dX5_copy_35 rfl (lv_at hl 2 rfl) ?_
    obtain ⟨j2, ej2, hinj2, h⟩ := ga_x h
    refine a_il X hH 1 rfl hinj2 ej2 dX5_copy_36 ?_
    refine lv_icmp_ge (tgt := 78) hx hb dX5_copy_37 (by decide) (fun c4 => ?_) (fun c4 => ?_)
    · have h := it_x h c4
      refine lv_aload_n hx hb dX5_copy_78 rfl (lv_at hl 0 rfl) ?_
      refine f_get X hH 0 rfl rfl 1 (by decide) inX5 fX5_15 rfl dX5_copy_79 ?_
      refine lv_iload_n hx hb dX5_copy_82 rfl (lv_at hl 1 rfl) ?_
      refine lv_aload_n hx hb dX5_copy_83 rfl (lv_at hl 0 rfl) ?_
      refine f_get X hH 0 rfl rfl 1 (by decide) inX5 fX5_15 rfl dX5_copy_84 ?_
      refine lv_iload_n hx hb dX5_copy_87 rfl (lv_at hl 2 rfl) ?_
      obtain ⟨j3, ej3, hinj3, h⟩ := ga_x h
      refine a_il X hH 2 rfl hinj3 ej3 dX5_copy_88 ?_
      obtain ⟨v1, ev1, h⟩ := ltt_x h
      refine lv_topi (fun y0 e0 => ?_)
      rw [← ev1] at e0
      subst y0
      obtain ⟨j4, ej4, hinj4, h⟩ := ga_x h
      obtain ⟨xs1, exs1, h⟩ := ltt_x h
      refine a_is X hH (ws1 := (wX5 g a i xs1)) 2 rfl hinj4 ej4 (by rw [exs1]; rfl) dX5_copy_89 (fun H locs hH => ?_)
      refine lv_aload_n hx hb dX5_copy_90 rfl (lv_at hl 0 rfl) ?_
      refine f_get X hH 0 rfl rfl 0 (by decide) inX5 fX5_9 rfl dX5_copy_91 ?_
      refine lv_iload_n hx hb dX5_copy_94 rfl (lv_at hl 1 rfl) ?_
      refine lv_aload_n hx hb dX5_copy_95 rfl (lv_at hl 0 rfl) ?_
      refine f_get X hH 0 rfl rfl 0 (by decide) inX5 fX5_9 rfl dX5_copy_96 ?_
      refine lv_iload_n hx hb dX5_copy_99 rfl (lv_at hl 2 rfl) ?_
      obtain ⟨j5, ej5, hinj5, h⟩ := ga_x h
      refine a_il X hH 1 rfl hinj5 ej5 dX5_copy_100 ?_
      obtain ⟨v2, ev2, h⟩ := ltt_x h
      refine lv_topi (fun y0 e0 => ?_)
      rw [← ev2] at e0
      subst y0
      obtain ⟨j6, ej6, hinj6, h⟩ := ga_x h
      obtain ⟨xs2, exs2, h⟩ := ltt_x h
      refine a_is X hH (ws1 := (wX5 g a i xs2)) 1 rfl hinj6 ej6 (by rw [exs2]; rfl) dX5_copy_101 (fun H locs hH => ?_)
      refine lv_aload_n hx hb dX5_copy_102 rfl (lv_at hl 0 rfl) ?_
      refine f_get X hH 0 rfl rfl 0 (by decide) inX5 fX5_9 rfl dX5_copy_103 ?_
      refine lv_iload_n hx hb dX5_copy_106 rfl (lv_at hl 1 rfl) ?_
      obtain ⟨j7, ej7, hinj7, h⟩ := ga_x h
      refine a_il X hH 1 rfl hinj7 ej7 dX5_copy_107 ?_
      have h := Option.some.inj h
      subst h
      exact e_i X hH dX5_copy_108
    · have h := ie_x h c4
      refine lv_aload_n hx hb dX5_copy_40 rfl (lv_at hl 0 rfl) ?_
      refine f_get X hH 0 rfl rfl 2 (by decide) inX5 fX5_20 rfl dX5_copy_41 ?_
      refine lv_iload_n hx hb dX5_copy_44 rfl (lv_at hl 1 rfl) ?_
      obtain ⟨j8, ej8, hinj8, h⟩ := ga_x h
      have hltj8 : j8 < 3 := by rw [ej8]; exact vp_lt hinj8
      refine a_al X hH (v := .ref (a (i + 4 + j8))) 3 5 rfl rfl hinj8 ej8 (rf_in hltj8) dX5_copy_45 ?_
      refine lv_iload_n hx hb dX5_copy_46 rfl (lv_at hl 3 rfl) ?_
      refine lv_aload_n hx hb dX5_copy_47 rfl (lv_at hl 0 rfl) ?_
      refine f_get X hH 0 rfl rfl 2 (by decide) inX5 fX5_20 rfl dX5_copy_48 ?_
      refine lv_iload_n hx hb dX5_copy_51 rfl (lv_at hl 2 rfl) ?_
      obtain ⟨j9, ej9, hinj9, h⟩ := ga_x h
      have hltj9 : j9 < 3 := by rw [ej9]; exact vp_lt hinj9
      refine a_al X hH (v := .ref (a (i + 4 + j9))) 3 5 rfl rfl hinj9 ej9 (rf_in hltj9) dX5_copy_52 ?_
      refine lv_iload_n hx hb dX5_copy_53 rfl (lv_at hl 3 rfl) ?_
      obtain ⟨j10, ej10, hinj10, h⟩ := ga_x h
      refine a_il X hH (4 + j9) (co_3 (P := fun jj => ((wX5 g a i xs))[4 + jj]? = some (a (i + 4 + jj), .inl (g.2.1 0, 9, .inl ((sl_kinds xs) jj)))) rfl rfl rfl hltj9) hinj10 ej10 dX5_copy_54 ?_
      obtain ⟨v3, ev3, h⟩ := ltt_x h
      refine lv_topi (fun y0 e0 => ?_)
      rw [← ev3] at e0
      subst y0
      obtain ⟨j11, ej11, hinj11, h⟩ := ga_x h
      obtain ⟨xs3, exs3, h⟩ := ltt_x h
      have hwxs3 := co_3 (P := fun jj => ((wX5 g a i xs)).set (4 + jj) (a (i + 4 + jj), .inl (g.2.1 0, 9, .inl (upd ((sl_kinds xs) jj) j11 v3))) = (wX5 g a i (sl_kinds_s xs (va_up (sl_kinds xs) jj (upd ((sl_kinds xs) jj) j11 v3))))) rfl rfl rfl hltj8
      refine a_is X hH (ws1 := (wX5 g a i xs3)) (4 + j8) (co_3 (P := fun jj => ((wX5 g a i xs))[4 + jj]? = some (a (i + 4 + jj), .inl (g.2.1 0, 9, .inl ((sl_kinds xs) jj)))) rfl rfl rfl hltj8) hinj11 ej11 (hwxs3.trans (by rw [exs3])) dX5_copy_55 (fun H locs hH => ?_)
      refine lv_aload_n hx hb dX5_copy_56 rfl (lv_at hl 0 rfl) ?_
      refine f_get X hH 0 rfl rfl 3 (by decide) inX5 fX5_23 rfl dX5_copy_57 ?_
      refine lv_iload_n hx hb dX5_copy_60 rfl (lv_at hl 1 rfl) ?_
      obtain ⟨j12, ej12, hinj12, h⟩ := ga_x h
      have hltj12 : j12 < 3 := by rw [ej12]; exact vp_lt hinj12
      refine a_al X hH (v := .ref (a (i + 8 + j12))) 7 5 rfl rfl hinj12 ej12 (rf_in hltj12) dX5_copy_61 ?_
      refine lv_iload_n hx hb dX5_copy_62 rfl (lv_at hl 3 rfl) ?_
      refine lv_aload_n hx hb dX5_copy_63 rfl (lv_at hl 0 rfl) ?_
      refine f_get X hH 0 rfl rfl 3 (by decide) inX5 fX5_23 rfl dX5_copy_64 ?_
      refine lv_iload_n hx hb dX5_copy_67 rfl (lv_at hl 2 rfl) ?_
      obtain ⟨j13, ej13, hinj13, h⟩ := ga_x h
      have hltj13 : j13 < 3 := by rw [ej13]; exact vp_lt hinj13
      refine a_al X hH (v := .ref (a (i + 8 + j13))) 7 5 rfl rfl hinj13 ej13 (rf_in hltj13) dX5_copy_68 ?_
      refine lv_iload_n hx hb dX5_copy_69 rfl (lv_at hl 3 rfl) ?_
      obtain ⟨j14, ej14, hinj14, h⟩ := ga_x h
      refine a_il X hH (8 + j13) (co_3 (P := fun jj => ((wX5 g a i xs3))[8 + jj]? = some (a (i + 8 + jj), .inl (g.2.1 0, 9, .inl ((sl_figures xs3) jj)))) rfl rfl rfl hltj13) hinj14 ej14 dX5_copy_70 ?_
      obtain ⟨v4, ev4, h⟩ := ltt_x h
      refine lv_topi (fun y0 e0 => ?_)
      rw [← ev4] at e0
      subst y0
      obtain ⟨j15, ej15, hinj15, h⟩ := ga_x h
      obtain ⟨xs4, exs4, h⟩ := ltt_x h
      have hwxs4 := co_3 (P := fun jj => ((wX5 g a i xs3)).set (8 + jj) (a (i + 8 + jj), .inl (g.2.1 0, 9, .inl (upd ((sl_figures xs3) jj) j15 v4))) = (wX5 g a i (sl_figures_s xs3 (va_up (sl_figures xs3) jj (upd ((sl_figures xs3) jj) j15 v4))))) rfl rfl rfl hltj12
      refine a_is X hH (ws1 := (wX5 g a i xs4)) (8 + j12) (co_3 (P := fun jj => ((wX5 g a i xs3))[8 + jj]? = some (a (i + 8 + jj), .inl (g.2.1 0, 9, .inl ((sl_figures xs3) jj)))) rfl rfl rfl hltj12) hinj15 ej15 (hwxs4.trans (by rw [exs4])) dX5_copy_71 (fun H locs hH => ?_)
      obtain ⟨v5, ev5, h⟩ := ltt_x h
      refine s_inc X (k := 3) (lv' := [(3, .int v5), (0, .ref (a i)), (1, .int pa), (2, .int pb)]) hl rfl (by rw [ev5]; rfl) dX5_copy_72 (by decide) rfl (fun ls hl => ?_)
      refine lv_goto (tgt := 30) hx hb dX5_copy_75 (by decide) ?_
      exact ih xs4 v5 H locs ls h hH (lv_sub hl [1, 2, 3, 0] rfl)
set_option maxHeartbeats 4000000 in
set_option maxRecDepth 100000 in
theorem uX5_copy {l : Launch} {g : GG} {a : Nat → Nat} {i : Nat} {xs : SX5} {pa : Int32} {pb : Int32} {o : (Int32 × SX5)} (h : fX5_copy xs pa pb = some o) : mC l g yX5_copy cX5_copy 4 (some .int) (rM 1 20) [.ref (a i), .int pa, .int pb] (wX5 g a i xs) (wX5 g a i o.2) (some (.int o.1)) := by
  refine mC.ofW (by decide) (fun p e s m below meth c X hH ls _ hl => ?_) (Nat.le_of_ble_eq_true rfl)
  have hx := X.1
  have hb := X.2.1
  have hl : lv_has ls 4 [(0, .ref (a i)), (1, .int pa), (2, .int pb)] := hl
  unfold fX5_copy at h
  suffices HH : ∀ (H : Heap) (locs : List Loc), mH g s (wX5 g a i xs) (wX5 g a i xs) H locs → W p l e (rM 1 20) s m _ below meth c H locs 0 0 (mZ g below _ s (wX5 g a i xs) (wX5 g a i o.2) (some (.int o.1))) (F0 m 0 ls []) from HH _ _ hH
  clear hH
  intro H locs hH
  refine lv_iload_n hx hb dX5_copy_0 rfl (lv_at hl 1 rfl) ?_
  obtain ⟨o1, ho1, h⟩ := bd_x h
  refine r_S X hH (ws1 := (wX5 g a i xs)) (As := [.int pa]) (rest := []) (st1 := [.int o1]) (uX5_isSlot  ho1) kX5_isSlot mX5_26 sX5_isSlot zX5 okX5_isSlot ⟨Nat.le_of_ble_eq_true rfl, Nat.le_of_ble_eq_true rfl⟩ rfl rfl (pm_none _) (pm_none _) rfl hl.1 rfl (Nat.le_of_ble_eq_true rfl) ⟨Nat.le_refl 0, Nat.le_refl 0⟩ rfl dX5_copy_1 (fun H locs hH => ?_)
  refine lv_if_eq (tgt := 14) hx hb dX5_copy_4 (by decide) (fun c1 => ?_) (fun c1 => ?_)
  · have h := it_x h c1
    refine lv_iconst (v := (-1 : Int32)) hx hb dX5_copy_14 (by decide) ?_
    have h := Option.some.inj h
    subst h
    exact e_i X hH dX5_copy_15
  · have h := ie_x h c1
    refine lv_iload_n hx hb dX5_copy_7 rfl (lv_at hl 2 rfl) ?_
    obtain ⟨o2, ho2, h⟩ := bd_x h
    refine r_S X hH (ws1 := (wX5 g a i xs)) (As := [.int pb]) (rest := []) (st1 := [.int o2]) (uX5_isSlot  ho2) kX5_isSlot mX5_26 sX5_isSlot zX5 okX5_isSlot ⟨Nat.le_of_ble_eq_true rfl, Nat.le_of_ble_eq_true rfl⟩ rfl rfl (pm_none _) (pm_none _) rfl hl.1 rfl (Nat.le_of_ble_eq_true rfl) ⟨Nat.le_refl 0, Nat.le_refl 0⟩ rfl dX5_copy_8 (fun H locs hH => ?_)
    refine lv_if_ne (tgt := 16) hx hb dX5_copy_11 (by decide) (fun c2 => ?_) (fun c2 => ?_)
    · have h := ie_x h c2
      refine lv_aload_n hx hb dX5_copy_16 rfl (lv_at hl 0 rfl) ?_
      refine f_get X hH 0 rfl rfl 0 (by decide) inX5 fX5_9 rfl dX5_copy_17 ?_
      refine lv_iload_n hx hb dX5_copy_20 rfl (lv_at hl 2 rfl) ?_
      obtain ⟨j1, ej1, hinj1, h⟩ := ga_x h
      refine a_il X hH 1 rfl hinj1 ej1 dX5_copy_21 ?_
      refine lv_if_ge (tgt := 28) hx hb dX5_copy_22 (by decide) (fun c3 => ?_) (fun c3 => ?_)
      · have h := it_x h c3
        refine lv_iconst (v := (0 : Int32)) hx hb dX5_copy_28 (by decide) ?_
        refine s_in X (lv' := [(3, .int (0 : Int32)), (0, .ref (a i)), (1, .int pa), (2, .int pb)]) hl rfl dX5_copy_29 rfl (by decide) rfl (fun ls hl => ?_)
        exact pX5_copy_30 X FU xs (0 : Int32) H locs ls h hH (lv_sub hl [1, 2, 3, 0] rfl)
      · have h := ie_x h c3
        refine lv_bipush (v := (-11 : Int32)) hx hb dX5_copy_25 (by decide) ?_
        have h := Option.some.inj h
        subst h
        exact e_i X hH dX5_copy_27
    · have h := it_x h c2
      refine lv_iconst (v := (-1 : Int32)) hx hb dX5_copy_14 (by decide) ?_
      have h := Option.some.inj h
      subst h
      exact e_i X hH dX5_copy_15

def qX6_goOnFrom_79 (xt : SX3) (pa : Int32) (k27 : SX6 → Int32 → Option SX6) (xs : SX6) (l3 : Int32) : Option SX6 :=
  ltt (l3 + (1 : Int32)) fun v1 =>
  k27 xs v1
def qX6_goOnFrom_27 (xt : SX3) (pa : Int32)  : Nat → SX6 → Int32 → Option SX6
  | 0, _, _ => none
  | fu + 1, xs, l3 =>
  (if (n_ways xt) ≤ l3 then
  some xs
  else
  (fX3_touches xt l3 pa).bind fun o1 =>
  (if o1 = (0 : Int32) then
  qX6_goOnFrom_79 xt pa (qX6_goOnFrom_27 xt pa  fu) xs l3
  else
  (fX3_otherEnd xt l3 pa).bind fun o2 =>
  ga 6 o2 fun j2 =>
  ga 6 pa fun j3 =>
  (fX3_weight xt l3).bind fun o3 =>
  gn (FP.dmul ((sp_now xs) j3) (FP.i2d o3)) <|
  ga 6 pa fun j4 =>
  gn (FP.ddiv (FP.dmul ((sp_now xs) j3) (FP.i2d o3)) (FP.i2d ((sp_weights xs) j4))) <|
  gn (FP.dadd ((sp_then xs) j2) (FP.ddiv (FP.dmul ((sp_now xs) j3) (FP.i2d o3)) (FP.i2d ((sp_weights xs) j4)))) <|
  ltt ((FP.dadd ((sp_then xs) j2) (FP.ddiv (FP.dmul ((sp_now xs) j3) (FP.i2d o3)) (FP.i2d ((sp_weights xs) j4))))) fun v2 =>
  ga 6 o2 fun j5 =>
  ltt ((sp_then_s xs (vf_upd (sp_then xs) j5 v2))) fun xs1 =>
  qX6_goOnFrom_79 xt pa (qX6_goOnFrom_27 xt pa  fu) xs1 l3))
def fX6_goOnFrom (xs : SX6) (xt : SX3) (pa : Int32) : Option SX6 :=
  ga 6 pa fun j1 =>
  (if (0 : Int32) < ((sp_weights xs) j1) then
  qX6_goOnFrom_27 xt pa FU xs (0 : Int32)
  else
  ga 6 pa fun j6 =>
  ga 6 pa fun j7 =>
  gn (FP.dadd ((sp_then xs) j6) ((sp_now xs) j7)) <|
  ltt ((FP.dadd ((sp_then xs) j6) ((sp_now xs) j7))) fun v3 =>
  ga 6 pa fun j8 =>
  ltt ((sp_then_s xs (vf_upd (sp_then xs) j8 v3))) fun xs2 =>
  some xs2)
set_option maxHeartbeats 4000000 in
set_option maxRecDepth 100000 in
theorem pX6_goOnFrom_79 {p : Program} {l : Launch} {e : Env} {s : State} {m : MethodId} {args : Array Value} {below : List Frame} {meth : Method} {c : Code} {g : GG} {w0 : va_W} {a : Nat → Nat} {i : Nat} {b : Nat → Nat} {j : Nat} {xt : SX3} {pa : Int32} {o : SX6} (X : mX g yX6_goOnFrom cX6_goOnFrom 4 none p s m args meth c w0)
  {k27 : SX6 → Int32 → Option SX6} (K27 : ∀ (xs : SX6) (l3 : Int32) (H : Heap) (locs : List Loc) (ls : Array Slot), k27 xs l3 = some o → mH g s w0 ((wX6 g a i xs) ++ (wX3 g b j xt)) H locs → lv_has ls 4 [(0, .ref (a i)), (1, .ref (b j)), (2, .int pa), (3, .int l3)] → W p l e (rM 2 43) s m args below meth c H locs 0 0 (mZ g below args s w0 ((wX6 g a i o) ++ (wX3 g b j xt)) none) (F0 m 27 ls [])) :
  ∀ (xs : SX6) (l3 : Int32) (H : Heap) (locs : List Loc) (ls : Array Slot), qX6_goOnFrom_79 xt pa k27 xs l3 = some o → mH g s w0 ((wX6 g a i xs) ++ (wX3 g b j xt)) H locs → lv_has ls 4 [(0, .ref (a i)), (1, .ref (b j)), (2, .int pa), (3, .int l3)] → W p l e (rM 2 43) s m args below meth c H locs 0 0 (mZ g below args s w0 ((wX6 g a i o) ++ (wX3 g b j xt)) none) (F0 m 79 ls []) := by
  have hx := X.1
  have hb := X.2.1
  intro xs l3 H locs ls h hH hl
  unfold qX6_goOnFrom_79 at h
  obtain ⟨v1, ev1, h⟩ := ltt_x h
  refine s_inc X (k := 3) (lv' := [(3, .int v1), (0, .ref (a i)), (1, .ref (b j)), (2, .int pa)]) hl rfl (by rw [ev1]; rfl) dX6_goOnFrom_79 (by decide) rfl (fun ls hl => ?_)
  refine lv_goto (tgt := 27) hx hb dX6_goOnFrom_82 (by decide) ?_
  exact K27 xs v1 H locs ls h hH (lv_sub hl [1, 2, 3, 0] rfl)
set_option maxHeartbeats 4000000 in
set_option maxRecDepth 100000 in
theorem pX6_goOnFrom_27 {p : Program} {l : Launch} {e : Env} {s : State} {m : MethodId} {args : Array Value} {below : List Frame} {meth : Method} {c : Code} {g : GG} {w0 : va_W} {a : Nat → Nat} {i : Nat} {b : Nat → Nat} {j : Nat} {xt : SX3} {pa : Int32} {o : SX6} (X : mX g yX6_goOnFrom cX6_goOnFrom 4 none p s m args meth c w0) :
  ∀ (fu : Nat) (xs : SX6) (l3 : Int32) (H : Heap) (locs : List Loc) (ls : Array Slot), qX6_goOnFrom_27 xt pa fu xs l3 = some o → mH g s w0 ((wX6 g a i xs) ++ (wX3 g b j xt)) H locs → lv_has ls 4 [(0, .ref (a i)), (1, .ref (b j)), (2, .int pa), (3, .int l3)] → W p l e (rM 2 43) s m args below meth c H locs 0 0 (mZ g below args s w0 ((wX6 g a i o) ++ (wX3 g b j xt)) none) (F0 m 27 ls []) := by
  have hx := X.1
  have hb := X.2.1
  intro fu
  induction fu with
  | zero =>
    intro xs l3 H locs ls h
    unfold qX6_goOnFrom_27 at h
    cases h
  | succ fu ih =>
    intro xs l3 H locs ls h hH hl
    unfold qX6_goOnFrom_27 at h
    refine lv_iload_n hx hb dX6_goOnFrom_27 rfl (lv_at hl 3 rfl) ?_
    refine lv_aload_n hx hb dX6_goOnFrom_28 rfl (lv_at hl 1 rfl) ?_
    refine f_get X hH 4 rfl rfl 1 (by decide) inX3 fX6_36 rfl dX6_goOnFrom_29 ?_
    refine lv_icmp_ge (tgt := 85) hx hb dX6_goOnFrom_32 (by decide) (fun c2 => ?_) (fun c2 => ?_)
    · have h := it_x h c2
      have h := Option.some.inj h
      subst h
      exact e_v X hH dX6_goOnFrom_85
    · have h := ie_x h c2
      refine lv_aload_n hx hb dX6_goOnFrom_35 rfl (lv_at hl 1 rfl) ?_
      refine lv_iload_n hx hb dX6_goOnFrom_36 rfl (lv_at hl 3 rfl) ?_
      refine lv_iload_n hx hb dX6_goOnFrom_37 rfl (lv_at hl 2 rfl) ?_
      obtain ⟨o1, ho1, h⟩ := bd_x h
      refine r_V X hH (ws1 := ((wX6 g a i xs) ++ (wX3 g b j xt))) (As := [.int l3, .int pa]) (rest := []) (st1 := [.int o1]) (uX3_touches (a := b) (i := j) ho1) kX3_touches mX6_39 iX3_touches vX3_touches zX3 okX3_touches ⟨Nat.le_of_ble_eq_true rfl, Nat.le_of_ble_eq_true rfl⟩ rfl rfl (q0 := 4) rfl rfl (pm_s (pm_all _)) (pm_s (pm_all _)) rfl hl.1 rfl (Nat.le_of_ble_eq_true rfl) ⟨Nat.le_refl 0, Nat.le_refl 0⟩ rfl dX6_goOnFrom_38 (fun H locs hH => ?_)
      refine lv_if_eq (tgt := 79) hx hb dX6_goOnFrom_41 (by decide) (fun c3 => ?_) (fun c3 => ?_)
      · have h := it_x h c3
        exact pX6_goOnFrom_79 X ih xs l3 H locs ls h hH (lv_sub hl [0, 1, 2, 3] rfl)
      · have h := ie_x h c3
        refine lv_aload_n hx hb dX6_goOnFrom_44 rfl (lv_at hl 0 rfl) ?_
        refine f_get X hH 0 rfl rfl 1 (by decide) inX6 fX6_15 rfl dX6_goOnFrom_45 ?_
        refine lv_aload_n hx hb dX6_goOnFrom_48 rfl (lv_at hl 1 rfl) ?_
        refine lv_iload_n hx hb dX6_goOnFrom_49 rfl (lv_at hl 3 rfl) ?_
        refine lv_iload_n hx hb dX6_goOnFrom_50 rfl (lv_at hl 2 rfl) ?_
        obtain ⟨o2, ho2, h⟩ := bd_x h
        refine r_V X hH (ws1 := ((wX6 g a i xs) ++ (wX3 g b j xt))) (As := [.int l3, .int pa]) (rest := [.ref (sp_pt xs)]) (st1 := [.int o2, .ref (sp_pt xs)]) (uX3_otherEnd (a := b) (i := j) ho2) kX3_otherEnd mX6_43 iX3_otherEnd vX3_otherEnd zX3 okX3_otherEnd ⟨Nat.le_of_ble_eq_true rfl, Nat.le_of_ble_eq_true rfl⟩ rfl rfl (q0 := 4) rfl rfl (pm_s (pm_all _)) (pm_s (pm_all _)) rfl hl.1 rfl (Nat.le_of_ble_eq_true rfl) ⟨Nat.le_refl 0, Nat.le_refl 0⟩ rfl dX6_goOnFrom_51 (fun H locs hH => ?_)
        refine lv_dup2_11 hx hb dX6_goOnFrom_54 rfl rfl ?_
        obtain ⟨j2, ej2, hinj2, h⟩ := ga_x h
        refine a_dl X hH 2 rfl hinj2 ej2 dX6_goOnFrom_55 ?_
        refine lv_aload_n hx hb dX6_goOnFrom_56 rfl (lv_at hl 0 rfl) ?_
        refine f_get X hH 0 rfl rfl 0 (by decide) inX6 fX6_9 rfl dX6_goOnFrom_57 ?_
        refine lv_iload_n hx hb dX6_goOnFrom_60 rfl (lv_at hl 2 rfl) ?_
        obtain ⟨j3, ej3, hinj3, h⟩ := ga_x h
        refine a_dl X hH 1 rfl hinj3 ej3 dX6_goOnFrom_61 ?_
        refine lv_aload_n hx hb dX6_goOnFrom_62 rfl (lv_at hl 1 rfl) ?_
        refine lv_iload_n hx hb dX6_goOnFrom_63 rfl (lv_at hl 3 rfl) ?_
        obtain ⟨o3, ho3, h⟩ := bd_x h
        refine r_V X hH (ws1 := ((wX6 g a i xs) ++ (wX3 g b j xt))) (As := [.int l3]) (rest := [.double ((sp_now xs) j3), .double ((sp_then xs) j2), .int o2, .ref (sp_pt xs)]) (st1 := [.int o3, .double ((sp_now xs) j3), .double ((sp_then xs) j2), .int o2, .ref (sp_pt xs)]) (uX3_weight (a := b) (i := j) ho3) kX3_weight mX6_47 iX3_weight vX3_weight zX3 okX3_weight ⟨Nat.le_of_ble_eq_true rfl, Nat.le_of_ble_eq_true rfl⟩ rfl rfl (q0 := 4) rfl rfl (pm_s (pm_all _)) (pm_s (pm_all _)) rfl hl.1 rfl (Nat.le_of_ble_eq_true rfl) ⟨Nat.le_refl 0, Nat.le_refl 0⟩ rfl dX6_goOnFrom_64 (fun H locs hH => ?_)
        refine lv_i2d hx hb dX6_goOnFrom_67 ?_
        obtain ⟨z1, h⟩ := gn_x h
        refine lv_dmul hx hb dX6_goOnFrom_68 z1 ?_
        refine lv_aload_n hx hb dX6_goOnFrom_69 rfl (lv_at hl 0 rfl) ?_
        refine f_get X hH 0 rfl rfl 2 (by decide) inX6 fX6_18 rfl dX6_goOnFrom_70 ?_
        refine lv_iload_n hx hb dX6_goOnFrom_73 rfl (lv_at hl 2 rfl) ?_
        obtain ⟨j4, ej4, hinj4, h⟩ := ga_x h
        refine a_il X hH 3 rfl hinj4 ej4 dX6_goOnFrom_74 ?_
        refine lv_i2d hx hb dX6_goOnFrom_75 ?_
        obtain ⟨z2, h⟩ := gn_x h
        refine lv_ddiv hx hb dX6_goOnFrom_76 z2 ?_
        obtain ⟨z3, h⟩ := gn_x h
        refine lv_dadd hx hb dX6_goOnFrom_77 z3 ?_
        obtain ⟨v2, ev2, h⟩ := ltt_x h
        refine lv_topd (fun y0 e0 => ?_)
        rw [← ev2] at e0
        subst y0
        obtain ⟨j5, ej5, hinj5, h⟩ := ga_x h
        obtain ⟨xs1, exs1, h⟩ := ltt_x h
        refine a_ds X hH (ws1 := ((wX6 g a i xs1) ++ (wX3 g b j xt))) 2 rfl hinj5 ej5 (by rw [exs1]; rfl) dX6_goOnFrom_78 (fun H locs hH => ?_)
        exact pX6_goOnFrom_79 X ih xs1 l3 H locs ls h hH (lv_sub hl [0, 1, 2, 3] rfl)
set_option maxHeartbeats 4000000 in
set_option maxRecDepth 100000 in
theorem uX6_goOnFrom {l : Launch} {g : GG} {a : Nat → Nat} {i : Nat} {b : Nat → Nat} {j : Nat} {xs : SX6} {xt : SX3} {pa : Int32} {o : SX6} (h : fX6_goOnFrom xs xt pa = some o) : mC l g yX6_goOnFrom cX6_goOnFrom 4 none (rM 2 43) [.ref (a i), .ref (b j), .int pa] ((wX6 g a i xs) ++ (wX3 g b j xt)) ((wX6 g a i o) ++ (wX3 g b j xt)) none := by
  refine mC.ofW (by decide) (fun p e s m below meth c X hH ls _ hl => ?_) (Nat.le_of_ble_eq_true rfl)
  have hx := X.1
  have hb := X.2.1
  have hl : lv_has ls 4 [(0, .ref (a i)), (1, .ref (b j)), (2, .int pa)] := hl
  unfold fX6_goOnFrom at h
  suffices HH : ∀ (H : Heap) (locs : List Loc), mH g s ((wX6 g a i xs) ++ (wX3 g b j xt)) ((wX6 g a i xs) ++ (wX3 g b j xt)) H locs → W p l e (rM 2 43) s m _ below meth c H locs 0 0 (mZ g below _ s ((wX6 g a i xs) ++ (wX3 g b j xt)) ((wX6 g a i o) ++ (wX3 g b j xt)) none) (F0 m 0 ls []) from HH _ _ hH
  clear hH
  intro H locs hH
  refine lv_aload_n hx hb dX6_goOnFrom_0 rfl (lv_at hl 0 rfl) ?_
  refine f_get X hH 0 rfl rfl 2 (by decide) inX6 fX6_18 rfl dX6_goOnFrom_1 ?_
  refine lv_iload_n hx hb dX6_goOnFrom_4 rfl (lv_at hl 2 rfl) ?_
  obtain ⟨j1, ej1, hinj1, h⟩ := ga_x h
  refine a_il X hH 3 rfl hinj1 ej1 dX6_goOnFrom_5 ?_
  refine lv_if_gt (tgt := 25) hx hb dX6_goOnFrom_6 (by decide) (fun c1 => ?_) (fun c1 => ?_)
  · have h := it_x h c1
    refine lv_iconst (v := (0 : Int32)) hx hb dX6_goOnFrom_25 (by decide) ?_
    refine s_in X (lv' := [(3, .int (0 : Int32)), (0, .ref (a i)), (1, .ref (b j)), (2, .int pa)]) hl rfl dX6_goOnFrom_26 rfl (by decide) rfl (fun ls hl => ?_)
    exact pX6_goOnFrom_27 X FU xs (0 : Int32) H locs ls h hH (lv_sub hl [1, 2, 3, 0] rfl)
  · have h := ie_x h c1
    refine lv_aload_n hx hb dX6_goOnFrom_9 rfl (lv_at hl 0 rfl) ?_
    refine f_get X hH 0 rfl rfl 1 (by decide) inX6 fX6_15 rfl dX6_goOnFrom_10 ?_
    refine lv_iload_n hx hb dX6_goOnFrom_13 rfl (lv_at hl 2 rfl) ?_
    refine lv_dup2_11 hx hb dX6_goOnFrom_14 rfl rfl ?_
    obtain ⟨j6, ej6, hinj6, h⟩ := ga_x h
    refine a_dl X hH 2 rfl hinj6 ej6 dX6_goOnFrom_15 ?_
    refine lv_aload_n hx hb dX6_goOnFrom_16 rfl (lv_at hl 0 rfl) ?_
    refine f_get X hH 0 rfl rfl 0 (by decide) inX6 fX6_9 rfl dX6_goOnFrom_17 ?_
    refine lv_iload_n hx hb dX6_goOnFrom_20 rfl (lv_at hl 2 rfl) ?_
    obtain ⟨j7, ej7, hinj7, h⟩ := ga_x h
    refine a_dl X hH 1 rfl hinj7 ej7 dX6_goOnFrom_21 ?_
    obtain ⟨z4, h⟩ := gn_x h
    refine lv_dadd hx hb dX6_goOnFrom_22 z4 ?_
    obtain ⟨v3, ev3, h⟩ := ltt_x h
    refine lv_topd (fun y0 e0 => ?_)
    rw [← ev3] at e0
    subst y0
    obtain ⟨j8, ej8, hinj8, h⟩ := ga_x h
    obtain ⟨xs2, exs2, h⟩ := ltt_x h
    refine a_ds X hH (ws1 := ((wX6 g a i xs2) ++ (wX3 g b j xt))) 2 rfl hinj8 ej8 (by rw [exs2]; rfl) dX6_goOnFrom_23 (fun H locs hH => ?_)
    have h := Option.some.inj h
    subst h
    exact e_v X hH dX6_goOnFrom_24

def qX6_walk_78 (xt : SX3) (pa : Int32) (pb : Int32) (k45 : SX6 → Int32 → Option SX6) : Nat → SX6 → Int32 → Int32 → Option SX6
  | 0, _, _, _ => none
  | fu + 1, xs, l4, l5 =>
  (if (n_points xt) ≤ l5 then
  ltt ((sp_pt xs, sp_pn xs, sp_then xs, sp_now xs, sp_weights xs)) fun xs2 =>
  ltt (l4 + (1 : Int32)) fun v1 =>
  k45 xs2 v1
  else
  (fX6_goOnFrom xs xt l5).bind fun o2 =>
  ltt (l5 + (1 : Int32)) fun v2 =>
  qX6_walk_78 xt pa pb k45 fu o2 l4 v2)
def qX6_walk_54 (xt : SX3) (pa : Int32) (pb : Int32) (k45 : SX6 → Int32 → Option SX6) : Nat → SX6 → Int32 → Int32 → Option SX6
  | 0, _, _, _ => none
  | fu + 1, xs, l4, l5 =>
  (if (6 : Int32) ≤ l5 then
  qX6_walk_78 xt pa pb k45 FU xs l4 (0 : Int32)
  else
  ga 6 l5 fun j1 =>
  ltt ((sp_then_s xs (vf_upd (sp_then xs) j1 (0 : UInt64)))) fun xs3 =>
  ltt (l5 + (1 : Int32)) fun v3 =>
  qX6_walk_54 xt pa pb k45 fu xs3 l4 v3)
def qX6_walk_45 (xt : SX3) (pa : Int32) (pb : Int32)  : Nat → SX6 → Int32 → Option SX6
  | 0, _, _ => none
  | fu + 1, xs, l4 =>
  (if pb ≤ l4 then
  some xs
  else
  qX6_walk_54 xt pa pb (qX6_walk_45 xt pa pb  fu) FU xs l4 (0 : Int32))
def qX6_walk_35 (xt : SX3) (pa : Int32) (pb : Int32) (k11 : SX6 → Int32 → Option SX6) (xs : SX6) (l4 : Int32) (t1 : Int32) (t2 : UInt64) : Option SX6 :=
  ga 6 t1 fun j2 =>
  ltt ((sp_now_s xs (vf_upd (sp_now xs) j2 t2))) fun xs4 =>
  ltt (l4 + (1 : Int32)) fun v4 =>
  k11 xs4 v4
def qX6_walk_11 (xt : SX3) (pa : Int32) (pb : Int32)  : Nat → SX6 → Int32 → Option SX6
  | 0, _, _ => none
  | fu + 1, xs, l4 =>
  (if (6 : Int32) ≤ l4 then
  qX6_walk_45 xt pa pb FU xs (0 : Int32)
  else
  (if l4 = pa then
  qX6_walk_35 xt pa pb (qX6_walk_11 xt pa pb  fu) xs l4 l4 (4607182418800017408 : UInt64)
  else
  qX6_walk_35 xt pa pb (qX6_walk_11 xt pa pb  fu) xs l4 l4 (0 : UInt64)))
def fX6_walk (xs : SX6) (xt : SX3) (pa : Int32) (pb : Int32) : Option SX6 :=
  (fX3_layWeights xt (sp_weights xs)).bind fun o1 =>
  ltt ((sp_weights_s xs o1)) fun xs1 =>
  qX6_walk_11 xt pa pb FU xs1 (0 : Int32)
set_option maxHeartbeats 4000000 in
set_option maxRecDepth 100000 in
theorem pX6_walk_78 {p : Program} {l : Launch} {e : Env} {s : State} {m : MethodId} {args : Array Value} {below : List Frame} {meth : Method} {c : Code} {g : GG} {w0 : va_W} {a : Nat → Nat} {i : Nat} {b : Nat → Nat} {j : Nat} {xt : SX3} {pa : Int32} {pb : Int32} {o : SX6} (X : mX g yX6_walk cX6_walk 6 none p s m args meth c w0)
  {k45 : SX6 → Int32 → Option SX6} (K45 : ∀ (xs : SX6) (l4 : Int32) (H : Heap) (locs : List Loc) (ls : Array Slot), k45 xs l4 = some o → mH g s w0 ((wX6 g a i xs) ++ (wX3 g b j xt)) H locs → lv_has ls 6 [(0, .ref (a i)), (1, .ref (b j)), (2, .int pa), (3, .int pb), (4, .int l4)] → W p l e (rM 4 88) s m args below meth c H locs 0 0 (mZ g below args s w0 ((wX6 g a i o) ++ (wX3 g b j xt)) none) (F0 m 45 ls [])) :
  ∀ (fu : Nat) (xs : SX6) (l4 : Int32) (l5 : Int32) (H : Heap) (locs : List Loc) (ls : Array Slot), qX6_walk_78 xt pa pb k45 fu xs l4 l5 = some o → mH g s w0 ((wX6 g a i xs) ++ (wX3 g b j xt)) H locs → lv_has ls 6 [(0, .ref (a i)), (1, .ref (b j)), (2, .int pa), (3, .int pb), (4, .int l4), (5, .int l5)] → W p l e (rM 4 88) s m args below meth c H locs 0 0 (mZ g below args s w0 ((wX6 g a i o) ++ (wX3 g b j xt)) none) (F0 m 78 ls []) := by
  have hx := X.1
  have hb := X.2.1
  intro fu
  induction fu with
  | zero =>
    intro xs l4 l5 H locs ls h
    unfold qX6_walk_78 at h
    cases h
  | succ fu ih =>
    intro xs l4 l5 H locs ls h hH hl
    unfold qX6_walk_78 at h
    refine lv_iload hx hb dX6_walk_78 (lv_at hl 5 rfl) ?_
    refine lv_aload_n hx hb dX6_walk_80 rfl (lv_at hl 1 rfl) ?_
    refine f_get X hH 4 rfl rfl 0 (by decide) inX3 fX6_28 rfl dX6_walk_81 ?_
    refine lv_icmp_ge (tgt := 100) hx hb dX6_walk_84 (by decide) (fun c4 => ?_) (fun c4 => ?_)
    · have h := it_x h c4
      refine lv_aload_n hx hb dX6_walk_100 rfl (lv_at hl 0 rfl) ?_
      refine f_get X hH 0 rfl rfl 0 (by decide) inX6 fX6_9 rfl dX6_walk_101 ?_
      refine lv_astore (lv' := [(5, .ref (sp_pn xs)), (0, .ref (a i)), (1, .ref (b j)), (2, .int pa), (3, .int pb), (4, .int l4)]) hx hb dX6_walk_104 hl (by decide) rfl (fun ls hl => ?_)
      refine lv_aload_n hx hb dX6_walk_106 rfl (lv_at hl 1 rfl) ?_
      refine lv_aload_n hx hb dX6_walk_107 rfl (lv_at hl 1 rfl) ?_
      refine f_get X hH 0 rfl rfl 1 (by decide) inX6 fX6_15 rfl dX6_walk_108 ?_
      refine f_put X hH (ws1 := ([((a i), .inr (6, [.ref (sp_pt xs), .ref (sp_pt xs), .ref (a (i + 3))])), (sp_pn xs, .inl (g.2.1 2, 6, .inr (.inr (.inr (.inl (sp_now xs)))))), (sp_pt xs, .inl (g.2.1 2, 6, .inr (.inr (.inr (.inl (sp_then xs)))))), (a (i + 3), .inl (g.2.1 0, 6, .inl (sp_weights xs)))] ++ (wX3 g b j xt))) 0 rfl rfl 0 (by decide) inX6 tyX6 tyX6_ok nmX6 fX6_9 rfl rfl rfl (Nat.le_of_ble_eq_true rfl) rfl dX6_walk_111 (fun H locs hH => ?_)
      refine lv_aload_n hx hb dX6_walk_114 rfl (lv_at hl 1 rfl) ?_
      refine lv_aload hx hb dX6_walk_115 (lv_at hl 0 rfl) ?_
      refine f_put X hH (ws1 := ([((a i), .inr (6, [.ref (sp_pt xs), .ref (sp_pn xs), .ref (a (i + 3))])), (sp_pn xs, .inl (g.2.1 2, 6, .inr (.inr (.inr (.inl (sp_now xs)))))), (sp_pt xs, .inl (g.2.1 2, 6, .inr (.inr (.inr (.inl (sp_then xs)))))), (a (i + 3), .inl (g.2.1 0, 6, .inl (sp_weights xs)))] ++ (wX3 g b j xt))) 0 rfl rfl 1 (by decide) inX6 tyX6 tyX6_ok nmX6 fX6_15 rfl rfl rfl (Nat.le_of_ble_eq_true rfl) rfl dX6_walk_117 (fun H locs hH => ?_)
      obtain ⟨xs2, exs2, h⟩ := ltt_x h
      have hH : mH g s w0 ((wX6 g a i xs2) ++ (wX3 g b j xt)) H locs := hH.perm (by rw [exs2]; exact List.Perm.cons _ (List.Perm.swap _ _ _))
      obtain ⟨v1, ev1, h⟩ := ltt_x h
      refine s_inc X (k := 5) (lv' := [(4, .int v1), (5, .ref (sp_pn xs)), (0, .ref (a i)), (1, .ref (b j)), (2, .int pa), (3, .int pb)]) hl rfl (by rw [ev1]; rfl) dX6_walk_120 (by decide) rfl (fun ls hl => ?_)
      refine lv_goto (tgt := 45) hx hb dX6_walk_123 (by decide) ?_
      exact K45 xs2 v1 H locs ls h hH (lv_sub hl [2, 3, 4, 5, 0] rfl)
    · have h := ie_x h c4
      refine lv_aload_n hx hb dX6_walk_87 rfl (lv_at hl 0 rfl) ?_
      refine lv_aload_n hx hb dX6_walk_88 rfl (lv_at hl 1 rfl) ?_
      refine lv_iload hx hb dX6_walk_89 (lv_at hl 5 rfl) ?_
      obtain ⟨o2, ho2, h⟩ := bd_x h
      refine r_V X hH (ws1 := ((wX6 g a i o2) ++ (wX3 g b j xt))) (As := [.ref (b j), .int l5]) (rest := []) (st1 := []) (uX6_goOnFrom (a := a) (i := i) (b := b) (j := j) ho2) kX6_goOnFrom mX6_32 iX6_goOnFrom vX6_goOnFrom zX6 okX6_goOnFrom ⟨Nat.le_of_ble_eq_true rfl, Nat.le_of_ble_eq_true rfl⟩ rfl rfl (q0 := 0) rfl rfl (pm_all _) (pm_all _) rfl hl.1 rfl (Nat.le_of_ble_eq_true rfl) ⟨Nat.le_refl 0, Nat.le_refl 0⟩ rfl dX6_walk_91 (fun H locs hH => ?_)
      obtain ⟨v2, ev2, h⟩ := ltt_x h
      refine s_inc X (k := 5) (lv' := [(5, .int v2), (0, .ref (a i)), (1, .ref (b j)), (2, .int pa), (3, .int pb), (4, .int l4)]) hl rfl (by rw [ev2]; rfl) dX6_walk_94 (by decide) rfl (fun ls hl => ?_)
      refine lv_goto (tgt := 78) hx hb dX6_walk_97 (by decide) ?_
      exact ih o2 l4 v2 H locs ls h hH (lv_sub hl [1, 2, 3, 4, 5, 0] rfl)
set_option maxHeartbeats 4000000 in
set_option maxRecDepth 100000 in
theorem pX6_walk_54 {p : Program} {l : Launch} {e : Env} {s : State} {m : MethodId} {args : Array Value} {below : List Frame} {meth : Method} {c : Code} {g : GG} {w0 : va_W} {a : Nat → Nat} {i : Nat} {b : Nat → Nat} {j : Nat} {xt : SX3} {pa : Int32} {pb : Int32} {o : SX6} (X : mX g yX6_walk cX6_walk 6 none p s m args meth c w0)
  {k45 : SX6 → Int32 → Option SX6} (K45 : ∀ (xs : SX6) (l4 : Int32) (H : Heap) (locs : List Loc) (ls : Array Slot), k45 xs l4 = some o → mH g s w0 ((wX6 g a i xs) ++ (wX3 g b j xt)) H locs → lv_has ls 6 [(0, .ref (a i)), (1, .ref (b j)), (2, .int pa), (3, .int pb), (4, .int l4)] → W p l e (rM 4 88) s m args below meth c H locs 0 0 (mZ g below args s w0 ((wX6 g a i o) ++ (wX3 g b j xt)) none) (F0 m 45 ls [])) :
  ∀ (fu : Nat) (xs : SX6) (l4 : Int32) (l5 : Int32) (H : Heap) (locs : List Loc) (ls : Array Slot), qX6_walk_54 xt pa pb k45 fu xs l4 l5 = some o → mH g s w0 ((wX6 g a i xs) ++ (wX3 g b j xt)) H locs → lv_has ls 6 [(0, .ref (a i)), (1, .ref (b j)), (2, .int pa), (3, .int pb), (4, .int l4), (5, .int l5)] → W p l e (rM 4 88) s m args below meth c H locs 0 0 (mZ g below args s w0 ((wX6 g a i o) ++ (wX3 g b j xt)) none) (F0 m 54 ls []) := by
  have hx := X.1
  have hb := X.2.1
  intro fu
  induction fu with
  | zero =>
    intro xs l4 l5 H locs ls h
    unfold qX6_walk_54 at h
    cases h
  | succ fu ih =>
    intro xs l4 l5 H locs ls h hH hl
    unfold qX6_walk_54 at h
    refine lv_iload hx hb dX6_walk_54 (lv_at hl 5 rfl) ?_
    refine lv_bipush (v := (6 : Int32)) hx hb dX6_walk_56 (by decide) ?_
    refine lv_icmp_ge (tgt := 75) hx hb dX6_walk_58 (by decide) (fun c3 => ?_) (fun c3 => ?_)
    · have h := it_x h c3
      refine lv_iconst (v := (0 : Int32)) hx hb dX6_walk_75 (by decide) ?_
      refine s_i X (lv' := [(5, .int (0 : Int32)), (0, .ref (a i)), (1, .ref (b j)), (2, .int pa), (3, .int pb), (4, .int l4)]) hl rfl dX6_walk_76 (by decide) rfl (fun ls hl => ?_)
      exact pX6_walk_78 X K45 FU xs l4 (0 : Int32) H locs ls h hH (lv_sub hl [1, 2, 3, 4, 5, 0] rfl)
    · have h := ie_x h c3
      refine lv_aload_n hx hb dX6_walk_61 rfl (lv_at hl 0 rfl) ?_
      refine f_get X hH 0 rfl rfl 1 (by decide) inX6 fX6_15 rfl dX6_walk_62 ?_
      refine lv_iload hx hb dX6_walk_65 (lv_at hl 5 rfl) ?_
      refine lv_dconst0 hx hb dX6_walk_67 ?_
      obtain ⟨j1, ej1, hinj1, h⟩ := ga_x h
      obtain ⟨xs3, exs3, h⟩ := ltt_x h
      refine a_ds X hH (ws1 := ((wX6 g a i xs3) ++ (wX3 g b j xt))) 2 rfl hinj1 ej1 (by rw [exs3]; rfl) dX6_walk_68 (fun H locs hH => ?_)
      obtain ⟨v3, ev3, h⟩ := ltt_x h
      refine s_inc X (k := 5) (lv' := [(5, .int v3), (0, .ref (a i)), (1, .ref (b j)), (2, .int pa), (3, .int pb), (4, .int l4)]) hl rfl (by rw [ev3]; rfl) dX6_walk_69 (by decide) rfl (fun ls hl => ?_)
      refine lv_goto (tgt := 54) hx hb dX6_walk_72 (by decide) ?_
      exact ih xs3 l4 v3 H locs ls h hH (lv_sub hl [1, 2, 3, 4, 5, 0] rfl)
set_option maxHeartbeats 4000000 in
set_option maxRecDepth 100000 in
theorem pX6_walk_45 {p : Program} {l : Launch} {e : Env} {s : State} {m : MethodId} {args : Array Value} {below : List Frame} {meth : Method} {c : Code} {g : GG} {w0 : va_W} {a : Nat → Nat} {i : Nat} {b : Nat → Nat} {j : Nat} {xt : SX3} {pa : Int32} {pb : Int32} {o : SX6} (X : mX g yX6_walk cX6_walk 6 none p s m args meth c w0) :
  ∀ (fu : Nat) (xs : SX6) (l4 : Int32) (H : Heap) (locs : List Loc) (ls : Array Slot), qX6_walk_45 xt pa pb fu xs l4 = some o → mH g s w0 ((wX6 g a i xs) ++ (wX3 g b j xt)) H locs → lv_has ls 6 [(0, .ref (a i)), (1, .ref (b j)), (2, .int pa), (3, .int pb), (4, .int l4)] → W p l e (rM 4 88) s m args below meth c H locs 0 0 (mZ g below args s w0 ((wX6 g a i o) ++ (wX3 g b j xt)) none) (F0 m 45 ls []) := by
  have hx := X.1
  have hb := X.2.1
  intro fu
  induction fu with
  | zero =>
    intro xs l4 H locs ls h
    unfold qX6_walk_45 at h
    cases h
  | succ fu ih =>
    intro xs l4 H locs ls h hH hl
    unfold qX6_walk_45 at h
    refine lv_iload hx hb dX6_walk_45 (lv_at hl 4 rfl) ?_
    refine lv_iload_n hx hb dX6_walk_47 rfl (lv_at hl 3 rfl) ?_
    refine lv_icmp_ge (tgt := 126) hx hb dX6_walk_48 (by decide) (fun c2 => ?_) (fun c2 => ?_)
    · have h := it_x h c2
      have h := Option.some.inj h
      subst h
      exact e_v X hH dX6_walk_126
    · have h := ie_x h c2
      refine lv_iconst (v := (0 : Int32)) hx hb dX6_walk_51 (by decide) ?_
      refine s_i X (lv' := [(5, .int (0 : Int32)), (0, .ref (a i)), (1, .ref (b j)), (2, .int pa), (3, .int pb), (4, .int l4)]) hl rfl dX6_walk_52 (by decide) rfl (fun ls hl => ?_)
      exact pX6_walk_54 X ih FU xs l4 (0 : Int32) H locs ls h hH (lv_sub hl [1, 2, 3, 4, 5, 0] rfl)
set_option maxHeartbeats 4000000 in
set_option maxRecDepth 100000 in
theorem pX6_walk_35 {p : Program} {l : Launch} {e : Env} {s : State} {m : MethodId} {args : Array Value} {below : List Frame} {meth : Method} {c : Code} {g : GG} {w0 : va_W} {a : Nat → Nat} {i : Nat} {b : Nat → Nat} {j : Nat} {xt : SX3} {pa : Int32} {pb : Int32} {o : SX6} (X : mX g yX6_walk cX6_walk 6 none p s m args meth c w0)
  {k11 : SX6 → Int32 → Option SX6} (K11 : ∀ (xs : SX6) (l4 : Int32) (H : Heap) (locs : List Loc) (ls : Array Slot), k11 xs l4 = some o → mH g s w0 ((wX6 g a i xs) ++ (wX3 g b j xt)) H locs → lv_has ls 6 [(0, .ref (a i)), (1, .ref (b j)), (2, .int pa), (3, .int pb), (4, .int l4)] → W p l e (rM 4 88) s m args below meth c H locs 0 0 (mZ g below args s w0 ((wX6 g a i o) ++ (wX3 g b j xt)) none) (F0 m 11 ls [])) :
  ∀ (xs : SX6) (l4 : Int32) (t1 : Int32) (t2 : UInt64) (H : Heap) (locs : List Loc) (ls : Array Slot), qX6_walk_35 xt pa pb k11 xs l4 t1 t2 = some o → mH g s w0 ((wX6 g a i xs) ++ (wX3 g b j xt)) H locs → lv_has ls 6 [(0, .ref (a i)), (1, .ref (b j)), (2, .int pa), (3, .int pb), (4, .int l4)] → W p l e (rM 4 88) s m args below meth c H locs 0 0 (mZ g below args s w0 ((wX6 g a i o) ++ (wX3 g b j xt)) none) (F0 m 35 ls [.double t2, .int t1, .ref (sp_pn xs)]) := by
  have hx := X.1
  have hb := X.2.1
  intro xs l4 t1 t2 H locs ls h hH hl
  unfold qX6_walk_35 at h
  obtain ⟨j2, ej2, hinj2, h⟩ := ga_x h
  obtain ⟨xs4, exs4, h⟩ := ltt_x h
  refine a_ds X hH (ws1 := ((wX6 g a i xs4) ++ (wX3 g b j xt))) 1 rfl hinj2 ej2 (by rw [exs4]; rfl) dX6_walk_35 (fun H locs hH => ?_)
  obtain ⟨v4, ev4, h⟩ := ltt_x h
  refine s_inc X (k := 4) (lv' := [(4, .int v4), (0, .ref (a i)), (1, .ref (b j)), (2, .int pa), (3, .int pb)]) hl rfl (by rw [ev4]; rfl) dX6_walk_36 (by decide) rfl (fun ls hl => ?_)
  refine lv_goto (tgt := 11) hx hb dX6_walk_39 (by decide) ?_
  exact K11 xs4 v4 H locs ls h hH (lv_sub hl [1, 2, 3, 4, 0] rfl)
set_option maxHeartbeats 4000000 in
set_option maxRecDepth 100000 in
theorem pX6_walk_11 {p : Program} {l : Launch} {e : Env} {s : State} {m : MethodId} {args : Array Value} {below : List Frame} {meth : Method} {c : Code} {g : GG} {w0 : va_W} {a : Nat → Nat} {i : Nat} {b : Nat → Nat} {j : Nat} {xt : SX3} {pa : Int32} {pb : Int32} {o : SX6} (X : mX g yX6_walk cX6_walk 6 none p s m args meth c w0) :
  ∀ (fu : Nat) (xs : SX6) (l4 : Int32) (H : Heap) (locs : List Loc) (ls : Array Slot), qX6_walk_11 xt pa pb fu xs l4 = some o → mH g s w0 ((wX6 g a i xs) ++ (wX3 g b j xt)) H locs → lv_has ls 6 [(0, .ref (a i)), (1, .ref (b j)), (2, .int pa), (3, .int pb), (4, .int l4)] → W p l e (rM 4 88) s m args below meth c H locs 0 0 (mZ g below args s w0 ((wX6 g a i o) ++ (wX3 g b j xt)) none) (F0 m 11 ls []) := by
  have hx := X.1
  have hb := X.2.1
  intro fu
  induction fu with
  | zero =>
    intro xs l4 H locs ls h
    unfold qX6_walk_11 at h
    cases h
  | succ fu ih =>
    intro xs l4 H locs ls h hH hl
    unfold qX6_walk_11 at h
    refine lv_iload hx hb dX6_walk_11 (lv_at hl 4 rfl) ?_
    refine lv_bipush (v := (6 : Int32)) hx hb dX6_walk_13 (by decide) ?_
    refine lv_icmp_ge (tgt := 42) hx hb dX6_walk_15 (by decide) (fun c1 => ?_) (fun c1 => ?_)
    · have h := it_x h c1
      refine lv_iconst (v := (0 : Int32)) hx hb dX6_walk_42 (by decide) ?_
      refine s_i X (lv' := [(4, .int (0 : Int32)), (0, .ref (a i)), (1, .ref (b j)), (2, .int pa), (3, .int pb)]) hl rfl dX6_walk_43 (by decide) rfl (fun ls hl => ?_)
      exact pX6_walk_45 X FU xs (0 : Int32) H locs ls h hH (lv_sub hl [1, 2, 3, 4, 0] rfl)
    · have h := ie_x h c1
      refine lv_aload_n hx hb dX6_walk_18 rfl (lv_at hl 0 rfl) ?_
      refine f_get X hH 0 rfl rfl 0 (by decide) inX6 fX6_9 rfl dX6_walk_19 ?_
      refine lv_iload hx hb dX6_walk_22 (lv_at hl 4 rfl) ?_
      refine lv_iload hx hb dX6_walk_24 (lv_at hl 4 rfl) ?_
      refine lv_iload_n hx hb dX6_walk_26 rfl (lv_at hl 2 rfl) ?_
      refine lv_icmp_ne (tgt := 34) hx hb dX6_walk_27 (by decide) (fun c5 => ?_) (fun c5 => ?_)
      · have h := ie_x h c5
        refine lv_dconst0 hx hb dX6_walk_34 ?_
        exact pX6_walk_35 X ih xs l4 l4 (0 : UInt64) H locs ls h hH (lv_sub hl [0, 1, 2, 3, 4] rfl)
      · have h := it_x h c5
        refine lv_dconst1 hx hb dX6_walk_30 ?_
        refine lv_goto (tgt := 35) hx hb dX6_walk_31 (by decide) ?_
        exact pX6_walk_35 X ih xs l4 l4 (4607182418800017408 : UInt64) H locs ls h hH (lv_sub hl [0, 1, 2, 3, 4] rfl)
set_option maxHeartbeats 4000000 in
set_option maxRecDepth 100000 in
theorem uX6_walk {l : Launch} {g : GG} {a : Nat → Nat} {i : Nat} {b : Nat → Nat} {j : Nat} {xs : SX6} {xt : SX3} {pa : Int32} {pb : Int32} {o : SX6} (h : fX6_walk xs xt pa pb = some o) : mC l g yX6_walk cX6_walk 6 none (rM 4 88) [.ref (a i), .ref (b j), .int pa, .int pb] ((wX6 g a i xs) ++ (wX3 g b j xt)) ((wX6 g a i o) ++ (wX3 g b j xt)) none := by
  refine mC.ofW (by decide) (fun p e s m below meth c X hH ls _ hl => ?_) (Nat.le_of_ble_eq_true rfl)
  have hx := X.1
  have hb := X.2.1
  have hl : lv_has ls 6 [(0, .ref (a i)), (1, .ref (b j)), (2, .int pa), (3, .int pb)] := hl
  unfold fX6_walk at h
  suffices HH : ∀ (H : Heap) (locs : List Loc), mH g s ((wX6 g a i xs) ++ (wX3 g b j xt)) ((wX6 g a i xs) ++ (wX3 g b j xt)) H locs → W p l e (rM 4 88) s m _ below meth c H locs 0 0 (mZ g below _ s ((wX6 g a i xs) ++ (wX3 g b j xt)) ((wX6 g a i o) ++ (wX3 g b j xt)) none) (F0 m 0 ls []) from HH _ _ hH
  clear hH
  intro H locs hH
  refine lv_aload_n hx hb dX6_walk_0 rfl (lv_at hl 1 rfl) ?_
  refine lv_aload_n hx hb dX6_walk_1 rfl (lv_at hl 0 rfl) ?_
  refine f_get X hH 0 rfl rfl 2 (by decide) inX6 fX6_18 rfl dX6_walk_2 ?_
  obtain ⟨o1, ho1, h⟩ := bd_x h
  obtain ⟨xs1, exs1, h⟩ := ltt_x h
  refine r_V X hH (ws1 := ((wX6 g a i xs1) ++ (wX3 g b j xt))) (As := [.ref (a (i + 3))]) (rest := []) (st1 := []) (uX3_layWeights (a := b) (i := j) (b := (fun _ => (a (i + 3)))) ho1) kX3_layWeights mX6_22 iX3_layWeights vX3_layWeights zX3 okX3_layWeights ⟨Nat.le_of_ble_eq_true rfl, Nat.le_of_ble_eq_true rfl⟩ rfl rfl (q0 := 4) rfl rfl (pm_2 (pm_s (pm_all _)) (pm_in (pm_0 _ _) bX6_3)) (by rw [exs1]; exact (pm_2 (pm_s (pm_all _)) (pm_in (pm_0 _ _) bX6_3))) rfl hl.1 rfl (Nat.le_of_ble_eq_true rfl) ⟨Nat.le_refl 0, Nat.le_refl 0⟩ rfl dX6_walk_5 (fun H locs hH => ?_)
  refine lv_iconst (v := (0 : Int32)) hx hb dX6_walk_8 (by decide) ?_
  refine s_i X (lv' := [(4, .int (0 : Int32)), (0, .ref (a i)), (1, .ref (b j)), (2, .int pa), (3, .int pb)]) hl rfl dX6_walk_9 (by decide) rfl (fun ls hl => ?_)
  exact pX6_walk_11 X FU xs1 (0 : Int32) H locs ls h hH (lv_sub hl [1, 2, 3, 4, 0] rfl)

def qX7_take_25 (pa : Int32)  (xs : SX7) (l2 : Int32) : Option (Int32 × SX7) :=
  (if l2 = (0 : Int32) then
  ga 120 (te_size xs) fun j1 =>
  ltt ((te_letters_s xs (upd (te_letters xs) j1 pa))) fun xs1 =>
  ltt (((te_size xs1) + (1 : Int32))) fun v1 =>
  ltt ((te_size_s xs1 v1)) fun xs2 =>
  some ((te_size xs2), xs2)
  else
  some (l2, xs))
def fX7_take (xs : SX7) (pa : Int32) : Option (Int32 × SX7) :=
  (fX8_refusalOfNumber pa (0 : Int32) (255 : Int32)).bind fun o1 =>
  (if o1 = (0 : Int32) then
  (if (te_size xs) < (120 : Int32) then
  qX7_take_25 pa xs o1
  else
  qX7_take_25 pa xs (-6 : Int32))
  else
  qX7_take_25 pa xs o1)
set_option maxHeartbeats 4000000 in
set_option maxRecDepth 100000 in
theorem pX7_take_25 {p : Program} {l : Launch} {e : Env} {s : State} {m : MethodId} {args : Array Value} {below : List Frame} {meth : Method} {c : Code} {g : GG} {w0 : va_W} {a : Nat → Nat} {i : Nat} {pa : Int32} {o : (Int32 × SX7)} (X : mX g yX7_take cX7_take 3 (some .int) p s m args meth c w0) :
  ∀ (xs : SX7) (l2 : Int32) (H : Heap) (locs : List Loc) (ls : Array Slot), qX7_take_25 pa xs l2 = some o → mH g s w0 (wX7 g a i xs) H locs → lv_has ls 3 [(0, .ref (a i)), (1, .int pa), (2, .int l2)] → W p l e (rM 1 22) s m args below meth c H locs 0 0 (mZ g below args s w0 (wX7 g a i o.2) (some (.int o.1))) (F0 m 25 ls []) := by
  have hx := X.1
  have hb := X.2.1
  intro xs l2 H locs ls h hH hl
  unfold qX7_take_25 at h
  refine lv_iload_n hx hb dX7_take_25 rfl (lv_at hl 2 rfl) ?_
  refine lv_if_eq (tgt := 31) hx hb dX7_take_26 (by decide) (fun c2 => ?_) (fun c2 => ?_)
  · have h := it_x h c2
    refine lv_aload_n hx hb dX7_take_31 rfl (lv_at hl 0 rfl) ?_
    refine f_get X hH 0 rfl rfl 1 (by decide) inX7 fX7_15 rfl dX7_take_32 ?_
    refine lv_aload_n hx hb dX7_take_35 rfl (lv_at hl 0 rfl) ?_
    refine f_get X hH 0 rfl rfl 0 (by decide) inX7 fX7_9 rfl dX7_take_36 ?_
    refine lv_iload_n hx hb dX7_take_39 rfl (lv_at hl 1 rfl) ?_
    obtain ⟨j1, ej1, hinj1, h⟩ := ga_x h
    obtain ⟨xs1, exs1, h⟩ := ltt_x h
    refine a_is X hH (ws1 := (wX7 g a i xs1)) 1 rfl hinj1 ej1 (by rw [exs1]; rfl) dX7_take_40 (fun H locs hH => ?_)
    refine lv_aload_n hx hb dX7_take_41 rfl (lv_at hl 0 rfl) ?_
    refine lv_dup hx hb dX7_take_42 rfl ?_
    refine f_get X hH 0 rfl rfl 0 (by decide) inX7 fX7_9 rfl dX7_take_43 ?_
    refine lv_iconst (v := (1 : Int32)) hx hb dX7_take_46 (by decide) ?_
    refine lv_iadd hx hb dX7_take_47 ?_
    obtain ⟨v1, ev1, h⟩ := ltt_x h
    refine lv_topi (fun y0 e0 => ?_)
    rw [← ev1] at e0
    subst y0
    obtain ⟨xs2, exs2, h⟩ := ltt_x h
    refine f_put X hH (ws1 := (wX7 g a i xs2)) 0 rfl rfl 0 (by decide) inX7 tyX7 tyX7_ok nmX7 fX7_9 rfl rfl rfl (Nat.le_of_ble_eq_true rfl) (by rw [exs2]; rfl) dX7_take_48 (fun H locs hH => ?_)
    refine lv_aload_n hx hb dX7_take_51 rfl (lv_at hl 0 rfl) ?_
    refine f_get X hH 0 rfl rfl 0 (by decide) inX7 fX7_9 rfl dX7_take_52 ?_
    have h := Option.some.inj h
    subst h
    exact e_i X hH dX7_take_55
  · have h := ie_x h c2
    refine lv_iload_n hx hb dX7_take_29 rfl (lv_at hl 2 rfl) ?_
    have h := Option.some.inj h
    subst h
    exact e_i X hH dX7_take_30
set_option maxHeartbeats 4000000 in
set_option maxRecDepth 100000 in
theorem uX7_take {l : Launch} {g : GG} {a : Nat → Nat} {i : Nat} {xs : SX7} {pa : Int32} {o : (Int32 × SX7)} (h : fX7_take xs pa = some o) : mC l g yX7_take cX7_take 3 (some .int) (rM 1 22) [.ref (a i), .int pa] (wX7 g a i xs) (wX7 g a i o.2) (some (.int o.1)) := by
  refine mC.ofW (by decide) (fun p e s m below meth c X hH ls _ hl => ?_) (Nat.le_of_ble_eq_true rfl)
  have hx := X.1
  have hb := X.2.1
  have hl : lv_has ls 3 [(0, .ref (a i)), (1, .int pa)] := hl
  unfold fX7_take at h
  suffices HH : ∀ (H : Heap) (locs : List Loc), mH g s (wX7 g a i xs) (wX7 g a i xs) H locs → W p l e (rM 1 22) s m _ below meth c H locs 0 0 (mZ g below _ s (wX7 g a i xs) (wX7 g a i o.2) (some (.int o.1))) (F0 m 0 ls []) from HH _ _ hH
  clear hH
  intro H locs hH
  refine lv_iload_n hx hb dX7_take_0 rfl (lv_at hl 1 rfl) ?_
  refine lv_iconst (v := (0 : Int32)) hx hb dX7_take_1 (by decide) ?_
  refine lv_sipush (v := (255 : Int32)) hx hb dX7_take_2 (by decide) ?_
  obtain ⟨o1, ho1, h⟩ := bd_x h
  refine r_SN X hH (ws1 := (wX7 g a i xs)) (As := [.int pa, .int (0 : Int32), .int (255 : Int32)]) (rest := []) (st1 := [.int o1]) (uX8_refusalOfNumber  ho1) kX8_refusalOfNumber nnX7_19 sX8_refusalOfNumber zX8 okX8_refusalOfNumber ⟨Nat.le_of_ble_eq_true rfl, Nat.le_of_ble_eq_true rfl⟩ rfl rfl (pm_none _) (pm_none _) rfl hl.1 rfl (Nat.le_of_ble_eq_true rfl) ⟨Nat.le_refl 0, Nat.le_refl 0⟩ rfl dX7_take_5 (fun H locs hH => ?_)
  refine s_in X (lv' := [(2, .int o1), (0, .ref (a i)), (1, .int pa)]) hl rfl dX7_take_8 rfl (by decide) rfl (fun ls hl => ?_)
  refine lv_iload_n hx hb dX7_take_9 rfl (lv_at hl 0 rfl) ?_
  refine lv_if_ne (tgt := 25) hx hb dX7_take_10 (by decide) (fun c1 => ?_) (fun c1 => ?_)
  · have h := ie_x h c1
    exact pX7_take_25 X  xs o1 H locs ls h hH (lv_sub hl [1, 2, 0] rfl)
  · have h := it_x h c1
    refine lv_aload_n hx hb dX7_take_13 rfl (lv_at hl 1 rfl) ?_
    refine f_get X hH 0 rfl rfl 0 (by decide) inX7 fX7_9 rfl dX7_take_14 ?_
    refine lv_bipush (v := (120 : Int32)) hx hb dX7_take_17 (by decide) ?_
    refine lv_icmp_lt (tgt := 25) hx hb dX7_take_19 (by decide) (fun c3 => ?_) (fun c3 => ?_)
    · have h := it_x h c3
      exact pX7_take_25 X  xs o1 H locs ls h hH (lv_sub hl [1, 2, 0] rfl)
    · have h := ie_x h c3
      refine lv_bipush (v := (-6 : Int32)) hx hb dX7_take_22 (by decide) ?_
      refine s_in X (lv' := [(2, .int (-6 : Int32)), (0, .ref (a i)), (1, .int pa)]) hl rfl dX7_take_24 rfl (by decide) rfl (fun ls hl => ?_)
      exact pX7_take_25 X  xs (-6 : Int32) H locs ls h hH (lv_sub hl [1, 2, 0] rfl)

def fX7_textOf (pa : Int32) : Option Nat :=
  (if pa = (0 : Int32) then
  some 0
  else
  (if pa = (1 : Int32) then
  some 1
  else
  (if pa = (2 : Int32) then
  some 2
  else
  (if pa = (3 : Int32) then
  some 3
  else
  (if pa = (4 : Int32) then
  some 4
  else
  some 5)))))
set_option maxHeartbeats 4000000 in
set_option maxRecDepth 100000 in
theorem uX7_textOf {l : Launch} {g : GG}  {pa : Int32} {o : Nat} (h : fX7_textOf pa = some o) : mC l g yX7_textOf cX7_textOf 1 (some (.object "java/lang/String")) (rM 0 0) [.int pa] [] [] (some (.ref (g.2.2.1 (1 + o)))) := by
  refine mC.ofW (by decide) (fun p e s m below meth c X hH ls _ hl => ?_) (Nat.le_of_ble_eq_true rfl)
  have hx := X.1
  have hb := X.2.1
  have hl : lv_has ls 1 [(0, .int pa)] := hl
  unfold fX7_textOf at h
  suffices HH : ∀ (H : Heap) (locs : List Loc), mH g s [] [] H locs → W p l e (rM 0 0) s m _ below meth c H locs 0 0 (mZ g below _ s [] [] (some (.ref (g.2.2.1 (1 + o))))) (F0 m 0 ls []) from HH _ _ hH
  clear hH
  intro H locs hH
  refine lv_iload_n hx hb dX7_textOf_0 rfl (lv_at hl 0 rfl) ?_
  rcases Classical.em (pa = (0 : Int32)) with c1 | c1
  · have h := it_x h c1
    refine lv_tableIn (tgt := 36) hx hb dX7_textOf_1 (by rw [c1]; decide) (by rw [c1]; decide) (off := 35) (by rw [c1]; decide) (by decide) ?_
    refine va_ldcS hx hb X.2.2.2.2.1 (X.2.2.2.2.2.2.2.1.2.2.2.2.2.2.1 0 (by decide)) dX7_textOf_36 ?_
    have h := Option.some.inj h
    subst h
    exact e_s X hH dX7_textOf_38
  · have h := ie_x h c1
    rcases Classical.em (pa = (1 : Int32)) with c2 | c2
    · have h := it_x h c2
      refine lv_tableIn (tgt := 39) hx hb dX7_textOf_1 (by rw [c2]; decide) (by rw [c2]; decide) (off := 38) (by rw [c2]; decide) (by decide) ?_
      refine va_ldcS hx hb X.2.2.2.2.1 (X.2.2.2.2.2.2.2.1.2.2.2.2.2.2.1 1 (by decide)) dX7_textOf_39 ?_
      have h := Option.some.inj h
      subst h
      exact e_s X hH dX7_textOf_41
    · have h := ie_x h c2
      rcases Classical.em (pa = (2 : Int32)) with c3 | c3
      · have h := it_x h c3
        refine lv_tableIn (tgt := 42) hx hb dX7_textOf_1 (by rw [c3]; decide) (by rw [c3]; decide) (off := 41) (by rw [c3]; decide) (by decide) ?_
        refine va_ldcS hx hb X.2.2.2.2.1 (X.2.2.2.2.2.2.2.1.2.2.2.2.2.2.1 2 (by decide)) dX7_textOf_42 ?_
        have h := Option.some.inj h
        subst h
        exact e_s X hH dX7_textOf_44
      · have h := ie_x h c3
        rcases Classical.em (pa = (3 : Int32)) with c4 | c4
        · have h := it_x h c4
          refine lv_tableIn (tgt := 45) hx hb dX7_textOf_1 (by rw [c4]; decide) (by rw [c4]; decide) (off := 44) (by rw [c4]; decide) (by decide) ?_
          refine va_ldcS hx hb X.2.2.2.2.1 (X.2.2.2.2.2.2.2.1.2.2.2.2.2.2.1 3 (by decide)) dX7_textOf_45 ?_
          have h := Option.some.inj h
          subst h
          exact e_s X hH dX7_textOf_47
        · have h := ie_x h c4
          rcases Classical.em (pa = (4 : Int32)) with c5 | c5
          · have h := it_x h c5
            refine lv_tableIn (tgt := 48) hx hb dX7_textOf_1 (by rw [c5]; decide) (by rw [c5]; decide) (off := 47) (by rw [c5]; decide) (by decide) ?_
            refine va_ldcS hx hb X.2.2.2.2.1 (X.2.2.2.2.2.2.2.1.2.2.2.2.2.2.1 4 (by decide)) dX7_textOf_48 ?_
            have h := Option.some.inj h
            subst h
            exact e_s X hH dX7_textOf_50
          · have h := ie_x h c5
            refine lv_tableOut (tgt := 51) hx hb dX7_textOf_1 (tsw_0_4 (c1) (c2) (c3) (c4) (c5)) (by decide) ?_
            refine va_ldcS hx hb X.2.2.2.2.1 (X.2.2.2.2.2.2.2.1.2.2.2.2.2.2.1 5 (by decide)) dX7_textOf_51 ?_
            have h := Option.some.inj h
            subst h
            exact e_s X hH dX7_textOf_53

def fX7_letterAt (xs : SX7) (pa : Int32) : Option Int32 :=
  (if pa < (0 : Int32) then
  some (-1 : Int32)
  else
  (if (te_size xs) ≤ pa then
  some (-1 : Int32)
  else
  ga 120 pa fun j1 =>
  some ((te_letters xs) j1)))
set_option maxHeartbeats 4000000 in
set_option maxRecDepth 100000 in
theorem uX7_letterAt {l : Launch} {g : GG} {a : Nat → Nat} {i : Nat} {xs : SX7} {pa : Int32} {o : Int32} (h : fX7_letterAt xs pa = some o) : mC l g yX7_letterAt cX7_letterAt 2 (some .int) (rM 0 0) [.ref (a i), .int pa] (wX7 g a i xs) (wX7 g a i xs) (some (.int o)) := by
  refine mC.ofW (by decide) (fun p e s m below meth c X hH ls _ hl => ?_) (Nat.le_of_ble_eq_true rfl)
  have hx := X.1
  have hb := X.2.1
  have hl : lv_has ls 2 [(0, .ref (a i)), (1, .int pa)] := hl
  unfold fX7_letterAt at h
  suffices HH : ∀ (H : Heap) (locs : List Loc), mH g s (wX7 g a i xs) (wX7 g a i xs) H locs → W p l e (rM 0 0) s m _ below meth c H locs 0 0 (mZ g below _ s (wX7 g a i xs) (wX7 g a i xs) (some (.int o))) (F0 m 0 ls []) from HH _ _ hH
  clear hH
  intro H locs hH
  refine lv_iload_n hx hb dX7_letterAt_0 rfl (lv_at hl 1 rfl) ?_
  refine lv_if_lt (tgt := 21) hx hb dX7_letterAt_1 (by decide) (fun c1 => ?_) (fun c1 => ?_)
  · have h := it_x h c1
    refine lv_iconst (v := (-1 : Int32)) hx hb dX7_letterAt_21 (by decide) ?_
    have h := Option.some.inj h
    subst h
    exact e_i X hH dX7_letterAt_22
  · have h := ie_x h c1
    refine lv_iload_n hx hb dX7_letterAt_4 rfl (lv_at hl 1 rfl) ?_
    refine lv_aload_n hx hb dX7_letterAt_5 rfl (lv_at hl 0 rfl) ?_
    refine f_get X hH 0 rfl rfl 0 (by decide) inX7 fX7_9 rfl dX7_letterAt_6 ?_
    refine lv_icmp_ge (tgt := 21) hx hb dX7_letterAt_9 (by decide) (fun c2 => ?_) (fun c2 => ?_)
    · have h := it_x h c2
      refine lv_iconst (v := (-1 : Int32)) hx hb dX7_letterAt_21 (by decide) ?_
      have h := Option.some.inj h
      subst h
      exact e_i X hH dX7_letterAt_22
    · have h := ie_x h c2
      refine lv_aload_n hx hb dX7_letterAt_12 rfl (lv_at hl 0 rfl) ?_
      refine f_get X hH 0 rfl rfl 1 (by decide) inX7 fX7_15 rfl dX7_letterAt_13 ?_
      refine lv_iload_n hx hb dX7_letterAt_16 rfl (lv_at hl 1 rfl) ?_
      obtain ⟨j1, ej1, hinj1, h⟩ := ga_x h
      refine a_il X hH 1 rfl hinj1 ej1 dX7_letterAt_17 ?_
      refine lv_goto (tgt := 22) hx hb dX7_letterAt_18 (by decide) ?_
      have h := Option.some.inj h
      subst h
      exact e_i X hH dX7_letterAt_22

def qX7_beginning_2 (xs : SX7) (pa : Nat) (pb : Int32)  : Nat → Int32 → Option Int32
  | 0, _ => none
  | fu + 1, l3 =>
  (fJ0_length_8abf5 pa).bind fun o1 =>
  gk pa <|
  (if o1 ≤ l3 then
  some l3
  else
  (fX7_letterAt xs (pb + l3)).bind fun o2 =>
  (fJ0_charAt_5068e pa l3).bind fun o3 =>
  gk pa <|
  (if o2 = o3 then
  ltt (l3 + (1 : Int32)) fun v1 =>
  qX7_beginning_2 xs pa pb  fu v1
  else
  some l3))
def fX7_beginning (xs : SX7) (pa : Nat) (pb : Int32) : Option Int32 :=
  qX7_beginning_2 xs pa pb FU (0 : Int32)
set_option maxHeartbeats 4000000 in
set_option maxRecDepth 100000 in
theorem pX7_beginning_2 {p : Program} {l : Launch} {e : Env} {s : State} {m : MethodId} {args : Array Value} {below : List Frame} {meth : Method} {c : Code} {g : GG} {w0 : va_W} {a : Nat → Nat} {i : Nat} {xs : SX7} {pa : Nat} {pb : Int32} {o : Int32} (X : mX g yX7_beginning cX7_beginning 4 (some .int) p s m args meth c w0) :
  ∀ (fu : Nat) (l3 : Int32) (H : Heap) (locs : List Loc) (ls : Array Slot), qX7_beginning_2 xs pa pb fu l3 = some o → mH g s w0 (wX7 g a i xs) H locs → lv_has ls 4 [(0, .ref (a i)), (1, .ref (g.2.2.1 (1 + pa))), (2, .int pb), (3, .int l3)] → W p l e (rM 4 85) s m args below meth c H locs 0 0 (mZ g below args s w0 (wX7 g a i xs) (some (.int o))) (F0 m 2 ls []) := by
  have hx := X.1
  have hb := X.2.1
  intro fu
  induction fu with
  | zero =>
    intro l3 H locs ls h
    unfold qX7_beginning_2 at h
    cases h
  | succ fu ih =>
    intro l3 H locs ls h hH hl
    unfold qX7_beginning_2 at h
    refine lv_iload_n hx hb dX7_beginning_2 rfl (lv_at hl 3 rfl) ?_
    refine lv_aload_n hx hb dX7_beginning_3 rfl (lv_at hl 1 rfl) ?_
    obtain ⟨o1, ho1, h⟩ := bd_x h
    obtain ⟨hk1, h⟩ := gk_x h
    refine r_VS X hH (ws1 := (wX7 g a i xs)) (As := []) (rest := [.int l3]) (st1 := [.int o1, .int l3]) hk1 (uJ0_length_8abf5  ho1) kJ0_length_8abf5 mX7_42 iJ0_length_8abf5 vJ0_length_8abf5 zJ0 okJ0_length_8abf5 ⟨Nat.le_of_ble_eq_true rfl, Nat.le_of_ble_eq_true rfl⟩ rfl rfl (pm_none _) (pm_none _) rfl hl.1 rfl (Nat.le_of_ble_eq_true rfl) ⟨Nat.le_refl 0, Nat.le_refl 0⟩ rfl dX7_beginning_4 (fun H locs hH => ?_)
    refine lv_icmp_ge (tgt := 31) hx hb dX7_beginning_7 (by decide) (fun c1 => ?_) (fun c1 => ?_)
    · have h := it_x h c1
      refine lv_iload_n hx hb dX7_beginning_31 rfl (lv_at hl 3 rfl) ?_
      have h := Option.some.inj h
      subst h
      exact e_i X hH dX7_beginning_32
    · have h := ie_x h c1
      refine lv_aload_n hx hb dX7_beginning_10 rfl (lv_at hl 0 rfl) ?_
      refine lv_iload_n hx hb dX7_beginning_11 rfl (lv_at hl 2 rfl) ?_
      refine lv_iload_n hx hb dX7_beginning_12 rfl (lv_at hl 3 rfl) ?_
      refine lv_iadd hx hb dX7_beginning_13 ?_
      obtain ⟨o2, ho2, h⟩ := bd_x h
      refine r_V X hH (ws1 := (wX7 g a i xs)) (As := [.int (pb + l3)]) (rest := []) (st1 := [.int o2]) (uX7_letterAt (a := a) (i := i) ho2) kX7_letterAt mX7_57 iX7_letterAt vX7_letterAt zX7 okX7_letterAt ⟨Nat.le_of_ble_eq_true rfl, Nat.le_of_ble_eq_true rfl⟩ rfl rfl (q0 := 0) rfl rfl (pm_all _) (pm_all _) rfl hl.1 rfl (Nat.le_of_ble_eq_true rfl) ⟨Nat.le_refl 0, Nat.le_refl 0⟩ rfl dX7_beginning_14 (fun H locs hH => ?_)
      refine lv_aload_n hx hb dX7_beginning_17 rfl (lv_at hl 1 rfl) ?_
      refine lv_iload_n hx hb dX7_beginning_18 rfl (lv_at hl 3 rfl) ?_
      obtain ⟨o3, ho3, h⟩ := bd_x h
      obtain ⟨hk2, h⟩ := gk_x h
      refine r_VS X hH (ws1 := (wX7 g a i xs)) (As := [.int l3]) (rest := [.int o2]) (st1 := [.int o3, .int o2]) hk2 (uJ0_charAt_5068e  ho3) kJ0_charAt_5068e mX7_97 iJ0_charAt_5068e vJ0_charAt_5068e zJ0 okJ0_charAt_5068e ⟨Nat.le_of_ble_eq_true rfl, Nat.le_of_ble_eq_true rfl⟩ rfl rfl (pm_none _) (pm_none _) rfl hl.1 rfl (Nat.le_of_ble_eq_true rfl) ⟨Nat.le_refl 0, Nat.le_refl 0⟩ rfl dX7_beginning_19 (fun H locs hH => ?_)
      refine lv_icmp_ne (tgt := 31) hx hb dX7_beginning_22 (by decide) (fun c2 => ?_) (fun c2 => ?_)
      · have h := ie_x h c2
        refine lv_iload_n hx hb dX7_beginning_31 rfl (lv_at hl 3 rfl) ?_
        have h := Option.some.inj h
        subst h
        exact e_i X hH dX7_beginning_32
      · have h := it_x h c2
        obtain ⟨v1, ev1, h⟩ := ltt_x h
        refine s_inc X (k := 3) (lv' := [(3, .int v1), (0, .ref (a i)), (1, .ref (g.2.2.1 (1 + pa))), (2, .int pb)]) hl rfl (by rw [ev1]; rfl) dX7_beginning_25 (by decide) rfl (fun ls hl => ?_)
        refine lv_goto (tgt := 2) hx hb dX7_beginning_28 (by decide) ?_
        exact ih v1 H locs ls h hH (lv_sub hl [1, 2, 3, 0] rfl)
set_option maxHeartbeats 4000000 in
set_option maxRecDepth 100000 in
theorem uX7_beginning {l : Launch} {g : GG} {a : Nat → Nat} {i : Nat} {xs : SX7} {pa : Nat} {pb : Int32} {o : Int32} (h : fX7_beginning xs pa pb = some o) : mC l g yX7_beginning cX7_beginning 4 (some .int) (rM 4 85) [.ref (a i), .ref (g.2.2.1 (1 + pa)), .int pb] (wX7 g a i xs) (wX7 g a i xs) (some (.int o)) := by
  refine mC.ofW (by decide) (fun p e s m below meth c X hH ls _ hl => ?_) (Nat.le_of_ble_eq_true rfl)
  have hx := X.1
  have hb := X.2.1
  have hl : lv_has ls 4 [(0, .ref (a i)), (1, .ref (g.2.2.1 (1 + pa))), (2, .int pb)] := hl
  unfold fX7_beginning at h
  suffices HH : ∀ (H : Heap) (locs : List Loc), mH g s (wX7 g a i xs) (wX7 g a i xs) H locs → W p l e (rM 4 85) s m _ below meth c H locs 0 0 (mZ g below _ s (wX7 g a i xs) (wX7 g a i xs) (some (.int o))) (F0 m 0 ls []) from HH _ _ hH
  clear hH
  intro H locs hH
  refine lv_iconst (v := (0 : Int32)) hx hb dX7_beginning_0 (by decide) ?_
  refine s_in X (lv' := [(3, .int (0 : Int32)), (0, .ref (a i)), (1, .ref (g.2.2.1 (1 + pa))), (2, .int pb)]) hl rfl dX7_beginning_1 rfl (by decide) rfl (fun ls hl => ?_)
  exact pX7_beginning_2 X FU (0 : Int32) H locs ls h hH (lv_sub hl [1, 2, 3, 0] rfl)

def qX7_wordAt_2 (xs : SX7) (pa : Int32)  : Nat → Int32 → Option Int32
  | 0, _ => none
  | fu + 1, l2 =>
  (if (6 : Int32) ≤ l2 then
  some (-1 : Int32)
  else
  (fX7_textOf l2).bind fun o1 =>
  (fX7_beginning xs o1 pa).bind fun o2 =>
  (fJ0_length_8abf5 o1).bind fun o3 =>
  gk o1 <|
  (if o2 = o3 then
  some l2
  else
  ltt (l2 + (1 : Int32)) fun v1 =>
  qX7_wordAt_2 xs pa  fu v1))
def fX7_wordAt (xs : SX7) (pa : Int32) : Option Int32 :=
  qX7_wordAt_2 xs pa FU (0 : Int32)
set_option maxHeartbeats 4000000 in
set_option maxRecDepth 100000 in
theorem pX7_wordAt_2 {p : Program} {l : Launch} {e : Env} {s : State} {m : MethodId} {args : Array Value} {below : List Frame} {meth : Method} {c : Code} {g : GG} {w0 : va_W} {a : Nat → Nat} {i : Nat} {xs : SX7} {pa : Int32} {o : Int32} (X : mX g yX7_wordAt cX7_wordAt 4 (some .int) p s m args meth c w0) :
  ∀ (fu : Nat) (l2 : Int32) (H : Heap) (locs : List Loc) (ls : Array Slot), qX7_wordAt_2 xs pa fu l2 = some o → mH g s w0 (wX7 g a i xs) H locs → lv_has ls 4 [(0, .ref (a i)), (1, .int pa), (2, .int l2)] → W p l e (rM 5 108) s m args below meth c H locs 0 0 (mZ g below args s w0 (wX7 g a i xs) (some (.int o))) (F0 m 2 ls []) := by
  have hx := X.1
  have hb := X.2.1
  intro fu
  induction fu with
  | zero =>
    intro l2 H locs ls h
    unfold qX7_wordAt_2 at h
    cases h
  | succ fu ih =>
    intro l2 H locs ls h hH hl
    unfold qX7_wordAt_2 at h
    refine lv_iload_n hx hb dX7_wordAt_2 rfl (lv_at hl 2 rfl) ?_
    refine lv_bipush (v := (6 : Int32)) hx hb dX7_wordAt_3 (by decide) ?_
    refine lv_icmp_ge (tgt := 34) hx hb dX7_wordAt_5 (by decide) (fun c1 => ?_) (fun c1 => ?_)
    · have h := it_x h c1
      refine lv_iconst (v := (-1 : Int32)) hx hb dX7_wordAt_34 (by decide) ?_
      have h := Option.some.inj h
      subst h
      exact e_i X hH dX7_wordAt_35
    · have h := ie_x h c1
      refine lv_iload_n hx hb dX7_wordAt_8 rfl (lv_at hl 2 rfl) ?_
      obtain ⟨o1, ho1, h⟩ := bd_x h
      refine r_S X hH (ws1 := (wX7 g a i xs)) (As := [.int l2]) (rest := []) (st1 := [.ref (g.2.2.1 (1 + o1))]) (uX7_textOf  ho1) kX7_textOf mX7_38 sX7_textOf zX7 okX7_textOf ⟨Nat.le_of_ble_eq_true rfl, Nat.le_of_ble_eq_true rfl⟩ rfl rfl (pm_none _) (pm_none _) rfl hl.1 rfl (Nat.le_of_ble_eq_true rfl) ⟨Nat.le_refl 0, Nat.le_refl 0⟩ rfl dX7_wordAt_9 (fun H locs hH => ?_)
      refine lv_astore_n (lv' := [(3, .ref (g.2.2.1 (1 + o1))), (0, .ref (a i)), (1, .int pa), (2, .int l2)]) hx hb dX7_wordAt_12 rfl hl (by decide) rfl (fun ls hl => ?_)
      refine lv_aload_n hx hb dX7_wordAt_13 rfl (lv_at hl 1 rfl) ?_
      refine lv_aload_n hx hb dX7_wordAt_14 rfl (lv_at hl 0 rfl) ?_
      refine lv_iload_n hx hb dX7_wordAt_15 rfl (lv_at hl 2 rfl) ?_
      obtain ⟨o2, ho2, h⟩ := bd_x h
      refine r_V X hH (ws1 := (wX7 g a i xs)) (As := [.ref (g.2.2.1 (1 + o1)), .int pa]) (rest := []) (st1 := [.int o2]) (uX7_beginning (a := a) (i := i) ho2) kX7_beginning mX7_88 iX7_beginning vX7_beginning zX7 okX7_beginning ⟨Nat.le_of_ble_eq_true rfl, Nat.le_of_ble_eq_true rfl⟩ rfl rfl (q0 := 0) rfl rfl (pm_all _) (pm_all _) rfl hl.1 rfl (Nat.le_of_ble_eq_true rfl) ⟨Nat.le_refl 0, Nat.le_refl 0⟩ rfl dX7_wordAt_16 (fun H locs hH => ?_)
      refine lv_aload_n hx hb dX7_wordAt_19 rfl (lv_at hl 0 rfl) ?_
      obtain ⟨o3, ho3, h⟩ := bd_x h
      obtain ⟨hk1, h⟩ := gk_x h
      refine r_VS X hH (ws1 := (wX7 g a i xs)) (As := []) (rest := [.int o2]) (st1 := [.int o3, .int o2]) hk1 (uJ0_length_8abf5  ho3) kJ0_length_8abf5 mX7_42 iJ0_length_8abf5 vJ0_length_8abf5 zJ0 okJ0_length_8abf5 ⟨Nat.le_of_ble_eq_true rfl, Nat.le_of_ble_eq_true rfl⟩ rfl rfl (pm_none _) (pm_none _) rfl hl.1 rfl (Nat.le_of_ble_eq_true rfl) ⟨Nat.le_refl 0, Nat.le_refl 0⟩ rfl dX7_wordAt_20 (fun H locs hH => ?_)
      refine lv_icmp_ne (tgt := 28) hx hb dX7_wordAt_23 (by decide) (fun c2 => ?_) (fun c2 => ?_)
      · have h := ie_x h c2
        obtain ⟨v1, ev1, h⟩ := ltt_x h
        refine s_inc X (k := 3) (lv' := [(2, .int v1), (3, .ref (g.2.2.1 (1 + o1))), (0, .ref (a i)), (1, .int pa)]) hl rfl (by rw [ev1]; rfl) dX7_wordAt_28 (by decide) rfl (fun ls hl => ?_)
        refine lv_goto (tgt := 2) hx hb dX7_wordAt_31 (by decide) ?_
        exact ih v1 H locs ls h hH (lv_sub hl [2, 3, 0] rfl)
      · have h := it_x h c2
        refine lv_iload_n hx hb dX7_wordAt_26 rfl (lv_at hl 3 rfl) ?_
        have h := Option.some.inj h
        subst h
        exact e_i X hH dX7_wordAt_27
set_option maxHeartbeats 4000000 in
set_option maxRecDepth 100000 in
theorem uX7_wordAt {l : Launch} {g : GG} {a : Nat → Nat} {i : Nat} {xs : SX7} {pa : Int32} {o : Int32} (h : fX7_wordAt xs pa = some o) : mC l g yX7_wordAt cX7_wordAt 4 (some .int) (rM 5 108) [.ref (a i), .int pa] (wX7 g a i xs) (wX7 g a i xs) (some (.int o)) := by
  refine mC.ofW (by decide) (fun p e s m below meth c X hH ls _ hl => ?_) (Nat.le_of_ble_eq_true rfl)
  have hx := X.1
  have hb := X.2.1
  have hl : lv_has ls 4 [(0, .ref (a i)), (1, .int pa)] := hl
  unfold fX7_wordAt at h
  suffices HH : ∀ (H : Heap) (locs : List Loc), mH g s (wX7 g a i xs) (wX7 g a i xs) H locs → W p l e (rM 5 108) s m _ below meth c H locs 0 0 (mZ g below _ s (wX7 g a i xs) (wX7 g a i xs) (some (.int o))) (F0 m 0 ls []) from HH _ _ hH
  clear hH
  intro H locs hH
  refine lv_iconst (v := (0 : Int32)) hx hb dX7_wordAt_0 (by decide) ?_
  refine s_in X (lv' := [(2, .int (0 : Int32)), (0, .ref (a i)), (1, .int pa)]) hl rfl dX7_wordAt_1 rfl (by decide) rfl (fun ls hl => ?_)
  exact pX7_wordAt_2 X FU (0 : Int32) H locs ls h hH (lv_sub hl [1, 2, 0] rfl)

def fX7_numbersOf (pa : Int32) : Option Int32 :=
  (if pa = (0 : Int32) then
  some (4 : Int32)
  else
  (if pa = (1 : Int32) then
  some (3 : Int32)
  else
  (if pa = (2 : Int32) then
  some (2 : Int32)
  else
  (if pa = (3 : Int32) then
  some (2 : Int32)
  else
  some (1 : Int32)))))
set_option maxHeartbeats 4000000 in
set_option maxRecDepth 100000 in
theorem uX7_numbersOf {l : Launch} {g : GG}  {pa : Int32} {o : Int32} (h : fX7_numbersOf pa = some o) : mC l g yX7_numbersOf cX7_numbersOf 1 (some .int) (rM 0 0) [.int pa] [] [] (some (.int o)) := by
  refine mC.ofW (by decide) (fun p e s m below meth c X hH ls _ hl => ?_) (Nat.le_of_ble_eq_true rfl)
  have hx := X.1
  have hb := X.2.1
  have hl : lv_has ls 1 [(0, .int pa)] := hl
  unfold fX7_numbersOf at h
  suffices HH : ∀ (H : Heap) (locs : List Loc), mH g s [] [] H locs → W p l e (rM 0 0) s m _ below meth c H locs 0 0 (mZ g below _ s [] [] (some (.int o))) (F0 m 0 ls []) from HH _ _ hH
  clear hH
  intro H locs hH
  refine lv_iload_n hx hb dX7_numbersOf_0 rfl (lv_at hl 0 rfl) ?_
  rcases Classical.em (pa = (0 : Int32)) with c1 | c1
  · have h := it_x h c1
    refine lv_tableIn (tgt := 32) hx hb dX7_numbersOf_1 (by rw [c1]; decide) (by rw [c1]; decide) (off := 31) (by rw [c1]; decide) (by decide) ?_
    refine lv_iconst (v := (4 : Int32)) hx hb dX7_numbersOf_32 (by decide) ?_
    have h := Option.some.inj h
    subst h
    exact e_i X hH dX7_numbersOf_33
  · have h := ie_x h c1
    rcases Classical.em (pa = (1 : Int32)) with c2 | c2
    · have h := it_x h c2
      refine lv_tableIn (tgt := 34) hx hb dX7_numbersOf_1 (by rw [c2]; decide) (by rw [c2]; decide) (off := 33) (by rw [c2]; decide) (by decide) ?_
      refine lv_iconst (v := (3 : Int32)) hx hb dX7_numbersOf_34 (by decide) ?_
      have h := Option.some.inj h
      subst h
      exact e_i X hH dX7_numbersOf_35
    · have h := ie_x h c2
      rcases Classical.em (pa = (2 : Int32)) with c3 | c3
      · have h := it_x h c3
        refine lv_tableIn (tgt := 36) hx hb dX7_numbersOf_1 (by rw [c3]; decide) (by rw [c3]; decide) (off := 35) (by rw [c3]; decide) (by decide) ?_
        refine lv_iconst (v := (2 : Int32)) hx hb dX7_numbersOf_36 (by decide) ?_
        have h := Option.some.inj h
        subst h
        exact e_i X hH dX7_numbersOf_37
      · have h := ie_x h c3
        rcases Classical.em (pa = (3 : Int32)) with c4 | c4
        · have h := it_x h c4
          refine lv_tableIn (tgt := 36) hx hb dX7_numbersOf_1 (by rw [c4]; decide) (by rw [c4]; decide) (off := 35) (by rw [c4]; decide) (by decide) ?_
          refine lv_iconst (v := (2 : Int32)) hx hb dX7_numbersOf_36 (by decide) ?_
          have h := Option.some.inj h
          subst h
          exact e_i X hH dX7_numbersOf_37
        · have h := ie_x h c4
          refine lv_tableOut (tgt := 38) hx hb dX7_numbersOf_1 (tsw_0_3 (c1) (c2) (c3) (c4)) (by decide) ?_
          refine lv_iconst (v := (1 : Int32)) hx hb dX7_numbersOf_38 (by decide) ?_
          have h := Option.some.inj h
          subst h
          exact e_i X hH dX7_numbersOf_39

def qX7_faultOfNumbers_5 (xs : SX7) (pa : Int32) (pb : Int32)  : Nat → Int32 → Int32 → Option Int32
  | 0, _, _ => none
  | fu + 1, l3, l4 =>
  (if pb ≤ l4 then
  (fX7_letterAt xs l3).bind fun o1 =>
  (if o1 = (59 : Int32) then
  some (-1 : Int32)
  else
  some l3)
  else
  (fX7_letterAt xs l3).bind fun o2 =>
  (if o2 = (32 : Int32) then
  (fX7_letterAt xs (l3 + (1 : Int32))).bind fun o3 =>
  (if o3 < (48 : Int32) then
  some (l3 + (1 : Int32))
  else
  (if o3 ≤ (57 : Int32) then
  ltt (l3 + (2 : Int32)) fun v1 =>
  ltt (l4 + (1 : Int32)) fun v2 =>
  qX7_faultOfNumbers_5 xs pa pb  fu v1 v2
  else
  some (l3 + (1 : Int32))))
  else
  some l3))
def fX7_faultOfNumbers (xs : SX7) (pa : Int32) (pb : Int32) : Option Int32 :=
  qX7_faultOfNumbers_5 xs pa pb FU pa (0 : Int32)
set_option maxHeartbeats 4000000 in
set_option maxRecDepth 100000 in
theorem pX7_faultOfNumbers_5 {p : Program} {l : Launch} {e : Env} {s : State} {m : MethodId} {args : Array Value} {below : List Frame} {meth : Method} {c : Code} {g : GG} {w0 : va_W} {a : Nat → Nat} {i : Nat} {xs : SX7} {pa : Int32} {pb : Int32} {o : Int32} (X : mX g yX7_faultOfNumbers cX7_faultOfNumbers 6 (some .int) p s m args meth c w0) :
  ∀ (fu : Nat) (l3 : Int32) (l4 : Int32) (H : Heap) (locs : List Loc) (ls : Array Slot), qX7_faultOfNumbers_5 xs pa pb fu l3 l4 = some o → mH g s w0 (wX7 g a i xs) H locs → lv_has ls 6 [(0, .ref (a i)), (1, .int pa), (2, .int pb), (3, .int l3), (4, .int l4)] → W p l e (rM 1 21) s m args below meth c H locs 0 0 (mZ g below args s w0 (wX7 g a i xs) (some (.int o))) (F0 m 5 ls []) := by
  have hx := X.1
  have hb := X.2.1
  intro fu
  induction fu with
  | zero =>
    intro l3 l4 H locs ls h
    unfold qX7_faultOfNumbers_5 at h
    cases h
  | succ fu ih =>
    intro l3 l4 H locs ls h hH hl
    unfold qX7_faultOfNumbers_5 at h
    refine lv_iload hx hb dX7_faultOfNumbers_5 (lv_at hl 4 rfl) ?_
    refine lv_iload_n hx hb dX7_faultOfNumbers_7 rfl (lv_at hl 2 rfl) ?_
    refine lv_icmp_ge (tgt := 59) hx hb dX7_faultOfNumbers_8 (by decide) (fun c1 => ?_) (fun c1 => ?_)
    · have h := it_x h c1
      refine lv_aload_n hx hb dX7_faultOfNumbers_59 rfl (lv_at hl 0 rfl) ?_
      refine lv_iload_n hx hb dX7_faultOfNumbers_60 rfl (lv_at hl 3 rfl) ?_
      obtain ⟨o1, ho1, h⟩ := bd_x h
      refine r_V X hH (ws1 := (wX7 g a i xs)) (As := [.int l3]) (rest := []) (st1 := [.int o1]) (uX7_letterAt (a := a) (i := i) ho1) kX7_letterAt mX7_57 iX7_letterAt vX7_letterAt zX7 okX7_letterAt ⟨Nat.le_of_ble_eq_true rfl, Nat.le_of_ble_eq_true rfl⟩ rfl rfl (q0 := 0) rfl rfl (pm_all _) (pm_all _) rfl hl.1 rfl (Nat.le_of_ble_eq_true rfl) ⟨Nat.le_refl 0, Nat.le_refl 0⟩ rfl dX7_faultOfNumbers_61 (fun H locs hH => ?_)
      refine lv_bipush (v := (59 : Int32)) hx hb dX7_faultOfNumbers_64 (by decide) ?_
      refine lv_icmp_ne (tgt := 73) hx hb dX7_faultOfNumbers_66 (by decide) (fun c2 => ?_) (fun c2 => ?_)
      · have h := ie_x h c2
        refine lv_iload_n hx hb dX7_faultOfNumbers_73 rfl (lv_at hl 3 rfl) ?_
        have h := Option.some.inj h
        subst h
        exact e_i X hH dX7_faultOfNumbers_74
      · have h := it_x h c2
        refine lv_iconst (v := (-1 : Int32)) hx hb dX7_faultOfNumbers_69 (by decide) ?_
        refine lv_goto (tgt := 74) hx hb dX7_faultOfNumbers_70 (by decide) ?_
        have h := Option.some.inj h
        subst h
        exact e_i X hH dX7_faultOfNumbers_74
    · have h := ie_x h c1
      refine lv_aload_n hx hb dX7_faultOfNumbers_11 rfl (lv_at hl 0 rfl) ?_
      refine lv_iload_n hx hb dX7_faultOfNumbers_12 rfl (lv_at hl 3 rfl) ?_
      obtain ⟨o2, ho2, h⟩ := bd_x h
      refine r_V X hH (ws1 := (wX7 g a i xs)) (As := [.int l3]) (rest := []) (st1 := [.int o2]) (uX7_letterAt (a := a) (i := i) ho2) kX7_letterAt mX7_57 iX7_letterAt vX7_letterAt zX7 okX7_letterAt ⟨Nat.le_of_ble_eq_true rfl, Nat.le_of_ble_eq_true rfl⟩ rfl rfl (q0 := 0) rfl rfl (pm_all _) (pm_all _) rfl hl.1 rfl (Nat.le_of_ble_eq_true rfl) ⟨Nat.le_refl 0, Nat.le_refl 0⟩ rfl dX7_faultOfNumbers_13 (fun H locs hH => ?_)
      refine lv_bipush (v := (32 : Int32)) hx hb dX7_faultOfNumbers_16 (by decide) ?_
      refine lv_icmp_eq (tgt := 23) hx hb dX7_faultOfNumbers_18 (by decide) (fun c3 => ?_) (fun c3 => ?_)
      · have h := it_x h c3
        refine lv_aload_n hx hb dX7_faultOfNumbers_23 rfl (lv_at hl 0 rfl) ?_
        refine lv_iload_n hx hb dX7_faultOfNumbers_24 rfl (lv_at hl 3 rfl) ?_
        refine lv_iconst (v := (1 : Int32)) hx hb dX7_faultOfNumbers_25 (by decide) ?_
        refine lv_iadd hx hb dX7_faultOfNumbers_26 ?_
        obtain ⟨o3, ho3, h⟩ := bd_x h
        refine r_V X hH (ws1 := (wX7 g a i xs)) (As := [.int (l3 + (1 : Int32))]) (rest := []) (st1 := [.int o3]) (uX7_letterAt (a := a) (i := i) ho3) kX7_letterAt mX7_57 iX7_letterAt vX7_letterAt zX7 okX7_letterAt ⟨Nat.le_of_ble_eq_true rfl, Nat.le_of_ble_eq_true rfl⟩ rfl rfl (q0 := 0) rfl rfl (pm_all _) (pm_all _) rfl hl.1 rfl (Nat.le_of_ble_eq_true rfl) ⟨Nat.le_refl 0, Nat.le_refl 0⟩ rfl dX7_faultOfNumbers_27 (fun H locs hH => ?_)
        refine s_i X (lv' := [(5, .int o3), (0, .ref (a i)), (1, .int pa), (2, .int pb), (3, .int l3), (4, .int l4)]) hl rfl dX7_faultOfNumbers_30 (by decide) rfl (fun ls hl => ?_)
        refine lv_iload hx hb dX7_faultOfNumbers_32 (lv_at hl 0 rfl) ?_
        refine lv_bipush (v := (48 : Int32)) hx hb dX7_faultOfNumbers_34 (by decide) ?_
        refine lv_icmp_lt (tgt := 46) hx hb dX7_faultOfNumbers_36 (by decide) (fun c4 => ?_) (fun c4 => ?_)
        · have h := it_x h c4
          refine lv_iload_n hx hb dX7_faultOfNumbers_46 rfl (lv_at hl 4 rfl) ?_
          refine lv_iconst (v := (1 : Int32)) hx hb dX7_faultOfNumbers_47 (by decide) ?_
          refine lv_iadd hx hb dX7_faultOfNumbers_48 ?_
          have h := Option.some.inj h
          subst h
          exact e_i X hH dX7_faultOfNumbers_49
        · have h := ie_x h c4
          refine lv_iload hx hb dX7_faultOfNumbers_39 (lv_at hl 0 rfl) ?_
          refine lv_bipush (v := (57 : Int32)) hx hb dX7_faultOfNumbers_41 (by decide) ?_
          refine lv_icmp_le (tgt := 50) hx hb dX7_faultOfNumbers_43 (by decide) (fun c5 => ?_) (fun c5 => ?_)
          · have h := it_x h c5
            obtain ⟨v1, ev1, h⟩ := ltt_x h
            refine s_inc X (k := 4) (lv' := [(3, .int v1), (5, .int o3), (0, .ref (a i)), (1, .int pa), (2, .int pb), (4, .int l4)]) hl rfl (by rw [ev1]; rfl) dX7_faultOfNumbers_50 (by decide) rfl (fun ls hl => ?_)
            obtain ⟨v2, ev2, h⟩ := ltt_x h
            refine s_inc X (k := 5) (lv' := [(4, .int v2), (3, .int v1), (5, .int o3), (0, .ref (a i)), (1, .int pa), (2, .int pb)]) hl rfl (by rw [ev2]; rfl) dX7_faultOfNumbers_53 (by decide) rfl (fun ls hl => ?_)
            refine lv_goto (tgt := 5) hx hb dX7_faultOfNumbers_56 (by decide) ?_
            exact ih v1 v2 H locs ls h hH (lv_sub hl [3, 4, 5, 1, 0] rfl)
          · have h := ie_x h c5
            refine lv_iload_n hx hb dX7_faultOfNumbers_46 rfl (lv_at hl 4 rfl) ?_
            refine lv_iconst (v := (1 : Int32)) hx hb dX7_faultOfNumbers_47 (by decide) ?_
            refine lv_iadd hx hb dX7_faultOfNumbers_48 ?_
            have h := Option.some.inj h
            subst h
            exact e_i X hH dX7_faultOfNumbers_49
      · have h := ie_x h c3
        refine lv_iload_n hx hb dX7_faultOfNumbers_21 rfl (lv_at hl 3 rfl) ?_
        have h := Option.some.inj h
        subst h
        exact e_i X hH dX7_faultOfNumbers_22
set_option maxHeartbeats 4000000 in
set_option maxRecDepth 100000 in
theorem uX7_faultOfNumbers {l : Launch} {g : GG} {a : Nat → Nat} {i : Nat} {xs : SX7} {pa : Int32} {pb : Int32} {o : Int32} (h : fX7_faultOfNumbers xs pa pb = some o) : mC l g yX7_faultOfNumbers cX7_faultOfNumbers 6 (some .int) (rM 1 21) [.ref (a i), .int pa, .int pb] (wX7 g a i xs) (wX7 g a i xs) (some (.int o)) := by
  refine mC.ofW (by decide) (fun p e s m below meth c X hH ls _ hl => ?_) (Nat.le_of_ble_eq_true rfl)
  have hx := X.1
  have hb := X.2.1
  have hl : lv_has ls 6 [(0, .ref (a i)), (1, .int pa), (2, .int pb)] := hl
  unfold fX7_faultOfNumbers at h
  suffices HH : ∀ (H : Heap) (locs : List Loc), mH g s (wX7 g a i xs) (wX7 g a i xs) H locs → W p l e (rM 1 21) s m _ below meth c H locs 0 0 (mZ g below _ s (wX7 g a i xs) (wX7 g a i xs) (some (.int o))) (F0 m 0 ls []) from HH _ _ hH
  clear hH
  intro H locs hH
  refine lv_iload_n hx hb dX7_faultOfNumbers_0 rfl (lv_at hl 1 rfl) ?_
  refine s_in X (lv' := [(3, .int pa), (0, .ref (a i)), (1, .int pa), (2, .int pb)]) hl rfl dX7_faultOfNumbers_1 rfl (by decide) rfl (fun ls hl => ?_)
  refine lv_iconst (v := (0 : Int32)) hx hb dX7_faultOfNumbers_2 (by decide) ?_
  refine s_i X (lv' := [(4, .int (0 : Int32)), (3, .int pa), (0, .ref (a i)), (1, .int pa), (2, .int pb)]) hl rfl dX7_faultOfNumbers_3 (by decide) rfl (fun ls hl => ?_)
  exact pX7_faultOfNumbers_5 X FU pa (0 : Int32) H locs ls h hH (lv_sub hl [2, 3, 4, 1, 0] rfl)

def fX7_endOf (xs : SX7) (pa : Int32) (pb : Int32) : Option Int32 :=
  (fX7_textOf pb).bind fun o1 =>
  (fJ0_length_8abf5 o1).bind fun o2 =>
  gk o1 <|
  (fX7_numbersOf pb).bind fun o3 =>
  some (((pa + o2) + ((2 : Int32) * o3)) + (1 : Int32))
set_option maxHeartbeats 4000000 in
set_option maxRecDepth 100000 in
theorem uX7_endOf {l : Launch} {g : GG} {a : Nat → Nat} {i : Nat} {xs : SX7} {pa : Int32} {pb : Int32} {o : Int32} (h : fX7_endOf xs pa pb = some o) : mC l g yX7_endOf cX7_endOf 3 (some .int) (rM 2 40) [.ref (a i), .int pa, .int pb] (wX7 g a i xs) (wX7 g a i xs) (some (.int o)) := by
  refine mC.ofW (by decide) (fun p e s m below meth c X hH ls _ hl => ?_) (Nat.le_of_ble_eq_true rfl)
  have hx := X.1
  have hb := X.2.1
  have hl : lv_has ls 3 [(0, .ref (a i)), (1, .int pa), (2, .int pb)] := hl
  unfold fX7_endOf at h
  suffices HH : ∀ (H : Heap) (locs : List Loc), mH g s (wX7 g a i xs) (wX7 g a i xs) H locs → W p l e (rM 2 40) s m _ below meth c H locs 0 0 (mZ g below _ s (wX7 g a i xs) (wX7 g a i xs) (some (.int o))) (F0 m 0 ls []) from HH _ _ hH
  clear hH
  intro H locs hH
  refine lv_iload_n hx hb dX7_endOf_0 rfl (lv_at hl 1 rfl) ?_
  refine lv_iload_n hx hb dX7_endOf_1 rfl (lv_at hl 2 rfl) ?_
  obtain ⟨o1, ho1, h⟩ := bd_x h
  refine r_S X hH (ws1 := (wX7 g a i xs)) (As := [.int pb]) (rest := [.int pa]) (st1 := [.ref (g.2.2.1 (1 + o1)), .int pa]) (uX7_textOf  ho1) kX7_textOf mX7_38 sX7_textOf zX7 okX7_textOf ⟨Nat.le_of_ble_eq_true rfl, Nat.le_of_ble_eq_true rfl⟩ rfl rfl (pm_none _) (pm_none _) rfl hl.1 rfl (Nat.le_of_ble_eq_true rfl) ⟨Nat.le_refl 0, Nat.le_refl 0⟩ rfl dX7_endOf_2 (fun H locs hH => ?_)
  obtain ⟨o2, ho2, h⟩ := bd_x h
  obtain ⟨hk1, h⟩ := gk_x h
  refine r_VS X hH (ws1 := (wX7 g a i xs)) (As := []) (rest := [.int pa]) (st1 := [.int o2, .int pa]) hk1 (uJ0_length_8abf5  ho2) kJ0_length_8abf5 mX7_42 iJ0_length_8abf5 vJ0_length_8abf5 zJ0 okJ0_length_8abf5 ⟨Nat.le_of_ble_eq_true rfl, Nat.le_of_ble_eq_true rfl⟩ rfl rfl (pm_none _) (pm_none _) rfl hl.1 rfl (Nat.le_of_ble_eq_true rfl) ⟨Nat.le_refl 0, Nat.le_refl 0⟩ rfl dX7_endOf_5 (fun H locs hH => ?_)
  refine lv_iadd hx hb dX7_endOf_8 ?_
  refine lv_iconst (v := (2 : Int32)) hx hb dX7_endOf_9 (by decide) ?_
  refine lv_iload_n hx hb dX7_endOf_10 rfl (lv_at hl 2 rfl) ?_
  obtain ⟨o3, ho3, h⟩ := bd_x h
  refine r_S X hH (ws1 := (wX7 g a i xs)) (As := [.int pb]) (rest := [.int (2 : Int32), .int (pa + o2)]) (st1 := [.int o3, .int (2 : Int32), .int (pa + o2)]) (uX7_numbersOf  ho3) kX7_numbersOf mX7_47 sX7_numbersOf zX7 okX7_numbersOf ⟨Nat.le_of_ble_eq_true rfl, Nat.le_of_ble_eq_true rfl⟩ rfl rfl (pm_none _) (pm_none _) rfl hl.1 rfl (Nat.le_of_ble_eq_true rfl) ⟨Nat.le_refl 0, Nat.le_refl 0⟩ rfl dX7_endOf_11 (fun H locs hH => ?_)
  refine lv_imul hx hb dX7_endOf_14 ?_
  refine lv_iadd hx hb dX7_endOf_15 ?_
  refine lv_iconst (v := (1 : Int32)) hx hb dX7_endOf_16 (by decide) ?_
  refine lv_iadd hx hb dX7_endOf_17 ?_
  have h := Option.some.inj h
  subst h
  exact e_i X hH dX7_endOf_18

def qX7_longestBeginning_4 (xs : SX7) (pa : Int32)  : Nat → Int32 → Int32 → Option Int32
  | 0, _, _ => none
  | fu + 1, l2, l3 =>
  (if (6 : Int32) ≤ l3 then
  some l2
  else
  (fX7_textOf l3).bind fun o1 =>
  (fX7_beginning xs o1 pa).bind fun o2 =>
  ltt ((if l2 < o2 then o2 else l2)) fun v1 =>
  ltt (l3 + (1 : Int32)) fun v2 =>
  qX7_longestBeginning_4 xs pa  fu v1 v2)
def fX7_longestBeginning (xs : SX7) (pa : Int32) : Option Int32 :=
  qX7_longestBeginning_4 xs pa FU (0 : Int32) (0 : Int32)
set_option maxHeartbeats 4000000 in
set_option maxRecDepth 100000 in
theorem pX7_longestBeginning_4 {p : Program} {l : Launch} {e : Env} {s : State} {m : MethodId} {args : Array Value} {below : List Frame} {meth : Method} {c : Code} {g : GG} {w0 : va_W} {a : Nat → Nat} {i : Nat} {xs : SX7} {pa : Int32} {o : Int32} (X : mX g yX7_longestBeginning cX7_longestBeginning 4 (some .int) p s m args meth c w0) :
  ∀ (fu : Nat) (l2 : Int32) (l3 : Int32) (H : Heap) (locs : List Loc) (ls : Array Slot), qX7_longestBeginning_4 xs pa fu l2 l3 = some o → mH g s w0 (wX7 g a i xs) H locs → lv_has ls 4 [(0, .ref (a i)), (1, .int pa), (2, .int l2), (3, .int l3)] → W p l e (rM 5 108) s m args below meth c H locs 0 0 (mZ g below args s w0 (wX7 g a i xs) (some (.int o))) (F0 m 4 ls []) := by
  have hx := X.1
  have hb := X.2.1
  intro fu
  induction fu with
  | zero =>
    intro l2 l3 H locs ls h
    unfold qX7_longestBeginning_4 at h
    cases h
  | succ fu ih =>
    intro l2 l3 H locs ls h hH hl
    unfold qX7_longestBeginning_4 at h
    refine lv_iload_n hx hb dX7_longestBeginning_4 rfl (lv_at hl 3 rfl) ?_
    refine lv_bipush (v := (6 : Int32)) hx hb dX7_longestBeginning_5 (by decide) ?_
    refine lv_icmp_ge (tgt := 30) hx hb dX7_longestBeginning_7 (by decide) (fun c1 => ?_) (fun c1 => ?_)
    · have h := it_x h c1
      refine lv_iload_n hx hb dX7_longestBeginning_30 rfl (lv_at hl 2 rfl) ?_
      have h := Option.some.inj h
      subst h
      exact e_i X hH dX7_longestBeginning_31
    · have h := ie_x h c1
      refine lv_iload_n hx hb dX7_longestBeginning_10 rfl (lv_at hl 2 rfl) ?_
      refine lv_aload_n hx hb dX7_longestBeginning_11 rfl (lv_at hl 0 rfl) ?_
      refine lv_iload_n hx hb dX7_longestBeginning_12 rfl (lv_at hl 3 rfl) ?_
      obtain ⟨o1, ho1, h⟩ := bd_x h
      refine r_S X hH (ws1 := (wX7 g a i xs)) (As := [.int l3]) (rest := [.ref (a i), .int l2]) (st1 := [.ref (g.2.2.1 (1 + o1)), .ref (a i), .int l2]) (uX7_textOf  ho1) kX7_textOf mX7_38 sX7_textOf zX7 okX7_textOf ⟨Nat.le_of_ble_eq_true rfl, Nat.le_of_ble_eq_true rfl⟩ rfl rfl (pm_none _) (pm_none _) rfl hl.1 rfl (Nat.le_of_ble_eq_true rfl) ⟨Nat.le_refl 0, Nat.le_refl 0⟩ rfl dX7_longestBeginning_13 (fun H locs hH => ?_)
      refine lv_iload_n hx hb dX7_longestBeginning_16 rfl (lv_at hl 1 rfl) ?_
      obtain ⟨o2, ho2, h⟩ := bd_x h
      refine r_V X hH (ws1 := (wX7 g a i xs)) (As := [.ref (g.2.2.1 (1 + o1)), .int pa]) (rest := [.int l2]) (st1 := [.int o2, .int l2]) (uX7_beginning (a := a) (i := i) ho2) kX7_beginning mX7_88 iX7_beginning vX7_beginning zX7 okX7_beginning ⟨Nat.le_of_ble_eq_true rfl, Nat.le_of_ble_eq_true rfl⟩ rfl rfl (q0 := 0) rfl rfl (pm_all _) (pm_all _) rfl hl.1 rfl (Nat.le_of_ble_eq_true rfl) ⟨Nat.le_refl 0, Nat.le_refl 0⟩ rfl dX7_longestBeginning_17 (fun H locs hH => ?_)
      refine va_mmax hx hb (X.2.2.2.1.trans hl.1.symm) X.2.2.2.2.1 (X.2.2.2.2.2.1 _ mX7_92) (X.2.2.2.2.2.1 _ sJ9_max_7cf53) (X.2.2.2.2.2.1 _ zJ9) (X.2.2.2.2.2.1 _ kJ9_max_7cf53) (Nat.le_of_ble_eq_true rfl) (Nat.le_of_ble_eq_true rfl) (Nat.le_refl 0) (Nat.le_refl 0) dX7_longestBeginning_20 ?_
      obtain ⟨v1, ev1, h⟩ := ltt_x h
      refine s_in X (lv' := [(2, .int v1), (0, .ref (a i)), (1, .int pa), (3, .int l3)]) hl ev1 dX7_longestBeginning_23 rfl (by decide) rfl (fun ls hl => ?_)
      obtain ⟨v2, ev2, h⟩ := ltt_x h
      refine s_inc X (k := 3) (lv' := [(3, .int v2), (2, .int v1), (0, .ref (a i)), (1, .int pa)]) hl rfl (by rw [ev2]; rfl) dX7_longestBeginning_24 (by decide) rfl (fun ls hl => ?_)
      refine lv_goto (tgt := 4) hx hb dX7_longestBeginning_27 (by decide) ?_
      exact ih v1 v2 H locs ls h hH (lv_sub hl [2, 3, 1, 0] rfl)
set_option maxHeartbeats 4000000 in
set_option maxRecDepth 100000 in
theorem uX7_longestBeginning {l : Launch} {g : GG} {a : Nat → Nat} {i : Nat} {xs : SX7} {pa : Int32} {o : Int32} (h : fX7_longestBeginning xs pa = some o) : mC l g yX7_longestBeginning cX7_longestBeginning 4 (some .int) (rM 5 108) [.ref (a i), .int pa] (wX7 g a i xs) (wX7 g a i xs) (some (.int o)) := by
  refine mC.ofW (by decide) (fun p e s m below meth c X hH ls _ hl => ?_) (Nat.le_of_ble_eq_true rfl)
  have hx := X.1
  have hb := X.2.1
  have hl : lv_has ls 4 [(0, .ref (a i)), (1, .int pa)] := hl
  unfold fX7_longestBeginning at h
  suffices HH : ∀ (H : Heap) (locs : List Loc), mH g s (wX7 g a i xs) (wX7 g a i xs) H locs → W p l e (rM 5 108) s m _ below meth c H locs 0 0 (mZ g below _ s (wX7 g a i xs) (wX7 g a i xs) (some (.int o))) (F0 m 0 ls []) from HH _ _ hH
  clear hH
  intro H locs hH
  refine lv_iconst (v := (0 : Int32)) hx hb dX7_longestBeginning_0 (by decide) ?_
  refine s_in X (lv' := [(2, .int (0 : Int32)), (0, .ref (a i)), (1, .int pa)]) hl rfl dX7_longestBeginning_1 rfl (by decide) rfl (fun ls hl => ?_)
  refine lv_iconst (v := (0 : Int32)) hx hb dX7_longestBeginning_2 (by decide) ?_
  refine s_in X (lv' := [(3, .int (0 : Int32)), (2, .int (0 : Int32)), (0, .ref (a i)), (1, .int pa)]) hl rfl dX7_longestBeginning_3 rfl (by decide) rfl (fun ls hl => ?_)
  exact pX7_longestBeginning_4 X FU (0 : Int32) (0 : Int32) H locs ls h hH (lv_sub hl [2, 3, 1, 0] rfl)

def qX7_faultOfForm_22 (xs : SX7) (k4 : Int32 → Int32 → Option Int32) (l1 : Int32) (l2 : Int32) : Option Int32 :=
  (fX7_wordAt xs l1).bind fun o1 =>
  (if (0 : Int32) ≤ o1 then
  (fX7_textOf o1).bind fun o2 =>
  (fJ0_length_8abf5 o2).bind fun o3 =>
  gk o2 <|
  (fX7_numbersOf o1).bind fun o4 =>
  (fX7_faultOfNumbers xs (l1 + o3) o4).bind fun o5 =>
  (if o5 < (0 : Int32) then
  (fX7_endOf xs l1 o1).bind fun o6 =>
  ltt (l2 + (1 : Int32)) fun v1 =>
  k4 o6 v1
  else
  some o5)
  else
  (fX7_longestBeginning xs l1).bind fun o7 =>
  some (l1 + o7))
def qX7_faultOfForm_4 (xs : SX7)  : Nat → Int32 → Int32 → Option Int32
  | 0, _, _ => none
  | fu + 1, l1, l2 =>
  (if (120 : Int32) ≤ l2 then
  some (-1 : Int32)
  else
  (if l2 = (0 : Int32) then
  qX7_faultOfForm_22 xs (qX7_faultOfForm_4 xs  fu) l1 l2
  else
  (if (te_size xs) ≤ l1 then
  some (-1 : Int32)
  else
  qX7_faultOfForm_22 xs (qX7_faultOfForm_4 xs  fu) l1 l2)))
def fX7_faultOfForm (xs : SX7) : Option Int32 :=
  qX7_faultOfForm_4 xs FU (0 : Int32) (0 : Int32)
set_option maxHeartbeats 4000000 in
set_option maxRecDepth 100000 in
theorem pX7_faultOfForm_22 {p : Program} {l : Launch} {e : Env} {s : State} {m : MethodId} {args : Array Value} {below : List Frame} {meth : Method} {c : Code} {g : GG} {w0 : va_W} {a : Nat → Nat} {i : Nat} {xs : SX7} {o : Int32} (X : mX g yX7_faultOfForm cX7_faultOfForm 5 (some .int) p s m args meth c w0)
  {k4 : Int32 → Int32 → Option Int32} (K4 : ∀ (l1 : Int32) (l2 : Int32) (H : Heap) (locs : List Loc) (ls : Array Slot), k4 l1 l2 = some o → mH g s w0 (wX7 g a i xs) H locs → lv_has ls 5 [(0, .ref (a i)), (1, .int l1), (2, .int l2)] → W p l e (rM 6 131) s m args below meth c H locs 0 0 (mZ g below args s w0 (wX7 g a i xs) (some (.int o))) (F0 m 4 ls [])) :
  ∀ (l1 : Int32) (l2 : Int32) (H : Heap) (locs : List Loc) (ls : Array Slot), qX7_faultOfForm_22 xs k4 l1 l2 = some o → mH g s w0 (wX7 g a i xs) H locs → lv_has ls 5 [(0, .ref (a i)), (1, .int l1), (2, .int l2)] → W p l e (rM 6 131) s m args below meth c H locs 0 0 (mZ g below args s w0 (wX7 g a i xs) (some (.int o))) (F0 m 22 ls []) := by
  have hx := X.1
  have hb := X.2.1
  intro l1 l2 H locs ls h hH hl
  unfold qX7_faultOfForm_22 at h
  refine lv_aload_n hx hb dX7_faultOfForm_22 rfl (lv_at hl 0 rfl) ?_
  refine lv_iload_n hx hb dX7_faultOfForm_23 rfl (lv_at hl 1 rfl) ?_
  obtain ⟨o1, ho1, h⟩ := bd_x h
  refine r_V X hH (ws1 := (wX7 g a i xs)) (As := [.int l1]) (rest := []) (st1 := [.int o1]) (uX7_wordAt (a := a) (i := i) ho1) kX7_wordAt mX7_31 iX7_wordAt vX7_wordAt zX7 okX7_wordAt ⟨Nat.le_of_ble_eq_true rfl, Nat.le_of_ble_eq_true rfl⟩ rfl rfl (q0 := 0) rfl rfl (pm_all _) (pm_all _) rfl hl.1 rfl (Nat.le_of_ble_eq_true rfl) ⟨Nat.le_refl 0, Nat.le_refl 0⟩ rfl dX7_faultOfForm_24 (fun H locs hH => ?_)
  refine s_in X (lv' := [(3, .int o1), (0, .ref (a i)), (1, .int l1), (2, .int l2)]) hl rfl dX7_faultOfForm_27 rfl (by decide) rfl (fun ls hl => ?_)
  refine lv_iload_n hx hb dX7_faultOfForm_28 rfl (lv_at hl 0 rfl) ?_
  refine lv_if_ge (tgt := 40) hx hb dX7_faultOfForm_29 (by decide) (fun c3 => ?_) (fun c3 => ?_)
  · have h := it_x h c3
    refine lv_aload_n hx hb dX7_faultOfForm_40 rfl (lv_at hl 1 rfl) ?_
    refine lv_iload_n hx hb dX7_faultOfForm_41 rfl (lv_at hl 2 rfl) ?_
    refine lv_iload_n hx hb dX7_faultOfForm_42 rfl (lv_at hl 0 rfl) ?_
    obtain ⟨o2, ho2, h⟩ := bd_x h
    refine r_S X hH (ws1 := (wX7 g a i xs)) (As := [.int o1]) (rest := [.int l1, .ref (a i)]) (st1 := [.ref (g.2.2.1 (1 + o2)), .int l1, .ref (a i)]) (uX7_textOf  ho2) kX7_textOf mX7_38 sX7_textOf zX7 okX7_textOf ⟨Nat.le_of_ble_eq_true rfl, Nat.le_of_ble_eq_true rfl⟩ rfl rfl (pm_none _) (pm_none _) rfl hl.1 rfl (Nat.le_of_ble_eq_true rfl) ⟨Nat.le_refl 0, Nat.le_refl 0⟩ rfl dX7_faultOfForm_43 (fun H locs hH => ?_)
    obtain ⟨o3, ho3, h⟩ := bd_x h
    obtain ⟨hk1, h⟩ := gk_x h
    refine r_VS X hH (ws1 := (wX7 g a i xs)) (As := []) (rest := [.int l1, .ref (a i)]) (st1 := [.int o3, .int l1, .ref (a i)]) hk1 (uJ0_length_8abf5  ho3) kJ0_length_8abf5 mX7_42 iJ0_length_8abf5 vJ0_length_8abf5 zJ0 okJ0_length_8abf5 ⟨Nat.le_of_ble_eq_true rfl, Nat.le_of_ble_eq_true rfl⟩ rfl rfl (pm_none _) (pm_none _) rfl hl.1 rfl (Nat.le_of_ble_eq_true rfl) ⟨Nat.le_refl 0, Nat.le_refl 0⟩ rfl dX7_faultOfForm_46 (fun H locs hH => ?_)
    refine lv_iadd hx hb dX7_faultOfForm_49 ?_
    refine lv_iload_n hx hb dX7_faultOfForm_50 rfl (lv_at hl 0 rfl) ?_
    obtain ⟨o4, ho4, h⟩ := bd_x h
    refine r_S X hH (ws1 := (wX7 g a i xs)) (As := [.int o1]) (rest := [.int (l1 + o3), .ref (a i)]) (st1 := [.int o4, .int (l1 + o3), .ref (a i)]) (uX7_numbersOf  ho4) kX7_numbersOf mX7_47 sX7_numbersOf zX7 okX7_numbersOf ⟨Nat.le_of_ble_eq_true rfl, Nat.le_of_ble_eq_true rfl⟩ rfl rfl (pm_none _) (pm_none _) rfl hl.1 rfl (Nat.le_of_ble_eq_true rfl) ⟨Nat.le_refl 0, Nat.le_refl 0⟩ rfl dX7_faultOfForm_51 (fun H locs hH => ?_)
    obtain ⟨o5, ho5, h⟩ := bd_x h
    refine r_V X hH (ws1 := (wX7 g a i xs)) (As := [.int (l1 + o3), .int o4]) (rest := []) (st1 := [.int o5]) (uX7_faultOfNumbers (a := a) (i := i) ho5) kX7_faultOfNumbers mX7_50 iX7_faultOfNumbers vX7_faultOfNumbers zX7 okX7_faultOfNumbers ⟨Nat.le_of_ble_eq_true rfl, Nat.le_of_ble_eq_true rfl⟩ rfl rfl (q0 := 0) rfl rfl (pm_all _) (pm_all _) rfl hl.1 rfl (Nat.le_of_ble_eq_true rfl) ⟨Nat.le_refl 0, Nat.le_refl 0⟩ rfl dX7_faultOfForm_54 (fun H locs hH => ?_)
    refine s_i X (lv' := [(4, .int o5), (3, .int o1), (0, .ref (a i)), (1, .int l1), (2, .int l2)]) hl rfl dX7_faultOfForm_57 (by decide) rfl (fun ls hl => ?_)
    refine lv_iload hx hb dX7_faultOfForm_59 (lv_at hl 0 rfl) ?_
    refine lv_if_lt (tgt := 67) hx hb dX7_faultOfForm_61 (by decide) (fun c4 => ?_) (fun c4 => ?_)
    · have h := it_x h c4
      refine lv_aload_n hx hb dX7_faultOfForm_67 rfl (lv_at hl 2 rfl) ?_
      refine lv_iload_n hx hb dX7_faultOfForm_68 rfl (lv_at hl 3 rfl) ?_
      refine lv_iload_n hx hb dX7_faultOfForm_69 rfl (lv_at hl 1 rfl) ?_
      obtain ⟨o6, ho6, h⟩ := bd_x h
      refine r_V X hH (ws1 := (wX7 g a i xs)) (As := [.int l1, .int o1]) (rest := []) (st1 := [.int o6]) (uX7_endOf (a := a) (i := i) ho6) kX7_endOf mX7_54 iX7_endOf vX7_endOf zX7 okX7_endOf ⟨Nat.le_of_ble_eq_true rfl, Nat.le_of_ble_eq_true rfl⟩ rfl rfl (q0 := 0) rfl rfl (pm_all _) (pm_all _) rfl hl.1 rfl (Nat.le_of_ble_eq_true rfl) ⟨Nat.le_refl 0, Nat.le_refl 0⟩ rfl dX7_faultOfForm_70 (fun H locs hH => ?_)
      refine s_in X (lv' := [(1, .int o6), (4, .int o5), (3, .int o1), (0, .ref (a i)), (2, .int l2)]) hl rfl dX7_faultOfForm_73 rfl (by decide) rfl (fun ls hl => ?_)
      obtain ⟨v1, ev1, h⟩ := ltt_x h
      refine s_inc X (k := 4) (lv' := [(2, .int v1), (1, .int o6), (4, .int o5), (3, .int o1), (0, .ref (a i))]) hl rfl (by rw [ev1]; rfl) dX7_faultOfForm_74 (by decide) rfl (fun ls hl => ?_)
      refine lv_goto (tgt := 4) hx hb dX7_faultOfForm_77 (by decide) ?_
      exact K4 o6 v1 H locs ls h hH (lv_sub hl [4, 1, 0] rfl)
    · have h := ie_x h c4
      refine lv_iload hx hb dX7_faultOfForm_64 (lv_at hl 0 rfl) ?_
      have h := Option.some.inj h
      subst h
      exact e_i X hH dX7_faultOfForm_66
  · have h := ie_x h c3
    refine lv_iload_n hx hb dX7_faultOfForm_32 rfl (lv_at hl 2 rfl) ?_
    refine lv_aload_n hx hb dX7_faultOfForm_33 rfl (lv_at hl 1 rfl) ?_
    refine lv_iload_n hx hb dX7_faultOfForm_34 rfl (lv_at hl 2 rfl) ?_
    obtain ⟨o7, ho7, h⟩ := bd_x h
    refine r_V X hH (ws1 := (wX7 g a i xs)) (As := [.int l1]) (rest := [.int l1]) (st1 := [.int o7, .int l1]) (uX7_longestBeginning (a := a) (i := i) ho7) kX7_longestBeginning mX7_35 iX7_longestBeginning vX7_longestBeginning zX7 okX7_longestBeginning ⟨Nat.le_of_ble_eq_true rfl, Nat.le_of_ble_eq_true rfl⟩ rfl rfl (q0 := 0) rfl rfl (pm_all _) (pm_all _) rfl hl.1 rfl (Nat.le_of_ble_eq_true rfl) ⟨Nat.le_refl 0, Nat.le_refl 0⟩ rfl dX7_faultOfForm_35 (fun H locs hH => ?_)
    refine lv_iadd hx hb dX7_faultOfForm_38 ?_
    have h := Option.some.inj h
    subst h
    exact e_i X hH dX7_faultOfForm_39
set_option maxHeartbeats 4000000 in
set_option maxRecDepth 100000 in
theorem pX7_faultOfForm_4 {p : Program} {l : Launch} {e : Env} {s : State} {m : MethodId} {args : Array Value} {below : List Frame} {meth : Method} {c : Code} {g : GG} {w0 : va_W} {a : Nat → Nat} {i : Nat} {xs : SX7} {o : Int32} (X : mX g yX7_faultOfForm cX7_faultOfForm 5 (some .int) p s m args meth c w0) :
  ∀ (fu : Nat) (l1 : Int32) (l2 : Int32) (H : Heap) (locs : List Loc) (ls : Array Slot), qX7_faultOfForm_4 xs fu l1 l2 = some o → mH g s w0 (wX7 g a i xs) H locs → lv_has ls 5 [(0, .ref (a i)), (1, .int l1), (2, .int l2)] → W p l e (rM 6 131) s m args below meth c H locs 0 0 (mZ g below args s w0 (wX7 g a i xs) (some (.int o))) (F0 m 4 ls []) := by
  have hx := X.1
  have hb := X.2.1
  intro fu
  induction fu with
  | zero =>
    intro l1 l2 H locs ls h
    unfold qX7_faultOfForm_4 at h
    cases h
  | succ fu ih =>
    intro l1 l2 H locs ls h hH hl
    unfold qX7_faultOfForm_4 at h
    refine lv_iload_n hx hb dX7_faultOfForm_4 rfl (lv_at hl 2 rfl) ?_
    refine lv_bipush (v := (120 : Int32)) hx hb dX7_faultOfForm_5 (by decide) ?_
    refine lv_icmp_ge (tgt := 80) hx hb dX7_faultOfForm_7 (by decide) (fun c1 => ?_) (fun c1 => ?_)
    · have h := it_x h c1
      refine lv_iconst (v := (-1 : Int32)) hx hb dX7_faultOfForm_80 (by decide) ?_
      have h := Option.some.inj h
      subst h
      exact e_i X hH dX7_faultOfForm_81
    · have h := ie_x h c1
      refine lv_iload_n hx hb dX7_faultOfForm_10 rfl (lv_at hl 2 rfl) ?_
      refine lv_if_eq (tgt := 22) hx hb dX7_faultOfForm_11 (by decide) (fun c2 => ?_) (fun c2 => ?_)
      · have h := it_x h c2
        exact pX7_faultOfForm_22 X ih l1 l2 H locs ls h hH (lv_sub hl [0, 1, 2] rfl)
      · have h := ie_x h c2
        refine lv_iload_n hx hb dX7_faultOfForm_14 rfl (lv_at hl 1 rfl) ?_
        refine lv_aload_n hx hb dX7_faultOfForm_15 rfl (lv_at hl 0 rfl) ?_
        refine f_get X hH 0 rfl rfl 0 (by decide) inX7 fX7_9 rfl dX7_faultOfForm_16 ?_
        refine lv_icmp_ge (tgt := 80) hx hb dX7_faultOfForm_19 (by decide) (fun c5 => ?_) (fun c5 => ?_)
        · have h := it_x h c5
          refine lv_iconst (v := (-1 : Int32)) hx hb dX7_faultOfForm_80 (by decide) ?_
          have h := Option.some.inj h
          subst h
          exact e_i X hH dX7_faultOfForm_81
        · have h := ie_x h c5
          exact pX7_faultOfForm_22 X ih l1 l2 H locs ls h hH (lv_sub hl [0, 1, 2] rfl)
set_option maxHeartbeats 4000000 in
set_option maxRecDepth 100000 in
theorem uX7_faultOfForm {l : Launch} {g : GG} {a : Nat → Nat} {i : Nat} {xs : SX7} {o : Int32} (h : fX7_faultOfForm xs = some o) : mC l g yX7_faultOfForm cX7_faultOfForm 5 (some .int) (rM 6 131) [.ref (a i)] (wX7 g a i xs) (wX7 g a i xs) (some (.int o)) := by
  refine mC.ofW (by decide) (fun p e s m below meth c X hH ls _ hl => ?_) (Nat.le_of_ble_eq_true rfl)
  have hx := X.1
  have hb := X.2.1
  have hl : lv_has ls 5 [(0, .ref (a i))] := hl
  unfold fX7_faultOfForm at h
  suffices HH : ∀ (H : Heap) (locs : List Loc), mH g s (wX7 g a i xs) (wX7 g a i xs) H locs → W p l e (rM 6 131) s m _ below meth c H locs 0 0 (mZ g below _ s (wX7 g a i xs) (wX7 g a i xs) (some (.int o))) (F0 m 0 ls []) from HH _ _ hH
  clear hH
  intro H locs hH
  refine lv_iconst (v := (0 : Int32)) hx hb dX7_faultOfForm_0 (by decide) ?_
  refine s_in X (lv' := [(1, .int (0 : Int32)), (0, .ref (a i))]) hl rfl dX7_faultOfForm_1 rfl (by decide) rfl (fun ls hl => ?_)
  refine lv_iconst (v := (0 : Int32)) hx hb dX7_faultOfForm_2 (by decide) ?_
  refine s_in X (lv' := [(2, .int (0 : Int32)), (1, .int (0 : Int32)), (0, .ref (a i))]) hl rfl dX7_faultOfForm_3 rfl (by decide) rfl (fun ls hl => ?_)
  exact pX7_faultOfForm_4 X FU (0 : Int32) (0 : Int32) H locs ls h hH (lv_sub hl [2, 1, 0] rfl)
