def qX9_brings_13_16   : Nat → SX9 → Int32 → Option SX9
  | 0, _, _ => none
  | fu + 1, xs, l2 =>
  (if (10 : Int32) ≤ l2 then
  some xs
  else
  ga 62 ((2 : Int32) + ((6 : Int32) * l2)) fun j3 =>
  ltt (((m_was xs) j3)) fun v3 =>
  ga 11 l2 fun j4 =>
  ltt ((m_first_s xs (upd (m_first xs) j4 v3))) fun xs3 =>
  ga 62 ((3 : Int32) + ((6 : Int32) * l2)) fun j5 =>
  ltt (((m_was xs3) j5)) fun v4 =>
  ga 11 l2 fun j6 =>
  ltt ((m_second_s xs3 (upd (m_second xs3) j6 v4))) fun xs4 =>
  ga 62 ((4 : Int32) + ((6 : Int32) * l2)) fun j7 =>
  ltt (((m_was xs4) j7)) fun v5 =>
  ga 11 l2 fun j8 =>
  ltt ((m_kind_s xs4 (upd (m_kind xs4) j8 v5))) fun xs5 =>
  ga 62 ((5 : Int32) + ((6 : Int32) * l2)) fun j9 =>
  ltt (((m_was xs5) j9)) fun v6 =>
  ga 11 l2 fun j10 =>
  ltt ((m_figure_s xs5 (upd (m_figure xs5) j10 v6))) fun xs6 =>
  ga 62 ((6 : Int32) + ((6 : Int32) * l2)) fun j11 =>
  ltt (((m_was xs6) j11)) fun v7 =>
  ga 11 l2 fun j12 =>
  ltt ((m_load_s xs6 (upd (m_load xs6) j12 v7))) fun xs7 =>
  ga 62 ((7 : Int32) + ((6 : Int32) * l2)) fun j13 =>
  ltt (((m_was xs7) j13)) fun v8 =>
  ga 11 l2 fun j14 =>
  ltt ((m_length_s xs7 (upd (m_length xs7) j14 v8))) fun xs8 =>
  ltt (l2 + (1 : Int32)) fun v9 =>
  qX9_brings_13_16  fu xs8 v9)
def fX9_brings_13 (xs : SX9) : Option SX9 :=
  ga 62 (0 : Int32) fun j1 =>
  ltt (((m_was xs) j1)) fun v1 =>
  ltt ((m_points_s xs v1)) fun xs1 =>
  ga 62 (1 : Int32) fun j2 =>
  ltt (((m_was xs1) j2)) fun v2 =>
  ltt ((m_many_s xs1 v2)) fun xs2 =>
  qX9_brings_13_16 FU xs2 (0 : Int32)
set_option maxHeartbeats 4000000 in
set_option maxRecDepth 100000 in
theorem pX9_brings_13_16 {p : Program} {l : Launch} {e : Env} {s : State} {m : MethodId} {args : Array Value} {below : List Frame} {meth : Method} {c : Code} {g : GG} {w0 : va_W} {a : Nat → Nat} {i : Nat}  {o : SX9} (X : mX g yX9_brings cX9_brings 3 none p s m args meth c w0) :
  ∀ (fu : Nat) (xs : SX9) (l2 : Int32) (H : Heap) (locs : List Loc) (ls : Array Slot), qX9_brings_13_16 fu xs l2 = some o → mH g s w0 (wX9 g a i xs) H locs → lv_has ls 3 [(0, .ref (a i)), (1, .ref (a (i + 13))), (2, .int l2)] → W p l e (rM 0 0) s m args below meth c H locs 0 0 (mZ g below args s w0 (wX9 g a i o) none) (F0 m 16 ls []) := by
  have hx := X.1
  have hb := X.2.1
  intro fu
  induction fu with
  | zero =>
    intro xs l2 H locs ls h
    unfold qX9_brings_13_16 at h
    cases h
  | succ fu ih =>
    intro xs l2 H locs ls h hH hl
    unfold qX9_brings_13_16 at h
    refine lv_iload_n hx hb dX9_brings_16 rfl (lv_at hl 2 rfl) ?_
    refine lv_bipush (v := (10 : Int32)) hx hb dX9_brings_17 (by decide) ?_
    refine lv_icmp_ge (tgt := 114) hx hb dX9_brings_19 (by decide) (fun c1 => ?_) (fun c1 => ?_)
    · have h := it_x h c1
      have h := Option.some.inj h
      subst h
      exact e_v X hH dX9_brings_114
    · have h := ie_x h c1
      refine lv_aload_n hx hb dX9_brings_22 rfl (lv_at hl 0 rfl) ?_
      refine f_get X hH 0 rfl rfl 2 (by decide) inX9 fX9_13 rfl dX9_brings_23 ?_
      refine lv_iload_n hx hb dX9_brings_26 rfl (lv_at hl 2 rfl) ?_
      refine lv_aload_n hx hb dX9_brings_27 rfl (lv_at hl 1 rfl) ?_
      refine lv_iconst (v := (2 : Int32)) hx hb dX9_brings_28 (by decide) ?_
      refine lv_bipush (v := (6 : Int32)) hx hb dX9_brings_29 (by decide) ?_
      refine lv_iload_n hx hb dX9_brings_31 rfl (lv_at hl 2 rfl) ?_
      refine lv_imul hx hb dX9_brings_32 ?_
      refine lv_iadd hx hb dX9_brings_33 ?_
      obtain ⟨j3, ej3, hinj3, h⟩ := ga_x h
      refine a_il X hH 13 rfl hinj3 ej3 dX9_brings_34 ?_
      obtain ⟨v3, ev3, h⟩ := ltt_x h
      refine lv_topi (fun y0 e0 => ?_)
      rw [← ev3] at e0
      subst y0
      obtain ⟨j4, ej4, hinj4, h⟩ := ga_x h
      obtain ⟨xs3, exs3, h⟩ := ltt_x h
      refine a_is X hH (ws1 := (wX9 g a i xs3)) 1 rfl hinj4 ej4 (by rw [exs3]; rfl) dX9_brings_35 (fun H locs hH => ?_)
      refine lv_aload_n hx hb dX9_brings_36 rfl (lv_at hl 0 rfl) ?_
      refine f_get X hH 0 rfl rfl 3 (by decide) inX9 fX9_17 rfl dX9_brings_37 ?_
      refine lv_iload_n hx hb dX9_brings_40 rfl (lv_at hl 2 rfl) ?_
      refine lv_aload_n hx hb dX9_brings_41 rfl (lv_at hl 1 rfl) ?_
      refine lv_iconst (v := (3 : Int32)) hx hb dX9_brings_42 (by decide) ?_
      refine lv_bipush (v := (6 : Int32)) hx hb dX9_brings_43 (by decide) ?_
      refine lv_iload_n hx hb dX9_brings_45 rfl (lv_at hl 2 rfl) ?_
      refine lv_imul hx hb dX9_brings_46 ?_
      refine lv_iadd hx hb dX9_brings_47 ?_
      obtain ⟨j5, ej5, hinj5, h⟩ := ga_x h
      refine a_il X hH 13 rfl hinj5 ej5 dX9_brings_48 ?_
      obtain ⟨v4, ev4, h⟩ := ltt_x h
      refine lv_topi (fun y0 e0 => ?_)
      rw [← ev4] at e0
      subst y0
      obtain ⟨j6, ej6, hinj6, h⟩ := ga_x h
      obtain ⟨xs4, exs4, h⟩ := ltt_x h
      refine a_is X hH (ws1 := (wX9 g a i xs4)) 2 rfl hinj6 ej6 (by rw [exs4]; rfl) dX9_brings_49 (fun H locs hH => ?_)
      refine lv_aload_n hx hb dX9_brings_50 rfl (lv_at hl 0 rfl) ?_
      refine f_get X hH 0 rfl rfl 4 (by decide) inX9 fX9_20 rfl dX9_brings_51 ?_
      refine lv_iload_n hx hb dX9_brings_54 rfl (lv_at hl 2 rfl) ?_
      refine lv_aload_n hx hb dX9_brings_55 rfl (lv_at hl 1 rfl) ?_
      refine lv_iconst (v := (4 : Int32)) hx hb dX9_brings_56 (by decide) ?_
      refine lv_bipush (v := (6 : Int32)) hx hb dX9_brings_57 (by decide) ?_
      refine lv_iload_n hx hb dX9_brings_59 rfl (lv_at hl 2 rfl) ?_
      refine lv_imul hx hb dX9_brings_60 ?_
      refine lv_iadd hx hb dX9_brings_61 ?_
      obtain ⟨j7, ej7, hinj7, h⟩ := ga_x h
      refine a_il X hH 13 rfl hinj7 ej7 dX9_brings_62 ?_
      obtain ⟨v5, ev5, h⟩ := ltt_x h
      refine lv_topi (fun y0 e0 => ?_)
      rw [← ev5] at e0
      subst y0
      obtain ⟨j8, ej8, hinj8, h⟩ := ga_x h
      obtain ⟨xs5, exs5, h⟩ := ltt_x h
      refine a_is X hH (ws1 := (wX9 g a i xs5)) 3 rfl hinj8 ej8 (by rw [exs5]; rfl) dX9_brings_63 (fun H locs hH => ?_)
      refine lv_aload_n hx hb dX9_brings_64 rfl (lv_at hl 0 rfl) ?_
      refine f_get X hH 0 rfl rfl 5 (by decide) inX9 fX9_23 rfl dX9_brings_65 ?_
      refine lv_iload_n hx hb dX9_brings_68 rfl (lv_at hl 2 rfl) ?_
      refine lv_aload_n hx hb dX9_brings_69 rfl (lv_at hl 1 rfl) ?_
      refine lv_iconst (v := (5 : Int32)) hx hb dX9_brings_70 (by decide) ?_
      refine lv_bipush (v := (6 : Int32)) hx hb dX9_brings_71 (by decide) ?_
      refine lv_iload_n hx hb dX9_brings_73 rfl (lv_at hl 2 rfl) ?_
      refine lv_imul hx hb dX9_brings_74 ?_
      refine lv_iadd hx hb dX9_brings_75 ?_
      obtain ⟨j9, ej9, hinj9, h⟩ := ga_x h
      refine a_il X hH 13 rfl hinj9 ej9 dX9_brings_76 ?_
      obtain ⟨v6, ev6, h⟩ := ltt_x h
      refine lv_topi (fun y0 e0 => ?_)
      rw [← ev6] at e0
      subst y0
      obtain ⟨j10, ej10, hinj10, h⟩ := ga_x h
      obtain ⟨xs6, exs6, h⟩ := ltt_x h
      refine a_is X hH (ws1 := (wX9 g a i xs6)) 4 rfl hinj10 ej10 (by rw [exs6]; rfl) dX9_brings_77 (fun H locs hH => ?_)
      refine lv_aload_n hx hb dX9_brings_78 rfl (lv_at hl 0 rfl) ?_
      refine f_get X hH 0 rfl rfl 6 (by decide) inX9 fX9_26 rfl dX9_brings_79 ?_
      refine lv_iload_n hx hb dX9_brings_82 rfl (lv_at hl 2 rfl) ?_
      refine lv_aload_n hx hb dX9_brings_83 rfl (lv_at hl 1 rfl) ?_
      refine lv_bipush (v := (6 : Int32)) hx hb dX9_brings_84 (by decide) ?_
      refine lv_bipush (v := (6 : Int32)) hx hb dX9_brings_86 (by decide) ?_
      refine lv_iload_n hx hb dX9_brings_88 rfl (lv_at hl 2 rfl) ?_
      refine lv_imul hx hb dX9_brings_89 ?_
      refine lv_iadd hx hb dX9_brings_90 ?_
      obtain ⟨j11, ej11, hinj11, h⟩ := ga_x h
      refine a_il X hH 13 rfl hinj11 ej11 dX9_brings_91 ?_
      obtain ⟨v7, ev7, h⟩ := ltt_x h
      refine lv_topi (fun y0 e0 => ?_)
      rw [← ev7] at e0
      subst y0
      obtain ⟨j12, ej12, hinj12, h⟩ := ga_x h
      obtain ⟨xs7, exs7, h⟩ := ltt_x h
      refine a_is X hH (ws1 := (wX9 g a i xs7)) 5 rfl hinj12 ej12 (by rw [exs7]; rfl) dX9_brings_92 (fun H locs hH => ?_)
      refine lv_aload_n hx hb dX9_brings_93 rfl (lv_at hl 0 rfl) ?_
      refine f_get X hH 0 rfl rfl 7 (by decide) inX9 fX9_29 rfl dX9_brings_94 ?_
      refine lv_iload_n hx hb dX9_brings_97 rfl (lv_at hl 2 rfl) ?_
      refine lv_aload_n hx hb dX9_brings_98 rfl (lv_at hl 1 rfl) ?_
      refine lv_bipush (v := (7 : Int32)) hx hb dX9_brings_99 (by decide) ?_
      refine lv_bipush (v := (6 : Int32)) hx hb dX9_brings_101 (by decide) ?_
      refine lv_iload_n hx hb dX9_brings_103 rfl (lv_at hl 2 rfl) ?_
      refine lv_imul hx hb dX9_brings_104 ?_
      refine lv_iadd hx hb dX9_brings_105 ?_
      obtain ⟨j13, ej13, hinj13, h⟩ := ga_x h
      refine a_il X hH 13 rfl hinj13 ej13 dX9_brings_106 ?_
      obtain ⟨v8, ev8, h⟩ := ltt_x h
      refine lv_topi (fun y0 e0 => ?_)
      rw [← ev8] at e0
      subst y0
      obtain ⟨j14, ej14, hinj14, h⟩ := ga_x h
      obtain ⟨xs8, exs8, h⟩ := ltt_x h
      refine a_is X hH (ws1 := (wX9 g a i xs8)) 6 rfl hinj14 ej14 (by rw [exs8]; rfl) dX9_brings_107 (fun H locs hH => ?_)
      obtain ⟨v9, ev9, h⟩ := ltt_x h
      refine s_inc X (k := 2) (lv' := [(2, .int v9), (0, .ref (a i)), (1, .ref (a (i + 13)))]) hl rfl (by rw [ev9]; rfl) dX9_brings_108 (by decide) rfl (fun ls hl => ?_)
      refine lv_goto (tgt := 16) hx hb dX9_brings_111 (by decide) ?_
      exact ih xs8 v9 H locs ls h hH (lv_sub hl [1, 2, 0] rfl)
set_option maxHeartbeats 4000000 in
set_option maxRecDepth 100000 in
theorem uX9_brings_13 {l : Launch} {g : GG} {a : Nat → Nat} {i : Nat} {xs : SX9} {o : SX9} (h : fX9_brings_13 xs = some o) : mC l g yX9_brings cX9_brings 3 none (rM 0 0) [.ref (a i), .ref (a (i + 13))] (wX9 g a i xs) (wX9 g a i o) none := by
  refine mC.ofW (by decide) (fun p e s m below meth c X hH ls _ hl => ?_) (Nat.le_of_ble_eq_true rfl)
  have hx := X.1
  have hb := X.2.1
  have hl : lv_has ls 3 [(0, .ref (a i)), (1, .ref (a (i + 13)))] := hl
  unfold fX9_brings_13 at h
  suffices HH : ∀ (H : Heap) (locs : List Loc), mH g s (wX9 g a i xs) (wX9 g a i xs) H locs → W p l e (rM 0 0) s m _ below meth c H locs 0 0 (mZ g below _ s (wX9 g a i xs) (wX9 g a i o) none) (F0 m 0 ls []) from HH _ _ hH
  clear hH
  intro H locs hH
  refine lv_aload_n hx hb dX9_brings_0 rfl (lv_at hl 0 rfl) ?_
  refine lv_aload_n hx hb dX9_brings_1 rfl (lv_at hl 1 rfl) ?_
  refine lv_iconst (v := (0 : Int32)) hx hb dX9_brings_2 (by decide) ?_
  obtain ⟨j1, ej1, hinj1, h⟩ := ga_x h
  refine a_il X hH 13 rfl hinj1 ej1 dX9_brings_3 ?_
  obtain ⟨v1, ev1, h⟩ := ltt_x h
  refine lv_topi (fun y0 e0 => ?_)
  rw [← ev1] at e0
  subst y0
  obtain ⟨xs1, exs1, h⟩ := ltt_x h
  refine f_put X hH (ws1 := (wX9 g a i xs1)) 0 rfl rfl 0 (by decide) inX9 tyX9 tyX9_ok nmX9 fX9_7 rfl rfl rfl (Nat.le_of_ble_eq_true rfl) (by rw [exs1]; rfl) dX9_brings_4 (fun H locs hH => ?_)
  refine lv_aload_n hx hb dX9_brings_7 rfl (lv_at hl 0 rfl) ?_
  refine lv_aload_n hx hb dX9_brings_8 rfl (lv_at hl 1 rfl) ?_
  refine lv_iconst (v := (1 : Int32)) hx hb dX9_brings_9 (by decide) ?_
  obtain ⟨j2, ej2, hinj2, h⟩ := ga_x h
  refine a_il X hH 13 rfl hinj2 ej2 dX9_brings_10 ?_
  obtain ⟨v2, ev2, h⟩ := ltt_x h
  refine lv_topi (fun y0 e0 => ?_)
  rw [← ev2] at e0
  subst y0
  obtain ⟨xs2, exs2, h⟩ := ltt_x h
  refine f_put X hH (ws1 := (wX9 g a i xs2)) 0 rfl rfl 1 (by decide) inX9 tyX9 tyX9_ok nmX9 fX9_120 rfl rfl rfl (Nat.le_of_ble_eq_true rfl) (by rw [exs2]; rfl) dX9_brings_11 (fun H locs hH => ?_)
  refine lv_iconst (v := (0 : Int32)) hx hb dX9_brings_14 (by decide) ?_
  refine s_in X (lv' := [(2, .int (0 : Int32)), (0, .ref (a i)), (1, .ref (a (i + 13)))]) hl rfl dX9_brings_15 rfl (by decide) rfl (fun ls hl => ?_)
  exact pX9_brings_13_16 X FU xs2 (0 : Int32) H locs ls h hH (lv_sub hl [1, 2, 0] rfl)

def qX9_tells_36   (xs : SX9) (l1 : Int32) : Option (Int32 × SX9) :=
  ltt ((m_lettered_s xs (0 : Int32))) fun xs1 =>
  some (l1, xs1)
def fX9_tells (xs : SX9) : Option (Int32 × SX9) :=
  (fX9_grammar xs).bind fun o1 =>
  (if o1.1 ≤ (0 : Int32) then
  qX9_tells_36  o1.2 o1.1
  else
  (fX9_keeps_13 o1.2).bind fun o2 =>
  (fX9_allDone o2).bind fun o3 =>
  (if (0 : Int32) ≤ o3.1 then
  qX9_tells_36  o3.2 o1.1
  else
  (fX9_brings_13 o3.2).bind fun o4 =>
  qX9_tells_36  o4 o3.1))
set_option maxHeartbeats 4000000 in
set_option maxRecDepth 100000 in
theorem pX9_tells_36 {p : Program} {l : Launch} {e : Env} {s : State} {m : MethodId} {args : Array Value} {below : List Frame} {meth : Method} {c : Code} {g : GG} {w0 : va_W} {a : Nat → Nat} {i : Nat}  {o : (Int32 × SX9)} (X : mX g yX9_tells cX9_tells 3 (some .int) p s m args meth c w0) :
  ∀ (xs : SX9) (l1 : Int32) (H : Heap) (locs : List Loc) (ls : Array Slot), qX9_tells_36 xs l1 = some o → mH g s w0 (wX9 g a i xs) H locs → lv_has ls 3 [(0, .ref (a i)), (1, .int l1)] → W p l e (rM 5 113) s m args below meth c H locs 0 0 (mZ g below args s w0 (wX9 g a i o.2) (some (.int o.1))) (F0 m 36 ls []) := by
  have hx := X.1
  have hb := X.2.1
  intro xs l1 H locs ls h hH hl
  unfold qX9_tells_36 at h
  refine lv_aload_n hx hb dX9_tells_36 rfl (lv_at hl 0 rfl) ?_
  refine lv_iconst (v := (0 : Int32)) hx hb dX9_tells_37 (by decide) ?_
  obtain ⟨xs1, exs1, h⟩ := ltt_x h
  refine f_put X hH (ws1 := (wX9 g a i xs1)) 0 rfl rfl 10 (by decide) inX9 tyX9 tyX9_ok nmX9 fX9_177 rfl rfl rfl (Nat.le_of_ble_eq_true rfl) (by rw [exs1]; rfl) dX9_tells_38 (fun H locs hH => ?_)
  refine lv_iload_n hx hb dX9_tells_41 rfl (lv_at hl 1 rfl) ?_
  have h := Option.some.inj h
  subst h
  exact e_i X hH dX9_tells_42
set_option maxHeartbeats 4000000 in
set_option maxRecDepth 100000 in
theorem uX9_tells {l : Launch} {g : GG} {a : Nat → Nat} {i : Nat} {xs : SX9} {o : (Int32 × SX9)} (h : fX9_tells xs = some o) : mC l g yX9_tells cX9_tells 3 (some .int) (rM 5 113) [.ref (a i)] (wX9 g a i xs) (wX9 g a i o.2) (some (.int o.1)) := by
  refine mC.ofW (by decide) (fun p e s m below meth c X hH ls _ hl => ?_) (Nat.le_of_ble_eq_true rfl)
  have hx := X.1
  have hb := X.2.1
  have hl : lv_has ls 3 [(0, .ref (a i))] := hl
  unfold fX9_tells at h
  suffices HH : ∀ (H : Heap) (locs : List Loc), mH g s (wX9 g a i xs) (wX9 g a i xs) H locs → W p l e (rM 5 113) s m _ below meth c H locs 0 0 (mZ g below _ s (wX9 g a i xs) (wX9 g a i o.2) (some (.int o.1))) (F0 m 0 ls []) from HH _ _ hH
  clear hH
  intro H locs hH
  refine lv_aload_n hx hb dX9_tells_0 rfl (lv_at hl 0 rfl) ?_
  obtain ⟨o1, ho1, h⟩ := bd_x h
  refine r_V X hH (ws1 := (wX9 g a i o1.2)) (As := []) (rest := []) (st1 := [.int o1.1]) (uX9_grammar (a := a) (i := i) ho1) kX9_grammar mX9_207 iX9_grammar vX9_grammar zX9 okX9_grammar ⟨Nat.le_of_ble_eq_true rfl, Nat.le_of_ble_eq_true rfl⟩ rfl rfl (q0 := 0) rfl rfl (pm_all _) (pm_all _) rfl hl.1 rfl (Nat.le_of_ble_eq_true rfl) ⟨Nat.le_refl 0, Nat.le_refl 0⟩ rfl dX9_tells_1 (fun H locs hH => ?_)
  refine s_in X (lv' := [(1, .int o1.1), (0, .ref (a i))]) hl rfl dX9_tells_4 rfl (by decide) rfl (fun ls hl => ?_)
  refine lv_iload_n hx hb dX9_tells_5 rfl (lv_at hl 0 rfl) ?_
  refine lv_if_le (tgt := 36) hx hb dX9_tells_6 (by decide) (fun c1 => ?_) (fun c1 => ?_)
  · have h := it_x h c1
    exact pX9_tells_36 X  o1.2 o1.1 H locs ls h hH (lv_sub hl [1, 0] rfl)
  · have h := ie_x h c1
    refine lv_aload_n hx hb dX9_tells_9 rfl (lv_at hl 1 rfl) ?_
    refine lv_aload_n hx hb dX9_tells_10 rfl (lv_at hl 1 rfl) ?_
    refine f_get X hH 0 rfl rfl 16 (by decide) inX9 fX9_51 rfl dX9_tells_11 ?_
    obtain ⟨o2, ho2, h⟩ := bd_x h
    refine r_V X hH (ws1 := (wX9 g a i o2)) (As := [.ref (a (i + 13))]) (rest := []) (st1 := []) (uX9_keeps_13 (a := a) (i := i) ho2) kX9_keeps mX9_210 iX9_keeps vX9_keeps zX9 okX9_keeps ⟨Nat.le_of_ble_eq_true rfl, Nat.le_of_ble_eq_true rfl⟩ rfl rfl (q0 := 0) rfl rfl (pm_all _) (pm_all _) rfl hl.1 rfl (Nat.le_of_ble_eq_true rfl) ⟨Nat.le_refl 0, Nat.le_refl 0⟩ rfl dX9_tells_14 (fun H locs hH => ?_)
    refine lv_aload_n hx hb dX9_tells_17 rfl (lv_at hl 1 rfl) ?_
    obtain ⟨o3, ho3, h⟩ := bd_x h
    refine r_V X hH (ws1 := (wX9 g a i o3.2)) (As := []) (rest := []) (st1 := [.int o3.1]) (uX9_allDone (a := a) (i := i) ho3) kX9_allDone mX9_214 iX9_allDone vX9_allDone zX9 okX9_allDone ⟨Nat.le_of_ble_eq_true rfl, Nat.le_of_ble_eq_true rfl⟩ rfl rfl (q0 := 0) rfl rfl (pm_all _) (pm_all _) rfl hl.1 rfl (Nat.le_of_ble_eq_true rfl) ⟨Nat.le_refl 0, Nat.le_refl 0⟩ rfl dX9_tells_18 (fun H locs hH => ?_)
    refine s_in X (lv' := [(2, .int o3.1), (1, .int o1.1), (0, .ref (a i))]) hl rfl dX9_tells_21 rfl (by decide) rfl (fun ls hl => ?_)
    refine lv_iload_n hx hb dX9_tells_22 rfl (lv_at hl 0 rfl) ?_
    refine lv_if_ge (tgt := 36) hx hb dX9_tells_23 (by decide) (fun c2 => ?_) (fun c2 => ?_)
    · have h := it_x h c2
      exact pX9_tells_36 X  o3.2 o1.1 H locs ls h hH (lv_sub hl [2, 1] rfl)
    · have h := ie_x h c2
      refine lv_aload_n hx hb dX9_tells_26 rfl (lv_at hl 2 rfl) ?_
      refine lv_aload_n hx hb dX9_tells_27 rfl (lv_at hl 2 rfl) ?_
      refine f_get X hH 0 rfl rfl 16 (by decide) inX9 fX9_51 rfl dX9_tells_28 ?_
      obtain ⟨o4, ho4, h⟩ := bd_x h
      refine r_V X hH (ws1 := (wX9 g a i o4)) (As := [.ref (a (i + 13))]) (rest := []) (st1 := []) (uX9_brings_13 (a := a) (i := i) ho4) kX9_brings mX9_217 iX9_brings vX9_brings zX9 okX9_brings ⟨Nat.le_of_ble_eq_true rfl, Nat.le_of_ble_eq_true rfl⟩ rfl rfl (q0 := 0) rfl rfl (pm_all _) (pm_all _) rfl hl.1 rfl (Nat.le_of_ble_eq_true rfl) ⟨Nat.le_refl 0, Nat.le_refl 0⟩ rfl dX9_tells_31 (fun H locs hH => ?_)
      refine lv_iload_n hx hb dX9_tells_34 rfl (lv_at hl 0 rfl) ?_
      refine s_in X (lv' := [(1, .int o3.1), (2, .int o3.1), (0, .ref (a i))]) hl rfl dX9_tells_35 rfl (by decide) rfl (fun ls hl => ?_)
      exact pX9_tells_36 X  o4 o3.1 H locs ls h hH (lv_sub hl [2, 0] rfl)

def fX9_allThere (xs : SX9) : Option SX9 :=
  ltt ((m_many xs)) fun v1 =>
  ltt ((m_all_s xs v1)) fun xs1 =>
  ltt ((((1 : Int32) <<< ((m_many xs1) &&& 31)) - (1 : Int32))) fun v2 =>
  ltt ((m_there_s xs1 v2)) fun xs2 =>
  some xs2
set_option maxHeartbeats 4000000 in
set_option maxRecDepth 100000 in
theorem uX9_allThere {l : Launch} {g : GG} {a : Nat → Nat} {i : Nat} {xs : SX9} {o : SX9} (h : fX9_allThere xs = some o) : mC l g yX9_allThere cX9_allThere 1 none (rM 0 0) [.ref (a i)] (wX9 g a i xs) (wX9 g a i o) none := by
  refine mC.ofW (by decide) (fun p e s m below meth c X hH ls _ hl => ?_) (Nat.le_of_ble_eq_true rfl)
  have hx := X.1
  have hb := X.2.1
  have hl : lv_has ls 1 [(0, .ref (a i))] := hl
  unfold fX9_allThere at h
  suffices HH : ∀ (H : Heap) (locs : List Loc), mH g s (wX9 g a i xs) (wX9 g a i xs) H locs → W p l e (rM 0 0) s m _ below meth c H locs 0 0 (mZ g below _ s (wX9 g a i xs) (wX9 g a i o) none) (F0 m 0 ls []) from HH _ _ hH
  clear hH
  intro H locs hH
  refine lv_aload_n hx hb dX9_allThere_0 rfl (lv_at hl 0 rfl) ?_
  refine lv_aload_n hx hb dX9_allThere_1 rfl (lv_at hl 0 rfl) ?_
  refine f_get X hH 0 rfl rfl 1 (by decide) inX9 fX9_120 rfl dX9_allThere_2 ?_
  obtain ⟨v1, ev1, h⟩ := ltt_x h
  refine lv_topi (fun y0 e0 => ?_)
  rw [← ev1] at e0
  subst y0
  obtain ⟨xs1, exs1, h⟩ := ltt_x h
  refine f_put X hH (ws1 := (wX9 g a i xs1)) 0 rfl rfl 20 (by decide) inX9 tyX9 tyX9_ok nmX9 fX9_220 rfl rfl rfl (Nat.le_of_ble_eq_true rfl) (by rw [exs1]; rfl) dX9_allThere_5 (fun H locs hH => ?_)
  refine lv_aload_n hx hb dX9_allThere_8 rfl (lv_at hl 0 rfl) ?_
  refine lv_iconst (v := (1 : Int32)) hx hb dX9_allThere_9 (by decide) ?_
  refine lv_aload_n hx hb dX9_allThere_10 rfl (lv_at hl 0 rfl) ?_
  refine f_get X hH 0 rfl rfl 1 (by decide) inX9 fX9_120 rfl dX9_allThere_11 ?_
  refine lv_ishl hx hb dX9_allThere_14 ?_
  refine lv_iconst (v := (1 : Int32)) hx hb dX9_allThere_15 (by decide) ?_
  refine lv_isub hx hb dX9_allThere_16 ?_
  obtain ⟨v2, ev2, h⟩ := ltt_x h
  refine lv_topi (fun y0 e0 => ?_)
  rw [← ev2] at e0
  subst y0
  obtain ⟨xs2, exs2, h⟩ := ltt_x h
  refine f_put X hH (ws1 := (wX9 g a i xs2)) 0 rfl rfl 19 (by decide) inX9 tyX9 tyX9_ok nmX9 fX9_223 rfl rfl rfl (Nat.le_of_ble_eq_true rfl) (by rw [exs2]; rfl) dX9_allThere_17 (fun H locs hH => ?_)
  have h := Option.some.inj h
  subst h
  exact e_v X hH dX9_allThere_20

def qX9_reach_86 (xs : SX9) (pa : Int32) (k15 : Int32 → Int32 → Int32 → Option Int32) (l2 : Int32) (l3 : Int32) (l4 : Int32) : Option Int32 :=
  ltt (l4 + (1 : Int32)) fun v3 =>
  k15 l2 l3 v3
def qX9_reach_64 (xs : SX9) (pa : Int32) (k86 : Int32 → Int32 → Int32 → Option Int32) (l2 : Int32) (l3 : Int32) (l4 : Int32) : Option Int32 :=
  ga 11 l4 fun j2 =>
  ga 11 l4 fun j3 =>
  ltt ((l2 ||| (((1 : Int32) <<< (((m_first xs) j2) &&& 31)) ||| ((1 : Int32) <<< (((m_second xs) j3) &&& 31))))) fun v4 =>
  k86 v4 l3 l4
def qX9_reach_15 (xs : SX9) (pa : Int32) (k6 : Int32 → Int32 → Option Int32) : Nat → Int32 → Int32 → Int32 → Option Int32
  | 0, _, _, _ => none
  | fu + 1, l2, l3, l4 =>
  (if (m_all xs) ≤ l4 then
  ltt (l3 + (1 : Int32)) fun v2 =>
  k6 l2 v2
  else
  (fX9_has (m_there xs) l4).bind fun o1 =>
  (if o1 = (0 : Int32) then
  qX9_reach_86 xs pa (qX9_reach_15 xs pa k6 fu) l2 l3 l4
  else
  ga 11 l4 fun j1 =>
  (fX9_has l2 ((m_first xs) j1)).bind fun o2 =>
  (if o2 = (0 : Int32) then
  ga 11 l4 fun j4 =>
  (fX9_has l2 ((m_second xs) j4)).bind fun o3 =>
  (if o3 = (0 : Int32) then
  qX9_reach_86 xs pa (qX9_reach_15 xs pa k6 fu) l2 l3 l4
  else
  qX9_reach_64 xs pa (qX9_reach_86 xs pa (qX9_reach_15 xs pa k6 fu)) l2 l3 l4)
  else
  qX9_reach_64 xs pa (qX9_reach_86 xs pa (qX9_reach_15 xs pa k6 fu)) l2 l3 l4)))
def qX9_reach_6 (xs : SX9) (pa : Int32)  : Nat → Int32 → Int32 → Option Int32
  | 0, _, _ => none
  | fu + 1, l2, l3 =>
  (if (6 : Int32) ≤ l3 then
  some l2
  else
  qX9_reach_15 xs pa (qX9_reach_6 xs pa  fu) FU l2 l3 (0 : Int32))
def fX9_reach (xs : SX9) (pa : Int32) : Option Int32 :=
  ltt (((1 : Int32) <<< (pa &&& 31))) fun v1 =>
  qX9_reach_6 xs pa FU v1 (0 : Int32)
set_option maxHeartbeats 4000000 in
set_option maxRecDepth 100000 in
theorem pX9_reach_86 {p : Program} {l : Launch} {e : Env} {s : State} {m : MethodId} {args : Array Value} {below : List Frame} {meth : Method} {c : Code} {g : GG} {w0 : va_W} {a : Nat → Nat} {i : Nat} {xs : SX9} {pa : Int32} {o : Int32} (X : mX g yX9_reach cX9_reach 5 (some .int) p s m args meth c w0)
  {k15 : Int32 → Int32 → Int32 → Option Int32} (K15 : ∀ (l2 : Int32) (l3 : Int32) (l4 : Int32) (H : Heap) (locs : List Loc) (ls : Array Slot), k15 l2 l3 l4 = some o → mH g s w0 (wX9 g a i xs) H locs → lv_has ls 5 [(0, .ref (a i)), (1, .int pa), (2, .int l2), (3, .int l3), (4, .int l4)] → W p l e (rM 1 21) s m args below meth c H locs 0 0 (mZ g below args s w0 (wX9 g a i xs) (some (.int o))) (F0 m 15 ls [])) :
  ∀ (l2 : Int32) (l3 : Int32) (l4 : Int32) (H : Heap) (locs : List Loc) (ls : Array Slot), qX9_reach_86 xs pa k15 l2 l3 l4 = some o → mH g s w0 (wX9 g a i xs) H locs → lv_has ls 5 [(0, .ref (a i)), (1, .int pa), (2, .int l2), (3, .int l3), (4, .int l4)] → W p l e (rM 1 21) s m args below meth c H locs 0 0 (mZ g below args s w0 (wX9 g a i xs) (some (.int o))) (F0 m 86 ls []) := by
  have hx := X.1
  have hb := X.2.1
  intro l2 l3 l4 H locs ls h hH hl
  unfold qX9_reach_86 at h
  obtain ⟨v3, ev3, h⟩ := ltt_x h
  refine s_inc X (k := 4) (lv' := [(4, .int v3), (0, .ref (a i)), (1, .int pa), (2, .int l2), (3, .int l3)]) hl rfl (by rw [ev3]; rfl) dX9_reach_86 (by decide) rfl (fun ls hl => ?_)
  refine lv_goto (tgt := 15) hx hb dX9_reach_89 (by decide) ?_
  exact K15 l2 l3 v3 H locs ls h hH (lv_sub hl [1, 2, 3, 4, 0] rfl)
set_option maxHeartbeats 4000000 in
set_option maxRecDepth 100000 in
theorem pX9_reach_64 {p : Program} {l : Launch} {e : Env} {s : State} {m : MethodId} {args : Array Value} {below : List Frame} {meth : Method} {c : Code} {g : GG} {w0 : va_W} {a : Nat → Nat} {i : Nat} {xs : SX9} {pa : Int32} {o : Int32} (X : mX g yX9_reach cX9_reach 5 (some .int) p s m args meth c w0)
  {k86 : Int32 → Int32 → Int32 → Option Int32} (K86 : ∀ (l2 : Int32) (l3 : Int32) (l4 : Int32) (H : Heap) (locs : List Loc) (ls : Array Slot), k86 l2 l3 l4 = some o → mH g s w0 (wX9 g a i xs) H locs → lv_has ls 5 [(0, .ref (a i)), (1, .int pa), (2, .int l2), (3, .int l3), (4, .int l4)] → W p l e (rM 1 21) s m args below meth c H locs 0 0 (mZ g below args s w0 (wX9 g a i xs) (some (.int o))) (F0 m 86 ls [])) :
  ∀ (l2 : Int32) (l3 : Int32) (l4 : Int32) (H : Heap) (locs : List Loc) (ls : Array Slot), qX9_reach_64 xs pa k86 l2 l3 l4 = some o → mH g s w0 (wX9 g a i xs) H locs → lv_has ls 5 [(0, .ref (a i)), (1, .int pa), (2, .int l2), (3, .int l3), (4, .int l4)] → W p l e (rM 1 21) s m args below meth c H locs 0 0 (mZ g below args s w0 (wX9 g a i xs) (some (.int o))) (F0 m 64 ls []) := by
  have hx := X.1
  have hb := X.2.1
  intro l2 l3 l4 H locs ls h hH hl
  unfold qX9_reach_64 at h
  refine lv_iload_n hx hb dX9_reach_64 rfl (lv_at hl 2 rfl) ?_
  refine lv_iconst (v := (1 : Int32)) hx hb dX9_reach_65 (by decide) ?_
  refine lv_aload_n hx hb dX9_reach_66 rfl (lv_at hl 0 rfl) ?_
  refine f_get X hH 0 rfl rfl 2 (by decide) inX9 fX9_13 rfl dX9_reach_67 ?_
  refine lv_iload hx hb dX9_reach_70 (lv_at hl 4 rfl) ?_
  obtain ⟨j2, ej2, hinj2, h⟩ := ga_x h
  refine a_il X hH 1 rfl hinj2 ej2 dX9_reach_72 ?_
  refine lv_ishl hx hb dX9_reach_73 ?_
  refine lv_iconst (v := (1 : Int32)) hx hb dX9_reach_74 (by decide) ?_
  refine lv_aload_n hx hb dX9_reach_75 rfl (lv_at hl 0 rfl) ?_
  refine f_get X hH 0 rfl rfl 3 (by decide) inX9 fX9_17 rfl dX9_reach_76 ?_
  refine lv_iload hx hb dX9_reach_79 (lv_at hl 4 rfl) ?_
  obtain ⟨j3, ej3, hinj3, h⟩ := ga_x h
  refine a_il X hH 2 rfl hinj3 ej3 dX9_reach_81 ?_
  refine lv_ishl hx hb dX9_reach_82 ?_
  refine lv_ior hx hb dX9_reach_83 ?_
  refine lv_ior hx hb dX9_reach_84 ?_
  obtain ⟨v4, ev4, h⟩ := ltt_x h
  refine s_in X (lv' := [(2, .int v4), (0, .ref (a i)), (1, .int pa), (3, .int l3), (4, .int l4)]) hl ev4 dX9_reach_85 rfl (by decide) rfl (fun ls hl => ?_)
  exact K86 v4 l3 l4 H locs ls h hH (lv_sub hl [1, 2, 0, 3, 4] rfl)
set_option maxHeartbeats 4000000 in
set_option maxRecDepth 100000 in
theorem pX9_reach_15 {p : Program} {l : Launch} {e : Env} {s : State} {m : MethodId} {args : Array Value} {below : List Frame} {meth : Method} {c : Code} {g : GG} {w0 : va_W} {a : Nat → Nat} {i : Nat} {xs : SX9} {pa : Int32} {o : Int32} (X : mX g yX9_reach cX9_reach 5 (some .int) p s m args meth c w0)
  {k6 : Int32 → Int32 → Option Int32} (K6 : ∀ (l2 : Int32) (l3 : Int32) (H : Heap) (locs : List Loc) (ls : Array Slot), k6 l2 l3 = some o → mH g s w0 (wX9 g a i xs) H locs → lv_has ls 5 [(0, .ref (a i)), (1, .int pa), (2, .int l2), (3, .int l3)] → W p l e (rM 1 21) s m args below meth c H locs 0 0 (mZ g below args s w0 (wX9 g a i xs) (some (.int o))) (F0 m 6 ls [])) :
  ∀ (fu : Nat) (l2 : Int32) (l3 : Int32) (l4 : Int32) (H : Heap) (locs : List Loc) (ls : Array Slot), qX9_reach_15 xs pa k6 fu l2 l3 l4 = some o → mH g s w0 (wX9 g a i xs) H locs → lv_has ls 5 [(0, .ref (a i)), (1, .int pa), (2, .int l2), (3, .int l3), (4, .int l4)] → W p l e (rM 1 21) s m args below meth c H locs 0 0 (mZ g below args s w0 (wX9 g a i xs) (some (.int o))) (F0 m 15 ls []) := by
  have hx := X.1
  have hb := X.2.1
  intro fu
  induction fu with
  | zero =>
    intro l2 l3 l4 H locs ls h
    unfold qX9_reach_15 at h
    cases h
  | succ fu ih =>
    intro l2 l3 l4 H locs ls h hH hl
    unfold qX9_reach_15 at h
    refine lv_iload hx hb dX9_reach_15 (lv_at hl 4 rfl) ?_
    refine lv_aload_n hx hb dX9_reach_17 rfl (lv_at hl 0 rfl) ?_
    refine f_get X hH 0 rfl rfl 20 (by decide) inX9 fX9_220 rfl dX9_reach_18 ?_
    refine lv_icmp_ge (tgt := 92) hx hb dX9_reach_21 (by decide) (fun c2 => ?_) (fun c2 => ?_)
    · have h := it_x h c2
      obtain ⟨v2, ev2, h⟩ := ltt_x h
      refine s_inc X (k := 3) (lv' := [(3, .int v2), (0, .ref (a i)), (1, .int pa), (2, .int l2), (4, .int l4)]) hl rfl (by rw [ev2]; rfl) dX9_reach_92 (by decide) rfl (fun ls hl => ?_)
      refine lv_goto (tgt := 6) hx hb dX9_reach_95 (by decide) ?_
      exact K6 l2 v2 H locs ls h hH (lv_sub hl [1, 2, 3, 0] rfl)
    · have h := ie_x h c2
      refine lv_aload_n hx hb dX9_reach_24 rfl (lv_at hl 0 rfl) ?_
      refine f_get X hH 0 rfl rfl 19 (by decide) inX9 fX9_223 rfl dX9_reach_25 ?_
      refine lv_iload hx hb dX9_reach_28 (lv_at hl 4 rfl) ?_
      obtain ⟨o1, ho1, h⟩ := bd_x h
      refine r_S X hH (ws1 := (wX9 g a i xs)) (As := [.int (m_there xs), .int l4]) (rest := []) (st1 := [.int o1]) (uX9_has  ho1) kX9_has mX9_226 sX9_has zX9 okX9_has ⟨Nat.le_of_ble_eq_true rfl, Nat.le_of_ble_eq_true rfl⟩ rfl rfl (pm_none _) (pm_none _) rfl hl.1 rfl (Nat.le_of_ble_eq_true rfl) ⟨Nat.le_refl 0, Nat.le_refl 0⟩ rfl dX9_reach_30 (fun H locs hH => ?_)
      refine lv_if_eq (tgt := 86) hx hb dX9_reach_33 (by decide) (fun c3 => ?_) (fun c3 => ?_)
      · have h := it_x h c3
        exact pX9_reach_86 X ih l2 l3 l4 H locs ls h hH (lv_sub hl [0, 1, 2, 3, 4] rfl)
      · have h := ie_x h c3
        refine lv_iload_n hx hb dX9_reach_36 rfl (lv_at hl 2 rfl) ?_
        refine lv_aload_n hx hb dX9_reach_37 rfl (lv_at hl 0 rfl) ?_
        refine f_get X hH 0 rfl rfl 2 (by decide) inX9 fX9_13 rfl dX9_reach_38 ?_
        refine lv_iload hx hb dX9_reach_41 (lv_at hl 4 rfl) ?_
        obtain ⟨j1, ej1, hinj1, h⟩ := ga_x h
        refine a_il X hH 1 rfl hinj1 ej1 dX9_reach_43 ?_
        obtain ⟨o2, ho2, h⟩ := bd_x h
        refine r_S X hH (ws1 := (wX9 g a i xs)) (As := [.int l2, .int ((m_first xs) j1)]) (rest := []) (st1 := [.int o2]) (uX9_has  ho2) kX9_has mX9_226 sX9_has zX9 okX9_has ⟨Nat.le_of_ble_eq_true rfl, Nat.le_of_ble_eq_true rfl⟩ rfl rfl (pm_none _) (pm_none _) rfl hl.1 rfl (Nat.le_of_ble_eq_true rfl) ⟨Nat.le_refl 0, Nat.le_refl 0⟩ rfl dX9_reach_44 (fun H locs hH => ?_)
        refine lv_if_ne (tgt := 64) hx hb dX9_reach_47 (by decide) (fun c4 => ?_) (fun c4 => ?_)
        · have h := ie_x h c4
          exact pX9_reach_64 X (pX9_reach_86 X ih) l2 l3 l4 H locs ls h hH (lv_sub hl [0, 1, 2, 3, 4] rfl)
        · have h := it_x h c4
          refine lv_iload_n hx hb dX9_reach_50 rfl (lv_at hl 2 rfl) ?_
          refine lv_aload_n hx hb dX9_reach_51 rfl (lv_at hl 0 rfl) ?_
          refine f_get X hH 0 rfl rfl 3 (by decide) inX9 fX9_17 rfl dX9_reach_52 ?_
          refine lv_iload hx hb dX9_reach_55 (lv_at hl 4 rfl) ?_
          obtain ⟨j4, ej4, hinj4, h⟩ := ga_x h
          refine a_il X hH 2 rfl hinj4 ej4 dX9_reach_57 ?_
          obtain ⟨o3, ho3, h⟩ := bd_x h
          refine r_S X hH (ws1 := (wX9 g a i xs)) (As := [.int l2, .int ((m_second xs) j4)]) (rest := []) (st1 := [.int o3]) (uX9_has  ho3) kX9_has mX9_226 sX9_has zX9 okX9_has ⟨Nat.le_of_ble_eq_true rfl, Nat.le_of_ble_eq_true rfl⟩ rfl rfl (pm_none _) (pm_none _) rfl hl.1 rfl (Nat.le_of_ble_eq_true rfl) ⟨Nat.le_refl 0, Nat.le_refl 0⟩ rfl dX9_reach_58 (fun H locs hH => ?_)
          refine lv_if_eq (tgt := 86) hx hb dX9_reach_61 (by decide) (fun c5 => ?_) (fun c5 => ?_)
          · have h := it_x h c5
            exact pX9_reach_86 X ih l2 l3 l4 H locs ls h hH (lv_sub hl [0, 1, 2, 3, 4] rfl)
          · have h := ie_x h c5
            exact pX9_reach_64 X (pX9_reach_86 X ih) l2 l3 l4 H locs ls h hH (lv_sub hl [0, 1, 2, 3, 4] rfl)
set_option maxHeartbeats 4000000 in
set_option maxRecDepth 100000 in
theorem pX9_reach_6 {p : Program} {l : Launch} {e : Env} {s : State} {m : MethodId} {args : Array Value} {below : List Frame} {meth : Method} {c : Code} {g : GG} {w0 : va_W} {a : Nat → Nat} {i : Nat} {xs : SX9} {pa : Int32} {o : Int32} (X : mX g yX9_reach cX9_reach 5 (some .int) p s m args meth c w0) :
  ∀ (fu : Nat) (l2 : Int32) (l3 : Int32) (H : Heap) (locs : List Loc) (ls : Array Slot), qX9_reach_6 xs pa fu l2 l3 = some o → mH g s w0 (wX9 g a i xs) H locs → lv_has ls 5 [(0, .ref (a i)), (1, .int pa), (2, .int l2), (3, .int l3)] → W p l e (rM 1 21) s m args below meth c H locs 0 0 (mZ g below args s w0 (wX9 g a i xs) (some (.int o))) (F0 m 6 ls []) := by
  have hx := X.1
  have hb := X.2.1
  intro fu
  induction fu with
  | zero =>
    intro l2 l3 H locs ls h
    unfold qX9_reach_6 at h
    cases h
  | succ fu ih =>
    intro l2 l3 H locs ls h hH hl
    unfold qX9_reach_6 at h
    refine lv_iload_n hx hb dX9_reach_6 rfl (lv_at hl 3 rfl) ?_
    refine lv_bipush (v := (6 : Int32)) hx hb dX9_reach_7 (by decide) ?_
    refine lv_icmp_ge (tgt := 98) hx hb dX9_reach_9 (by decide) (fun c1 => ?_) (fun c1 => ?_)
    · have h := it_x h c1
      refine lv_iload_n hx hb dX9_reach_98 rfl (lv_at hl 2 rfl) ?_
      have h := Option.some.inj h
      subst h
      exact e_i X hH dX9_reach_99
    · have h := ie_x h c1
      refine lv_iconst (v := (0 : Int32)) hx hb dX9_reach_12 (by decide) ?_
      refine s_i X (lv' := [(4, .int (0 : Int32)), (0, .ref (a i)), (1, .int pa), (2, .int l2), (3, .int l3)]) hl rfl dX9_reach_13 (by decide) rfl (fun ls hl => ?_)
      exact pX9_reach_15 X ih FU l2 l3 (0 : Int32) H locs ls h hH (lv_sub hl [1, 2, 3, 4, 0] rfl)
set_option maxHeartbeats 4000000 in
set_option maxRecDepth 100000 in
theorem uX9_reach {l : Launch} {g : GG} {a : Nat → Nat} {i : Nat} {xs : SX9} {pa : Int32} {o : Int32} (h : fX9_reach xs pa = some o) : mC l g yX9_reach cX9_reach 5 (some .int) (rM 1 21) [.ref (a i), .int pa] (wX9 g a i xs) (wX9 g a i xs) (some (.int o)) := by
  refine mC.ofW (by decide) (fun p e s m below meth c X hH ls _ hl => ?_) (Nat.le_of_ble_eq_true rfl)
  have hx := X.1
  have hb := X.2.1
  have hl : lv_has ls 5 [(0, .ref (a i)), (1, .int pa)] := hl
  unfold fX9_reach at h
  suffices HH : ∀ (H : Heap) (locs : List Loc), mH g s (wX9 g a i xs) (wX9 g a i xs) H locs → W p l e (rM 1 21) s m _ below meth c H locs 0 0 (mZ g below _ s (wX9 g a i xs) (wX9 g a i xs) (some (.int o))) (F0 m 0 ls []) from HH _ _ hH
  clear hH
  intro H locs hH
  refine lv_iconst (v := (1 : Int32)) hx hb dX9_reach_0 (by decide) ?_
  refine lv_iload_n hx hb dX9_reach_1 rfl (lv_at hl 1 rfl) ?_
  refine lv_ishl hx hb dX9_reach_2 ?_
  obtain ⟨v1, ev1, h⟩ := ltt_x h
  refine s_in X (lv' := [(2, .int v1), (0, .ref (a i)), (1, .int pa)]) hl ev1 dX9_reach_3 rfl (by decide) rfl (fun ls hl => ?_)
  refine lv_iconst (v := (0 : Int32)) hx hb dX9_reach_4 (by decide) ?_
  refine s_in X (lv' := [(3, .int (0 : Int32)), (2, .int v1), (0, .ref (a i)), (1, .int pa)]) hl rfl dX9_reach_5 rfl (by decide) rfl (fun ls hl => ?_)
  exact pX9_reach_6 X FU v1 (0 : Int32) H locs ls h hH (lv_sub hl [2, 3, 1, 0] rfl)

def fX9_reaches (xs : SX9) (pa : Int32) : Option (Int32 × SX9) :=
  (fX9_isPoint xs pa).bind fun o1 =>
  (if o1 = (0 : Int32) then
  (fX9_no xs (-1 : Int32)).bind fun o4 =>
  some (o4.1, o4.2)
  else
  (fX9_allThere xs).bind fun o2 =>
  (fX9_reach o2 pa).bind fun o3 =>
  some (o3, o2))
set_option maxHeartbeats 4000000 in
set_option maxRecDepth 100000 in
theorem uX9_reaches {l : Launch} {g : GG} {a : Nat → Nat} {i : Nat} {xs : SX9} {pa : Int32} {o : (Int32 × SX9)} (h : fX9_reaches xs pa = some o) : mC l g yX9_reaches cX9_reaches 2 (some .int) (rM 2 46) [.ref (a i), .int pa] (wX9 g a i xs) (wX9 g a i o.2) (some (.int o.1)) := by
  refine mC.ofW (by decide) (fun p e s m below meth c X hH ls _ hl => ?_) (Nat.le_of_ble_eq_true rfl)
  have hx := X.1
  have hb := X.2.1
  have hl : lv_has ls 2 [(0, .ref (a i)), (1, .int pa)] := hl
  unfold fX9_reaches at h
  suffices HH : ∀ (H : Heap) (locs : List Loc), mH g s (wX9 g a i xs) (wX9 g a i xs) H locs → W p l e (rM 2 46) s m _ below meth c H locs 0 0 (mZ g below _ s (wX9 g a i xs) (wX9 g a i o.2) (some (.int o.1))) (F0 m 0 ls []) from HH _ _ hH
  clear hH
  intro H locs hH
  refine lv_aload_n hx hb dX9_reaches_0 rfl (lv_at hl 0 rfl) ?_
  refine lv_iload_n hx hb dX9_reaches_1 rfl (lv_at hl 1 rfl) ?_
  obtain ⟨o1, ho1, h⟩ := bd_x h
  refine r_V X hH (ws1 := (wX9 g a i xs)) (As := [.int pa]) (rest := []) (st1 := [.int o1]) (uX9_isPoint (a := a) (i := i) ho1) kX9_isPoint mX9_141 iX9_isPoint vX9_isPoint zX9 okX9_isPoint ⟨Nat.le_of_ble_eq_true rfl, Nat.le_of_ble_eq_true rfl⟩ rfl rfl (q0 := 0) rfl rfl (pm_all _) (pm_all _) rfl hl.1 rfl (Nat.le_of_ble_eq_true rfl) ⟨Nat.le_refl 0, Nat.le_refl 0⟩ rfl dX9_reaches_2 (fun H locs hH => ?_)
  refine lv_if_ne (tgt := 14) hx hb dX9_reaches_5 (by decide) (fun c1 => ?_) (fun c1 => ?_)
  · have h := ie_x h c1
    refine lv_aload_n hx hb dX9_reaches_14 rfl (lv_at hl 0 rfl) ?_
    obtain ⟨o2, ho2, h⟩ := bd_x h
    refine r_V X hH (ws1 := (wX9 g a i o2)) (As := []) (rest := []) (st1 := []) (uX9_allThere (a := a) (i := i) ho2) kX9_allThere mX9_230 iX9_allThere vX9_allThere zX9 okX9_allThere ⟨Nat.le_of_ble_eq_true rfl, Nat.le_of_ble_eq_true rfl⟩ rfl rfl (q0 := 0) rfl rfl (pm_all _) (pm_all _) rfl hl.1 rfl (Nat.le_of_ble_eq_true rfl) ⟨Nat.le_refl 0, Nat.le_refl 0⟩ rfl dX9_reaches_15 (fun H locs hH => ?_)
    refine lv_aload_n hx hb dX9_reaches_18 rfl (lv_at hl 0 rfl) ?_
    refine lv_iload_n hx hb dX9_reaches_19 rfl (lv_at hl 1 rfl) ?_
    obtain ⟨o3, ho3, h⟩ := bd_x h
    refine r_V X hH (ws1 := (wX9 g a i o2)) (As := [.int pa]) (rest := []) (st1 := [.int o3]) (uX9_reach (a := a) (i := i) ho3) kX9_reach mX9_233 iX9_reach vX9_reach zX9 okX9_reach ⟨Nat.le_of_ble_eq_true rfl, Nat.le_of_ble_eq_true rfl⟩ rfl rfl (q0 := 0) rfl rfl (pm_all _) (pm_all _) rfl hl.1 rfl (Nat.le_of_ble_eq_true rfl) ⟨Nat.le_refl 0, Nat.le_refl 0⟩ rfl dX9_reaches_20 (fun H locs hH => ?_)
    have h := Option.some.inj h
    subst h
    exact e_i X hH dX9_reaches_23
  · have h := it_x h c1
    refine lv_aload_n hx hb dX9_reaches_8 rfl (lv_at hl 0 rfl) ?_
    refine lv_iconst (v := (-1 : Int32)) hx hb dX9_reaches_9 (by decide) ?_
    obtain ⟨o4, ho4, h⟩ := bd_x h
    refine r_V X hH (ws1 := (wX9 g a i o4.2)) (As := [.int (-1 : Int32)]) (rest := []) (st1 := [.int o4.1]) (uX9_no (a := a) (i := i) ho4) kX9_no mX9_125 iX9_no vX9_no zX9 okX9_no ⟨Nat.le_of_ble_eq_true rfl, Nat.le_of_ble_eq_true rfl⟩ rfl rfl (q0 := 0) rfl rfl (pm_all _) (pm_all _) rfl hl.1 rfl (Nat.le_of_ble_eq_true rfl) ⟨Nat.le_refl 0, Nat.le_refl 0⟩ rfl dX9_reaches_10 (fun H locs hH => ?_)
    have h := Option.some.inj h
    subst h
    exact e_i X hH dX9_reaches_13

def qX9_bits_4 (pa : Int32)  : Nat → Int32 → Int32 → Option Int32
  | 0, _, _ => none
  | fu + 1, l1, l2 =>
  (if l2 = (0 : Int32) then
  some l1
  else
  ltt (l1 + (1 : Int32)) fun v1 =>
  ltt ((l2 &&& (l2 - (1 : Int32)))) fun v2 =>
  qX9_bits_4 pa  fu v1 v2)
def fX9_bits (pa : Int32) : Option Int32 :=
  qX9_bits_4 pa FU (0 : Int32) pa
set_option maxHeartbeats 4000000 in
set_option maxRecDepth 100000 in
theorem pX9_bits_4 {p : Program} {l : Launch} {e : Env} {s : State} {m : MethodId} {args : Array Value} {below : List Frame} {meth : Method} {c : Code} {g : GG} {w0 : va_W}  {pa : Int32} {o : Int32} (X : mX g yX9_bits cX9_bits 3 (some .int) p s m args meth c w0) :
  ∀ (fu : Nat) (l1 : Int32) (l2 : Int32) (H : Heap) (locs : List Loc) (ls : Array Slot), qX9_bits_4 pa fu l1 l2 = some o → mH g s w0 [] H locs → lv_has ls 3 [(0, .int pa), (1, .int l1), (2, .int l2)] → W p l e (rM 0 0) s m args below meth c H locs 0 0 (mZ g below args s w0 [] (some (.int o))) (F0 m 4 ls []) := by
  have hx := X.1
  have hb := X.2.1
  intro fu
  induction fu with
  | zero =>
    intro l1 l2 H locs ls h
    unfold qX9_bits_4 at h
    cases h
  | succ fu ih =>
    intro l1 l2 H locs ls h hH hl
    unfold qX9_bits_4 at h
    refine lv_iload_n hx hb dX9_bits_4 rfl (lv_at hl 2 rfl) ?_
    refine lv_if_eq (tgt := 20) hx hb dX9_bits_5 (by decide) (fun c1 => ?_) (fun c1 => ?_)
    · have h := it_x h c1
      refine lv_iload_n hx hb dX9_bits_20 rfl (lv_at hl 1 rfl) ?_
      have h := Option.some.inj h
      subst h
      exact e_i X hH dX9_bits_21
    · have h := ie_x h c1
      obtain ⟨v1, ev1, h⟩ := ltt_x h
      refine s_inc X (k := 1) (lv' := [(1, .int v1), (0, .int pa), (2, .int l2)]) hl rfl (by rw [ev1]; rfl) dX9_bits_8 (by decide) rfl (fun ls hl => ?_)
      refine lv_iload_n hx hb dX9_bits_11 rfl (lv_at hl 2 rfl) ?_
      refine lv_iload_n hx hb dX9_bits_12 rfl (lv_at hl 2 rfl) ?_
      refine lv_iconst (v := (1 : Int32)) hx hb dX9_bits_13 (by decide) ?_
      refine lv_isub hx hb dX9_bits_14 ?_
      refine lv_iand hx hb dX9_bits_15 ?_
      obtain ⟨v2, ev2, h⟩ := ltt_x h
      refine s_in X (lv' := [(2, .int v2), (1, .int v1), (0, .int pa)]) hl ev2 dX9_bits_16 rfl (by decide) rfl (fun ls hl => ?_)
      refine lv_goto (tgt := 4) hx hb dX9_bits_17 (by decide) ?_
      exact ih v1 v2 H locs ls h hH (lv_sub hl [2, 1, 0] rfl)
set_option maxHeartbeats 4000000 in
set_option maxRecDepth 100000 in
theorem uX9_bits {l : Launch} {g : GG}  {pa : Int32} {o : Int32} (h : fX9_bits pa = some o) : mC l g yX9_bits cX9_bits 3 (some .int) (rM 0 0) [.int pa] [] [] (some (.int o)) := by
  refine mC.ofW (by decide) (fun p e s m below meth c X hH ls _ hl => ?_) (Nat.le_of_ble_eq_true rfl)
  have hx := X.1
  have hb := X.2.1
  have hl : lv_has ls 3 [(0, .int pa)] := hl
  unfold fX9_bits at h
  suffices HH : ∀ (H : Heap) (locs : List Loc), mH g s [] [] H locs → W p l e (rM 0 0) s m _ below meth c H locs 0 0 (mZ g below _ s [] [] (some (.int o))) (F0 m 0 ls []) from HH _ _ hH
  clear hH
  intro H locs hH
  refine lv_iconst (v := (0 : Int32)) hx hb dX9_bits_0 (by decide) ?_
  refine s_in X (lv' := [(1, .int (0 : Int32)), (0, .int pa)]) hl rfl dX9_bits_1 rfl (by decide) rfl (fun ls hl => ?_)
  refine lv_iload_n hx hb dX9_bits_2 rfl (lv_at hl 1 rfl) ?_
  refine s_in X (lv' := [(2, .int pa), (1, .int (0 : Int32)), (0, .int pa)]) hl rfl dX9_bits_3 rfl (by decide) rfl (fun ls hl => ?_)
  exact pX9_bits_4 X FU (0 : Int32) pa H locs ls h hH (lv_sub hl [2, 1, 0] rfl)

def qX9_weightsAt_52 (xs : SX9) (pa : Int32) (k53 : Int32 → Int32 → Int32 → Option Int32) (l3 : Int32) (t0 : Int32) : Option Int32 :=
  k53 l3 t0 (0 : Int32)
def qX9_weightsAt_53 (xs : SX9) (pa : Int32) (k4 : Int32 → Int32 → Option Int32) (l3 : Int32) (t0 : Int32) (t1 : Int32) : Option Int32 :=
  ltt ((t0 + t1)) fun v1 =>
  ltt (l3 + (1 : Int32)) fun v2 =>
  k4 v1 v2
def qX9_weightsAt_44 (xs : SX9) (pa : Int32) (k53 : Int32 → Int32 → Int32 → Option Int32) (l3 : Int32) (t0 : Int32) : Option Int32 :=
  (fX9_weight xs l3).bind fun o2 =>
  k53 l3 t0 o2
def qX9_weightsAt_4 (xs : SX9) (pa : Int32)  : Nat → Int32 → Int32 → Option Int32
  | 0, _, _ => none
  | fu + 1, l2, l3 =>
  (if (m_all xs) ≤ l3 then
  some l2
  else
  (fX9_has (m_there xs) l3).bind fun o1 =>
  (if o1 = (0 : Int32) then
  qX9_weightsAt_52 xs pa (qX9_weightsAt_53 xs pa (qX9_weightsAt_4 xs pa  fu)) l3 l2
  else
  ga 11 l3 fun j1 =>
  (if ((m_first xs) j1) = pa then
  qX9_weightsAt_44 xs pa (qX9_weightsAt_53 xs pa (qX9_weightsAt_4 xs pa  fu)) l3 l2
  else
  ga 11 l3 fun j2 =>
  (if ((m_second xs) j2) = pa then
  qX9_weightsAt_44 xs pa (qX9_weightsAt_53 xs pa (qX9_weightsAt_4 xs pa  fu)) l3 l2
  else
  qX9_weightsAt_52 xs pa (qX9_weightsAt_53 xs pa (qX9_weightsAt_4 xs pa  fu)) l3 l2))))
def fX9_weightsAt (xs : SX9) (pa : Int32) : Option Int32 :=
  qX9_weightsAt_4 xs pa FU (0 : Int32) (0 : Int32)
set_option maxHeartbeats 4000000 in
set_option maxRecDepth 100000 in
theorem pX9_weightsAt_52 {p : Program} {l : Launch} {e : Env} {s : State} {m : MethodId} {args : Array Value} {below : List Frame} {meth : Method} {c : Code} {g : GG} {w0 : va_W} {a : Nat → Nat} {i : Nat} {xs : SX9} {pa : Int32} {o : Int32} (X : mX g yX9_weightsAt cX9_weightsAt 4 (some .int) p s m args meth c w0)
  {k53 : Int32 → Int32 → Int32 → Option Int32} (K53 : ∀ (l3 : Int32) (t0 : Int32) (t1 : Int32) (H : Heap) (locs : List Loc) (ls : Array Slot), k53 l3 t0 t1 = some o → mH g s w0 (wX9 g a i xs) H locs → lv_has ls 4 [(0, .ref (a i)), (1, .int pa), (3, .int l3)] → W p l e (rM 2 43) s m args below meth c H locs 0 0 (mZ g below args s w0 (wX9 g a i xs) (some (.int o))) (F0 m 53 ls [.int t1, .int t0])) :
  ∀ (l3 : Int32) (t0 : Int32) (H : Heap) (locs : List Loc) (ls : Array Slot), qX9_weightsAt_52 xs pa k53 l3 t0 = some o → mH g s w0 (wX9 g a i xs) H locs → lv_has ls 4 [(0, .ref (a i)), (1, .int pa), (3, .int l3)] → W p l e (rM 2 43) s m args below meth c H locs 0 0 (mZ g below args s w0 (wX9 g a i xs) (some (.int o))) (F0 m 52 ls [.int t0]) := by
  have hx := X.1
  have hb := X.2.1
  intro l3 t0 H locs ls h hH hl
  unfold qX9_weightsAt_52 at h
  refine lv_iconst (v := (0 : Int32)) hx hb dX9_weightsAt_52 (by decide) ?_
  exact K53 l3 t0 (0 : Int32) H locs ls h hH (lv_sub hl [0, 1, 2] rfl)
set_option maxHeartbeats 4000000 in
set_option maxRecDepth 100000 in
theorem pX9_weightsAt_53 {p : Program} {l : Launch} {e : Env} {s : State} {m : MethodId} {args : Array Value} {below : List Frame} {meth : Method} {c : Code} {g : GG} {w0 : va_W} {a : Nat → Nat} {i : Nat} {xs : SX9} {pa : Int32} {o : Int32} (X : mX g yX9_weightsAt cX9_weightsAt 4 (some .int) p s m args meth c w0)
  {k4 : Int32 → Int32 → Option Int32} (K4 : ∀ (l2 : Int32) (l3 : Int32) (H : Heap) (locs : List Loc) (ls : Array Slot), k4 l2 l3 = some o → mH g s w0 (wX9 g a i xs) H locs → lv_has ls 4 [(0, .ref (a i)), (1, .int pa), (2, .int l2), (3, .int l3)] → W p l e (rM 2 43) s m args below meth c H locs 0 0 (mZ g below args s w0 (wX9 g a i xs) (some (.int o))) (F0 m 4 ls [])) :
  ∀ (l3 : Int32) (t0 : Int32) (t1 : Int32) (H : Heap) (locs : List Loc) (ls : Array Slot), qX9_weightsAt_53 xs pa k4 l3 t0 t1 = some o → mH g s w0 (wX9 g a i xs) H locs → lv_has ls 4 [(0, .ref (a i)), (1, .int pa), (3, .int l3)] → W p l e (rM 2 43) s m args below meth c H locs 0 0 (mZ g below args s w0 (wX9 g a i xs) (some (.int o))) (F0 m 53 ls [.int t1, .int t0]) := by
  have hx := X.1
  have hb := X.2.1
  intro l3 t0 t1 H locs ls h hH hl
  unfold qX9_weightsAt_53 at h
  refine lv_iadd hx hb dX9_weightsAt_53 ?_
  obtain ⟨v1, ev1, h⟩ := ltt_x h
  refine s_in X (lv' := [(2, .int v1), (0, .ref (a i)), (1, .int pa), (3, .int l3)]) hl ev1 dX9_weightsAt_54 rfl (by decide) rfl (fun ls hl => ?_)
  obtain ⟨v2, ev2, h⟩ := ltt_x h
  refine s_inc X (k := 3) (lv' := [(3, .int v2), (2, .int v1), (0, .ref (a i)), (1, .int pa)]) hl rfl (by rw [ev2]; rfl) dX9_weightsAt_55 (by decide) rfl (fun ls hl => ?_)
  refine lv_goto (tgt := 4) hx hb dX9_weightsAt_58 (by decide) ?_
  exact K4 v1 v2 H locs ls h hH (lv_sub hl [2, 3, 1, 0] rfl)
set_option maxHeartbeats 4000000 in
set_option maxRecDepth 100000 in
theorem pX9_weightsAt_44 {p : Program} {l : Launch} {e : Env} {s : State} {m : MethodId} {args : Array Value} {below : List Frame} {meth : Method} {c : Code} {g : GG} {w0 : va_W} {a : Nat → Nat} {i : Nat} {xs : SX9} {pa : Int32} {o : Int32} (X : mX g yX9_weightsAt cX9_weightsAt 4 (some .int) p s m args meth c w0)
  {k53 : Int32 → Int32 → Int32 → Option Int32} (K53 : ∀ (l3 : Int32) (t0 : Int32) (t1 : Int32) (H : Heap) (locs : List Loc) (ls : Array Slot), k53 l3 t0 t1 = some o → mH g s w0 (wX9 g a i xs) H locs → lv_has ls 4 [(0, .ref (a i)), (1, .int pa), (3, .int l3)] → W p l e (rM 2 43) s m args below meth c H locs 0 0 (mZ g below args s w0 (wX9 g a i xs) (some (.int o))) (F0 m 53 ls [.int t1, .int t0])) :
  ∀ (l3 : Int32) (t0 : Int32) (H : Heap) (locs : List Loc) (ls : Array Slot), qX9_weightsAt_44 xs pa k53 l3 t0 = some o → mH g s w0 (wX9 g a i xs) H locs → lv_has ls 4 [(0, .ref (a i)), (1, .int pa), (3, .int l3)] → W p l e (rM 2 43) s m args below meth c H locs 0 0 (mZ g below args s w0 (wX9 g a i xs) (some (.int o))) (F0 m 44 ls [.int t0]) := by
  have hx := X.1
  have hb := X.2.1
  intro l3 t0 H locs ls h hH hl
  unfold qX9_weightsAt_44 at h
  refine lv_aload_n hx hb dX9_weightsAt_44 rfl (lv_at hl 0 rfl) ?_
  refine lv_iload_n hx hb dX9_weightsAt_45 rfl (lv_at hl 2 rfl) ?_
  obtain ⟨o2, ho2, h⟩ := bd_x h
  refine r_V X hH (ws1 := (wX9 g a i xs)) (As := [.int l3]) (rest := [.int t0]) (st1 := [.int o2, .int t0]) (uX9_weight (a := a) (i := i) ho2) kX9_weight mX9_171 iX9_weight vX9_weight zX9 okX9_weight ⟨Nat.le_of_ble_eq_true rfl, Nat.le_of_ble_eq_true rfl⟩ rfl rfl (q0 := 0) rfl rfl (pm_all _) (pm_all _) rfl hl.1 rfl (Nat.le_of_ble_eq_true rfl) ⟨Nat.le_refl 0, Nat.le_refl 0⟩ rfl dX9_weightsAt_46 (fun H locs hH => ?_)
  refine lv_goto (tgt := 53) hx hb dX9_weightsAt_49 (by decide) ?_
  exact K53 l3 t0 o2 H locs ls h hH (lv_sub hl [0, 1, 2] rfl)
set_option maxHeartbeats 4000000 in
set_option maxRecDepth 100000 in
theorem pX9_weightsAt_4 {p : Program} {l : Launch} {e : Env} {s : State} {m : MethodId} {args : Array Value} {below : List Frame} {meth : Method} {c : Code} {g : GG} {w0 : va_W} {a : Nat → Nat} {i : Nat} {xs : SX9} {pa : Int32} {o : Int32} (X : mX g yX9_weightsAt cX9_weightsAt 4 (some .int) p s m args meth c w0) :
  ∀ (fu : Nat) (l2 : Int32) (l3 : Int32) (H : Heap) (locs : List Loc) (ls : Array Slot), qX9_weightsAt_4 xs pa fu l2 l3 = some o → mH g s w0 (wX9 g a i xs) H locs → lv_has ls 4 [(0, .ref (a i)), (1, .int pa), (2, .int l2), (3, .int l3)] → W p l e (rM 2 43) s m args below meth c H locs 0 0 (mZ g below args s w0 (wX9 g a i xs) (some (.int o))) (F0 m 4 ls []) := by
  have hx := X.1
  have hb := X.2.1
  intro fu
  induction fu with
  | zero =>
    intro l2 l3 H locs ls h
    unfold qX9_weightsAt_4 at h
    cases h
  | succ fu ih =>
    intro l2 l3 H locs ls h hH hl
    unfold qX9_weightsAt_4 at h
    refine lv_iload_n hx hb dX9_weightsAt_4 rfl (lv_at hl 3 rfl) ?_
    refine lv_aload_n hx hb dX9_weightsAt_5 rfl (lv_at hl 0 rfl) ?_
    refine f_get X hH 0 rfl rfl 20 (by decide) inX9 fX9_220 rfl dX9_weightsAt_6 ?_
    refine lv_icmp_ge (tgt := 61) hx hb dX9_weightsAt_9 (by decide) (fun c1 => ?_) (fun c1 => ?_)
    · have h := it_x h c1
      refine lv_iload_n hx hb dX9_weightsAt_61 rfl (lv_at hl 2 rfl) ?_
      have h := Option.some.inj h
      subst h
      exact e_i X hH dX9_weightsAt_62
    · have h := ie_x h c1
      refine lv_iload_n hx hb dX9_weightsAt_12 rfl (lv_at hl 2 rfl) ?_
      refine lv_aload_n hx hb dX9_weightsAt_13 rfl (lv_at hl 0 rfl) ?_
      refine f_get X hH 0 rfl rfl 19 (by decide) inX9 fX9_223 rfl dX9_weightsAt_14 ?_
      refine lv_iload_n hx hb dX9_weightsAt_17 rfl (lv_at hl 3 rfl) ?_
      obtain ⟨o1, ho1, h⟩ := bd_x h
      refine r_S X hH (ws1 := (wX9 g a i xs)) (As := [.int (m_there xs), .int l3]) (rest := [.int l2]) (st1 := [.int o1, .int l2]) (uX9_has  ho1) kX9_has mX9_226 sX9_has zX9 okX9_has ⟨Nat.le_of_ble_eq_true rfl, Nat.le_of_ble_eq_true rfl⟩ rfl rfl (pm_none _) (pm_none _) rfl hl.1 rfl (Nat.le_of_ble_eq_true rfl) ⟨Nat.le_refl 0, Nat.le_refl 0⟩ rfl dX9_weightsAt_18 (fun H locs hH => ?_)
      refine lv_if_eq (tgt := 52) hx hb dX9_weightsAt_21 (by decide) (fun c2 => ?_) (fun c2 => ?_)
      · have h := it_x h c2
        exact pX9_weightsAt_52 X (pX9_weightsAt_53 X ih) l3 l2 H locs ls h hH (lv_sub hl [0, 1, 3] rfl)
      · have h := ie_x h c2
        refine lv_aload_n hx hb dX9_weightsAt_24 rfl (lv_at hl 0 rfl) ?_
        refine f_get X hH 0 rfl rfl 2 (by decide) inX9 fX9_13 rfl dX9_weightsAt_25 ?_
        refine lv_iload_n hx hb dX9_weightsAt_28 rfl (lv_at hl 3 rfl) ?_
        obtain ⟨j1, ej1, hinj1, h⟩ := ga_x h
        refine a_il X hH 1 rfl hinj1 ej1 dX9_weightsAt_29 ?_
        refine lv_iload_n hx hb dX9_weightsAt_30 rfl (lv_at hl 1 rfl) ?_
        refine lv_icmp_eq (tgt := 44) hx hb dX9_weightsAt_31 (by decide) (fun c3 => ?_) (fun c3 => ?_)
        · have h := it_x h c3
          exact pX9_weightsAt_44 X (pX9_weightsAt_53 X ih) l3 l2 H locs ls h hH (lv_sub hl [0, 1, 3] rfl)
        · have h := ie_x h c3
          refine lv_aload_n hx hb dX9_weightsAt_34 rfl (lv_at hl 0 rfl) ?_
          refine f_get X hH 0 rfl rfl 3 (by decide) inX9 fX9_17 rfl dX9_weightsAt_35 ?_
          refine lv_iload_n hx hb dX9_weightsAt_38 rfl (lv_at hl 3 rfl) ?_
          obtain ⟨j2, ej2, hinj2, h⟩ := ga_x h
          refine a_il X hH 2 rfl hinj2 ej2 dX9_weightsAt_39 ?_
          refine lv_iload_n hx hb dX9_weightsAt_40 rfl (lv_at hl 1 rfl) ?_
          refine lv_icmp_ne (tgt := 52) hx hb dX9_weightsAt_41 (by decide) (fun c4 => ?_) (fun c4 => ?_)
          · have h := ie_x h c4
            exact pX9_weightsAt_52 X (pX9_weightsAt_53 X ih) l3 l2 H locs ls h hH (lv_sub hl [0, 1, 3] rfl)
          · have h := it_x h c4
            exact pX9_weightsAt_44 X (pX9_weightsAt_53 X ih) l3 l2 H locs ls h hH (lv_sub hl [0, 1, 3] rfl)
set_option maxHeartbeats 4000000 in
set_option maxRecDepth 100000 in
theorem uX9_weightsAt {l : Launch} {g : GG} {a : Nat → Nat} {i : Nat} {xs : SX9} {pa : Int32} {o : Int32} (h : fX9_weightsAt xs pa = some o) : mC l g yX9_weightsAt cX9_weightsAt 4 (some .int) (rM 2 43) [.ref (a i), .int pa] (wX9 g a i xs) (wX9 g a i xs) (some (.int o)) := by
  refine mC.ofW (by decide) (fun p e s m below meth c X hH ls _ hl => ?_) (Nat.le_of_ble_eq_true rfl)
  have hx := X.1
  have hb := X.2.1
  have hl : lv_has ls 4 [(0, .ref (a i)), (1, .int pa)] := hl
  unfold fX9_weightsAt at h
  suffices HH : ∀ (H : Heap) (locs : List Loc), mH g s (wX9 g a i xs) (wX9 g a i xs) H locs → W p l e (rM 2 43) s m _ below meth c H locs 0 0 (mZ g below _ s (wX9 g a i xs) (wX9 g a i xs) (some (.int o))) (F0 m 0 ls []) from HH _ _ hH
  clear hH
  intro H locs hH
  refine lv_iconst (v := (0 : Int32)) hx hb dX9_weightsAt_0 (by decide) ?_
  refine s_in X (lv' := [(2, .int (0 : Int32)), (0, .ref (a i)), (1, .int pa)]) hl rfl dX9_weightsAt_1 rfl (by decide) rfl (fun ls hl => ?_)
  refine lv_iconst (v := (0 : Int32)) hx hb dX9_weightsAt_2 (by decide) ?_
  refine s_in X (lv' := [(3, .int (0 : Int32)), (2, .int (0 : Int32)), (0, .ref (a i)), (1, .int pa)]) hl rfl dX9_weightsAt_3 rfl (by decide) rfl (fun ls hl => ?_)
  exact pX9_weightsAt_4 X FU (0 : Int32) (0 : Int32) H locs ls h hH (lv_sub hl [2, 3, 1, 0] rfl)

def qX9_between_80 (xs : SX9) (pa : Int32) (pb : Int32) (k81 : Int32 → Int32 → Int32 → Option Int32) (l4 : Int32) (t0 : Int32) : Option Int32 :=
  k81 l4 t0 (0 : Int32)
def qX9_between_81 (xs : SX9) (pa : Int32) (pb : Int32) (k5 : Int32 → Int32 → Option Int32) (l4 : Int32) (t0 : Int32) (t1 : Int32) : Option Int32 :=
  ltt ((t0 + t1)) fun v1 =>
  ltt (l4 + (1 : Int32)) fun v2 =>
  k5 v1 v2
def qX9_between_49 (xs : SX9) (pa : Int32) (pb : Int32) (k71 : Int32 → Int32 → Option Int32) (k80 : Int32 → Int32 → Option Int32) (l4 : Int32) (t0 : Int32) : Option Int32 :=
  ga 11 l4 fun j2 =>
  (if ((m_first xs) j2) = pb then
  ga 11 l4 fun j3 =>
  (if ((m_second xs) j3) = pa then
  k71 l4 t0
  else
  k80 l4 t0)
  else
  k80 l4 t0)
def qX9_between_71 (xs : SX9) (pa : Int32) (pb : Int32) (k81 : Int32 → Int32 → Int32 → Option Int32) (l4 : Int32) (t0 : Int32) : Option Int32 :=
  (fX9_weight xs l4).bind fun o2 =>
  k81 l4 t0 o2
def qX9_between_5 (xs : SX9) (pa : Int32) (pb : Int32)  : Nat → Int32 → Int32 → Option Int32
  | 0, _, _ => none
  | fu + 1, l3, l4 =>
  (if (m_all xs) ≤ l4 then
  some l3
  else
  (fX9_has (m_there xs) l4).bind fun o1 =>
  (if o1 = (0 : Int32) then
  qX9_between_80 xs pa pb (qX9_between_81 xs pa pb (qX9_between_5 xs pa pb  fu)) l4 l3
  else
  ga 11 l4 fun j1 =>
  (if ((m_first xs) j1) = pa then
  ga 11 l4 fun j4 =>
  (if ((m_second xs) j4) = pb then
  qX9_between_71 xs pa pb (qX9_between_81 xs pa pb (qX9_between_5 xs pa pb  fu)) l4 l3
  else
  qX9_between_49 xs pa pb (qX9_between_71 xs pa pb (qX9_between_81 xs pa pb (qX9_between_5 xs pa pb  fu))) (qX9_between_80 xs pa pb (qX9_between_81 xs pa pb (qX9_between_5 xs pa pb  fu))) l4 l3)
  else
  qX9_between_49 xs pa pb (qX9_between_71 xs pa pb (qX9_between_81 xs pa pb (qX9_between_5 xs pa pb  fu))) (qX9_between_80 xs pa pb (qX9_between_81 xs pa pb (qX9_between_5 xs pa pb  fu))) l4 l3)))
def fX9_between (xs : SX9) (pa : Int32) (pb : Int32) : Option Int32 :=
  qX9_between_5 xs pa pb FU (0 : Int32) (0 : Int32)
set_option maxHeartbeats 4000000 in
set_option maxRecDepth 100000 in
theorem pX9_between_80 {p : Program} {l : Launch} {e : Env} {s : State} {m : MethodId} {args : Array Value} {below : List Frame} {meth : Method} {c : Code} {g : GG} {w0 : va_W} {a : Nat → Nat} {i : Nat} {xs : SX9} {pa : Int32} {pb : Int32} {o : Int32} (X : mX g yX9_between cX9_between 5 (some .int) p s m args meth c w0)
  {k81 : Int32 → Int32 → Int32 → Option Int32} (K81 : ∀ (l4 : Int32) (t0 : Int32) (t1 : Int32) (H : Heap) (locs : List Loc) (ls : Array Slot), k81 l4 t0 t1 = some o → mH g s w0 (wX9 g a i xs) H locs → lv_has ls 5 [(0, .ref (a i)), (1, .int pa), (2, .int pb), (4, .int l4)] → W p l e (rM 2 43) s m args below meth c H locs 0 0 (mZ g below args s w0 (wX9 g a i xs) (some (.int o))) (F0 m 81 ls [.int t1, .int t0])) :
  ∀ (l4 : Int32) (t0 : Int32) (H : Heap) (locs : List Loc) (ls : Array Slot), qX9_between_80 xs pa pb k81 l4 t0 = some o → mH g s w0 (wX9 g a i xs) H locs → lv_has ls 5 [(0, .ref (a i)), (1, .int pa), (2, .int pb), (4, .int l4)] → W p l e (rM 2 43) s m args below meth c H locs 0 0 (mZ g below args s w0 (wX9 g a i xs) (some (.int o))) (F0 m 80 ls [.int t0]) := by
  have hx := X.1
  have hb := X.2.1
  intro l4 t0 H locs ls h hH hl
  unfold qX9_between_80 at h
  refine lv_iconst (v := (0 : Int32)) hx hb dX9_between_80 (by decide) ?_
  exact K81 l4 t0 (0 : Int32) H locs ls h hH (lv_sub hl [0, 1, 2, 3] rfl)
set_option maxHeartbeats 4000000 in
set_option maxRecDepth 100000 in
theorem pX9_between_81 {p : Program} {l : Launch} {e : Env} {s : State} {m : MethodId} {args : Array Value} {below : List Frame} {meth : Method} {c : Code} {g : GG} {w0 : va_W} {a : Nat → Nat} {i : Nat} {xs : SX9} {pa : Int32} {pb : Int32} {o : Int32} (X : mX g yX9_between cX9_between 5 (some .int) p s m args meth c w0)
  {k5 : Int32 → Int32 → Option Int32} (K5 : ∀ (l3 : Int32) (l4 : Int32) (H : Heap) (locs : List Loc) (ls : Array Slot), k5 l3 l4 = some o → mH g s w0 (wX9 g a i xs) H locs → lv_has ls 5 [(0, .ref (a i)), (1, .int pa), (2, .int pb), (3, .int l3), (4, .int l4)] → W p l e (rM 2 43) s m args below meth c H locs 0 0 (mZ g below args s w0 (wX9 g a i xs) (some (.int o))) (F0 m 5 ls [])) :
  ∀ (l4 : Int32) (t0 : Int32) (t1 : Int32) (H : Heap) (locs : List Loc) (ls : Array Slot), qX9_between_81 xs pa pb k5 l4 t0 t1 = some o → mH g s w0 (wX9 g a i xs) H locs → lv_has ls 5 [(0, .ref (a i)), (1, .int pa), (2, .int pb), (4, .int l4)] → W p l e (rM 2 43) s m args below meth c H locs 0 0 (mZ g below args s w0 (wX9 g a i xs) (some (.int o))) (F0 m 81 ls [.int t1, .int t0]) := by
  have hx := X.1
  have hb := X.2.1
  intro l4 t0 t1 H locs ls h hH hl
  unfold qX9_between_81 at h
  refine lv_iadd hx hb dX9_between_81 ?_
  obtain ⟨v1, ev1, h⟩ := ltt_x h
  refine s_in X (lv' := [(3, .int v1), (0, .ref (a i)), (1, .int pa), (2, .int pb), (4, .int l4)]) hl ev1 dX9_between_82 rfl (by decide) rfl (fun ls hl => ?_)
  obtain ⟨v2, ev2, h⟩ := ltt_x h
  refine s_inc X (k := 4) (lv' := [(4, .int v2), (3, .int v1), (0, .ref (a i)), (1, .int pa), (2, .int pb)]) hl rfl (by rw [ev2]; rfl) dX9_between_83 (by decide) rfl (fun ls hl => ?_)
  refine lv_goto (tgt := 5) hx hb dX9_between_86 (by decide) ?_
  exact K5 v1 v2 H locs ls h hH (lv_sub hl [2, 3, 4, 1, 0] rfl)
set_option maxHeartbeats 4000000 in
set_option maxRecDepth 100000 in
theorem pX9_between_49 {p : Program} {l : Launch} {e : Env} {s : State} {m : MethodId} {args : Array Value} {below : List Frame} {meth : Method} {c : Code} {g : GG} {w0 : va_W} {a : Nat → Nat} {i : Nat} {xs : SX9} {pa : Int32} {pb : Int32} {o : Int32} (X : mX g yX9_between cX9_between 5 (some .int) p s m args meth c w0)
  {k71 : Int32 → Int32 → Option Int32} (K71 : ∀ (l4 : Int32) (t0 : Int32) (H : Heap) (locs : List Loc) (ls : Array Slot), k71 l4 t0 = some o → mH g s w0 (wX9 g a i xs) H locs → lv_has ls 5 [(0, .ref (a i)), (1, .int pa), (2, .int pb), (4, .int l4)] → W p l e (rM 2 43) s m args below meth c H locs 0 0 (mZ g below args s w0 (wX9 g a i xs) (some (.int o))) (F0 m 71 ls [.int t0]))
  {k80 : Int32 → Int32 → Option Int32} (K80 : ∀ (l4 : Int32) (t0 : Int32) (H : Heap) (locs : List Loc) (ls : Array Slot), k80 l4 t0 = some o → mH g s w0 (wX9 g a i xs) H locs → lv_has ls 5 [(0, .ref (a i)), (1, .int pa), (2, .int pb), (4, .int l4)] → W p l e (rM 2 43) s m args below meth c H locs 0 0 (mZ g below args s w0 (wX9 g a i xs) (some (.int o))) (F0 m 80 ls [.int t0])) :
  ∀ (l4 : Int32) (t0 : Int32) (H : Heap) (locs : List Loc) (ls : Array Slot), qX9_between_49 xs pa pb k71 k80 l4 t0 = some o → mH g s w0 (wX9 g a i xs) H locs → lv_has ls 5 [(0, .ref (a i)), (1, .int pa), (2, .int pb), (4, .int l4)] → W p l e (rM 2 43) s m args below meth c H locs 0 0 (mZ g below args s w0 (wX9 g a i xs) (some (.int o))) (F0 m 49 ls [.int t0]) := by
  have hx := X.1
  have hb := X.2.1
  intro l4 t0 H locs ls h hH hl
  unfold qX9_between_49 at h
  refine lv_aload_n hx hb dX9_between_49 rfl (lv_at hl 0 rfl) ?_
  refine f_get X hH 0 rfl rfl 2 (by decide) inX9 fX9_13 rfl dX9_between_50 ?_
  refine lv_iload hx hb dX9_between_53 (lv_at hl 3 rfl) ?_
  obtain ⟨j2, ej2, hinj2, h⟩ := ga_x h
  refine a_il X hH 1 rfl hinj2 ej2 dX9_between_55 ?_
  refine lv_iload_n hx hb dX9_between_56 rfl (lv_at hl 2 rfl) ?_
  refine lv_icmp_ne (tgt := 80) hx hb dX9_between_57 (by decide) (fun c4 => ?_) (fun c4 => ?_)
  · have h := ie_x h c4
    exact K80 l4 t0 H locs ls h hH (lv_sub hl [0, 1, 2, 3] rfl)
  · have h := it_x h c4
    refine lv_aload_n hx hb dX9_between_60 rfl (lv_at hl 0 rfl) ?_
    refine f_get X hH 0 rfl rfl 3 (by decide) inX9 fX9_17 rfl dX9_between_61 ?_
    refine lv_iload hx hb dX9_between_64 (lv_at hl 3 rfl) ?_
    obtain ⟨j3, ej3, hinj3, h⟩ := ga_x h
    refine a_il X hH 2 rfl hinj3 ej3 dX9_between_66 ?_
    refine lv_iload_n hx hb dX9_between_67 rfl (lv_at hl 1 rfl) ?_
    refine lv_icmp_ne (tgt := 80) hx hb dX9_between_68 (by decide) (fun c5 => ?_) (fun c5 => ?_)
    · have h := ie_x h c5
      exact K80 l4 t0 H locs ls h hH (lv_sub hl [0, 1, 2, 3] rfl)
    · have h := it_x h c5
      exact K71 l4 t0 H locs ls h hH (lv_sub hl [0, 1, 2, 3] rfl)
set_option maxHeartbeats 4000000 in
set_option maxRecDepth 100000 in
theorem pX9_between_71 {p : Program} {l : Launch} {e : Env} {s : State} {m : MethodId} {args : Array Value} {below : List Frame} {meth : Method} {c : Code} {g : GG} {w0 : va_W} {a : Nat → Nat} {i : Nat} {xs : SX9} {pa : Int32} {pb : Int32} {o : Int32} (X : mX g yX9_between cX9_between 5 (some .int) p s m args meth c w0)
  {k81 : Int32 → Int32 → Int32 → Option Int32} (K81 : ∀ (l4 : Int32) (t0 : Int32) (t1 : Int32) (H : Heap) (locs : List Loc) (ls : Array Slot), k81 l4 t0 t1 = some o → mH g s w0 (wX9 g a i xs) H locs → lv_has ls 5 [(0, .ref (a i)), (1, .int pa), (2, .int pb), (4, .int l4)] → W p l e (rM 2 43) s m args below meth c H locs 0 0 (mZ g below args s w0 (wX9 g a i xs) (some (.int o))) (F0 m 81 ls [.int t1, .int t0])) :
  ∀ (l4 : Int32) (t0 : Int32) (H : Heap) (locs : List Loc) (ls : Array Slot), qX9_between_71 xs pa pb k81 l4 t0 = some o → mH g s w0 (wX9 g a i xs) H locs → lv_has ls 5 [(0, .ref (a i)), (1, .int pa), (2, .int pb), (4, .int l4)] → W p l e (rM 2 43) s m args below meth c H locs 0 0 (mZ g below args s w0 (wX9 g a i xs) (some (.int o))) (F0 m 71 ls [.int t0]) := by
  have hx := X.1
  have hb := X.2.1
  intro l4 t0 H locs ls h hH hl
  unfold qX9_between_71 at h
  refine lv_aload_n hx hb dX9_between_71 rfl (lv_at hl 0 rfl) ?_
  refine lv_iload hx hb dX9_between_72 (lv_at hl 3 rfl) ?_
  obtain ⟨o2, ho2, h⟩ := bd_x h
  refine r_V X hH (ws1 := (wX9 g a i xs)) (As := [.int l4]) (rest := [.int t0]) (st1 := [.int o2, .int t0]) (uX9_weight (a := a) (i := i) ho2) kX9_weight mX9_171 iX9_weight vX9_weight zX9 okX9_weight ⟨Nat.le_of_ble_eq_true rfl, Nat.le_of_ble_eq_true rfl⟩ rfl rfl (q0 := 0) rfl rfl (pm_all _) (pm_all _) rfl hl.1 rfl (Nat.le_of_ble_eq_true rfl) ⟨Nat.le_refl 0, Nat.le_refl 0⟩ rfl dX9_between_74 (fun H locs hH => ?_)
  refine lv_goto (tgt := 81) hx hb dX9_between_77 (by decide) ?_
  exact K81 l4 t0 o2 H locs ls h hH (lv_sub hl [0, 1, 2, 3] rfl)
set_option maxHeartbeats 4000000 in
set_option maxRecDepth 100000 in
theorem pX9_between_5 {p : Program} {l : Launch} {e : Env} {s : State} {m : MethodId} {args : Array Value} {below : List Frame} {meth : Method} {c : Code} {g : GG} {w0 : va_W} {a : Nat → Nat} {i : Nat} {xs : SX9} {pa : Int32} {pb : Int32} {o : Int32} (X : mX g yX9_between cX9_between 5 (some .int) p s m args meth c w0) :
  ∀ (fu : Nat) (l3 : Int32) (l4 : Int32) (H : Heap) (locs : List Loc) (ls : Array Slot), qX9_between_5 xs pa pb fu l3 l4 = some o → mH g s w0 (wX9 g a i xs) H locs → lv_has ls 5 [(0, .ref (a i)), (1, .int pa), (2, .int pb), (3, .int l3), (4, .int l4)] → W p l e (rM 2 43) s m args below meth c H locs 0 0 (mZ g below args s w0 (wX9 g a i xs) (some (.int o))) (F0 m 5 ls []) := by
  have hx := X.1
  have hb := X.2.1
  intro fu
  induction fu with
  | zero =>
    intro l3 l4 H locs ls h
    unfold qX9_between_5 at h
    cases h
  | succ fu ih =>
    intro l3 l4 H locs ls h hH hl
    unfold qX9_between_5 at h
    refine lv_iload hx hb dX9_between_5 (lv_at hl 4 rfl) ?_
    refine lv_aload_n hx hb dX9_between_7 rfl (lv_at hl 0 rfl) ?_
    refine f_get X hH 0 rfl rfl 20 (by decide) inX9 fX9_220 rfl dX9_between_8 ?_
    refine lv_icmp_ge (tgt := 89) hx hb dX9_between_11 (by decide) (fun c1 => ?_) (fun c1 => ?_)
    · have h := it_x h c1
      refine lv_iload_n hx hb dX9_between_89 rfl (lv_at hl 3 rfl) ?_
      have h := Option.some.inj h
      subst h
      exact e_i X hH dX9_between_90
    · have h := ie_x h c1
      refine lv_iload_n hx hb dX9_between_14 rfl (lv_at hl 3 rfl) ?_
      refine lv_aload_n hx hb dX9_between_15 rfl (lv_at hl 0 rfl) ?_
      refine f_get X hH 0 rfl rfl 19 (by decide) inX9 fX9_223 rfl dX9_between_16 ?_
      refine lv_iload hx hb dX9_between_19 (lv_at hl 4 rfl) ?_
      obtain ⟨o1, ho1, h⟩ := bd_x h
      refine r_S X hH (ws1 := (wX9 g a i xs)) (As := [.int (m_there xs), .int l4]) (rest := [.int l3]) (st1 := [.int o1, .int l3]) (uX9_has  ho1) kX9_has mX9_226 sX9_has zX9 okX9_has ⟨Nat.le_of_ble_eq_true rfl, Nat.le_of_ble_eq_true rfl⟩ rfl rfl (pm_none _) (pm_none _) rfl hl.1 rfl (Nat.le_of_ble_eq_true rfl) ⟨Nat.le_refl 0, Nat.le_refl 0⟩ rfl dX9_between_21 (fun H locs hH => ?_)
      refine lv_if_eq (tgt := 80) hx hb dX9_between_24 (by decide) (fun c2 => ?_) (fun c2 => ?_)
      · have h := it_x h c2
        exact pX9_between_80 X (pX9_between_81 X ih) l4 l3 H locs ls h hH (lv_sub hl [0, 1, 2, 4] rfl)
      · have h := ie_x h c2
        refine lv_aload_n hx hb dX9_between_27 rfl (lv_at hl 0 rfl) ?_
        refine f_get X hH 0 rfl rfl 2 (by decide) inX9 fX9_13 rfl dX9_between_28 ?_
        refine lv_iload hx hb dX9_between_31 (lv_at hl 4 rfl) ?_
        obtain ⟨j1, ej1, hinj1, h⟩ := ga_x h
        refine a_il X hH 1 rfl hinj1 ej1 dX9_between_33 ?_
        refine lv_iload_n hx hb dX9_between_34 rfl (lv_at hl 1 rfl) ?_
        refine lv_icmp_ne (tgt := 49) hx hb dX9_between_35 (by decide) (fun c3 => ?_) (fun c3 => ?_)
        · have h := ie_x h c3
          exact pX9_between_49 X (pX9_between_71 X (pX9_between_81 X ih)) (pX9_between_80 X (pX9_between_81 X ih)) l4 l3 H locs ls h hH (lv_sub hl [0, 1, 2, 4] rfl)
        · have h := it_x h c3
          refine lv_aload_n hx hb dX9_between_38 rfl (lv_at hl 0 rfl) ?_
          refine f_get X hH 0 rfl rfl 3 (by decide) inX9 fX9_17 rfl dX9_between_39 ?_
          refine lv_iload hx hb dX9_between_42 (lv_at hl 4 rfl) ?_
          obtain ⟨j4, ej4, hinj4, h⟩ := ga_x h
          refine a_il X hH 2 rfl hinj4 ej4 dX9_between_44 ?_
          refine lv_iload_n hx hb dX9_between_45 rfl (lv_at hl 2 rfl) ?_
          refine lv_icmp_eq (tgt := 71) hx hb dX9_between_46 (by decide) (fun c6 => ?_) (fun c6 => ?_)
          · have h := it_x h c6
            exact pX9_between_71 X (pX9_between_81 X ih) l4 l3 H locs ls h hH (lv_sub hl [0, 1, 2, 4] rfl)
          · have h := ie_x h c6
            exact pX9_between_49 X (pX9_between_71 X (pX9_between_81 X ih)) (pX9_between_80 X (pX9_between_81 X ih)) l4 l3 H locs ls h hH (lv_sub hl [0, 1, 2, 4] rfl)
set_option maxHeartbeats 4000000 in
set_option maxRecDepth 100000 in
theorem uX9_between {l : Launch} {g : GG} {a : Nat → Nat} {i : Nat} {xs : SX9} {pa : Int32} {pb : Int32} {o : Int32} (h : fX9_between xs pa pb = some o) : mC l g yX9_between cX9_between 5 (some .int) (rM 2 43) [.ref (a i), .int pa, .int pb] (wX9 g a i xs) (wX9 g a i xs) (some (.int o)) := by
  refine mC.ofW (by decide) (fun p e s m below meth c X hH ls _ hl => ?_) (Nat.le_of_ble_eq_true rfl)
  have hx := X.1
  have hb := X.2.1
  have hl : lv_has ls 5 [(0, .ref (a i)), (1, .int pa), (2, .int pb)] := hl
  unfold fX9_between at h
  suffices HH : ∀ (H : Heap) (locs : List Loc), mH g s (wX9 g a i xs) (wX9 g a i xs) H locs → W p l e (rM 2 43) s m _ below meth c H locs 0 0 (mZ g below _ s (wX9 g a i xs) (wX9 g a i xs) (some (.int o))) (F0 m 0 ls []) from HH _ _ hH
  clear hH
  intro H locs hH
  refine lv_iconst (v := (0 : Int32)) hx hb dX9_between_0 (by decide) ?_
  refine s_in X (lv' := [(3, .int (0 : Int32)), (0, .ref (a i)), (1, .int pa), (2, .int pb)]) hl rfl dX9_between_1 rfl (by decide) rfl (fun ls hl => ?_)
  refine lv_iconst (v := (0 : Int32)) hx hb dX9_between_2 (by decide) ?_
  refine s_i X (lv' := [(4, .int (0 : Int32)), (3, .int (0 : Int32)), (0, .ref (a i)), (1, .int pa), (2, .int pb)]) hl rfl dX9_between_3 (by decide) rfl (fun ls hl => ?_)
  exact pX9_between_5 X FU (0 : Int32) (0 : Int32) H locs ls h hH (lv_sub hl [2, 3, 4, 1, 0] rfl)

def qX9_within_119 (pa : Int32) (k64 : SX9 → Int32 → Int32 → Option SX9) (xs : SX9) (l2 : Int32) (l3 : Int32) (t1 : Int32) (t2 : Int64) : Option SX9 :=
  ga 36 t1 fun j4 =>
  ltt ((m_matrix_s xs (vp_updL (m_matrix xs) j4 t2))) fun xs3 =>
  ltt (l3 + (1 : Int32)) fun v2 =>
  k64 xs3 l2 v2
def qX9_within_64 (pa : Int32) (k54 : SX9 → Int32 → Option SX9) : Nat → SX9 → Int32 → Int32 → Option SX9
  | 0, _, _, _ => none
  | fu + 1, xs, l2, l3 =>
  (if (m_innerMany xs) ≤ l3 then
  ga 6 l2 fun j1 =>
  ltt ((m_right_s xs (vp_updL (m_right xs) j1 (0 : Int64)))) fun xs2 =>
  ltt (l2 + (1 : Int32)) fun v1 =>
  k54 xs2 v1
  else
  (if l2 = l3 then
  ga 6 l2 fun j5 =>
  (fX9_weightsAt xs ((m_inner xs) j5)).bind fun o2 =>
  qX9_within_119 pa (qX9_within_64 pa k54 fu) xs l2 l3 (((6 : Int32) * l2) + l3) (o2.toInt64)
  else
  ga 6 l2 fun j2 =>
  ga 6 l3 fun j3 =>
  (fX9_between xs ((m_inner xs) j2) ((m_inner xs) j3)).bind fun o1 =>
  qX9_within_119 pa (qX9_within_64 pa k54 fu) xs l2 l3 (((6 : Int32) * l2) + l3) ((-o1).toInt64)))
def qX9_within_54 (pa : Int32)  : Nat → SX9 → Int32 → Option SX9
  | 0, _, _ => none
  | fu + 1, xs, l2 =>
  (if (m_innerMany xs) ≤ l2 then
  some xs
  else
  qX9_within_64 pa (qX9_within_54 pa  fu) FU xs l2 (0 : Int32))
def qX9_within_46 (pa : Int32) (k7 : SX9 → Int32 → Option SX9) (xs : SX9) (l2 : Int32) : Option SX9 :=
  ltt (l2 + (1 : Int32)) fun v4 =>
  k7 xs v4
def qX9_within_7 (pa : Int32)  : Nat → SX9 → Int32 → Option SX9
  | 0, _, _ => none
  | fu + 1, xs, l2 =>
  (if (m_points xs) ≤ l2 then
  qX9_within_54 pa FU xs (0 : Int32)
  else
  (fX9_has pa l2).bind fun o3 =>
  (if o3 = (0 : Int32) then
  qX9_within_46 pa (qX9_within_7 pa  fu) xs l2
  else
  ga 6 (m_innerMany xs) fun j6 =>
  ltt ((m_inner_s xs (upd (m_inner xs) j6 l2))) fun xs4 =>
  ltt (((m_innerMany xs4) + (1 : Int32))) fun v3 =>
  ltt ((m_innerMany_s xs4 v3)) fun xs5 =>
  qX9_within_46 pa (qX9_within_7 pa  fu) xs5 l2))
def fX9_within (xs : SX9) (pa : Int32) : Option SX9 :=
  ltt ((m_innerMany_s xs (0 : Int32))) fun xs1 =>
  qX9_within_7 pa FU xs1 (0 : Int32)
set_option maxHeartbeats 4000000 in
set_option maxRecDepth 100000 in
theorem pX9_within_119 {p : Program} {l : Launch} {e : Env} {s : State} {m : MethodId} {args : Array Value} {below : List Frame} {meth : Method} {c : Code} {g : GG} {w0 : va_W} {a : Nat → Nat} {i : Nat} {pa : Int32} {o : SX9} (X : mX g yX9_within cX9_within 4 none p s m args meth c w0)
  {k64 : SX9 → Int32 → Int32 → Option SX9} (K64 : ∀ (xs : SX9) (l2 : Int32) (l3 : Int32) (H : Heap) (locs : List Loc) (ls : Array Slot), k64 xs l2 l3 = some o → mH g s w0 (wX9 g a i xs) H locs → lv_has ls 4 [(0, .ref (a i)), (1, .int pa), (2, .int l2), (3, .int l3)] → W p l e (rM 3 67) s m args below meth c H locs 0 0 (mZ g below args s w0 (wX9 g a i o) none) (F0 m 64 ls [])) :
  ∀ (xs : SX9) (l2 : Int32) (l3 : Int32) (t1 : Int32) (t2 : Int64) (H : Heap) (locs : List Loc) (ls : Array Slot), qX9_within_119 pa k64 xs l2 l3 t1 t2 = some o → mH g s w0 (wX9 g a i xs) H locs → lv_has ls 4 [(0, .ref (a i)), (1, .int pa), (2, .int l2), (3, .int l3)] → W p l e (rM 3 67) s m args below meth c H locs 0 0 (mZ g below args s w0 (wX9 g a i o) none) (F0 m 119 ls [.long t2, .int t1, .ref (a (i + 16))]) := by
  have hx := X.1
  have hb := X.2.1
  intro xs l2 l3 t1 t2 H locs ls h hH hl
  unfold qX9_within_119 at h
  obtain ⟨j4, ej4, hinj4, h⟩ := ga_x h
  obtain ⟨xs3, exs3, h⟩ := ltt_x h
  refine a_ls X hH (ws1 := (wX9 g a i xs3)) 16 rfl hinj4 ej4 (by rw [exs3]; rfl) dX9_within_119 (fun H locs hH => ?_)
  obtain ⟨v2, ev2, h⟩ := ltt_x h
  refine s_inc X (k := 3) (lv' := [(3, .int v2), (0, .ref (a i)), (1, .int pa), (2, .int l2)]) hl rfl (by rw [ev2]; rfl) dX9_within_120 (by decide) rfl (fun ls hl => ?_)
  refine lv_goto (tgt := 64) hx hb dX9_within_123 (by decide) ?_
  exact K64 xs3 l2 v2 H locs ls h hH (lv_sub hl [1, 2, 3, 0] rfl)
set_option maxHeartbeats 4000000 in
set_option maxRecDepth 100000 in
theorem pX9_within_64 {p : Program} {l : Launch} {e : Env} {s : State} {m : MethodId} {args : Array Value} {below : List Frame} {meth : Method} {c : Code} {g : GG} {w0 : va_W} {a : Nat → Nat} {i : Nat} {pa : Int32} {o : SX9} (X : mX g yX9_within cX9_within 4 none p s m args meth c w0)
  {k54 : SX9 → Int32 → Option SX9} (K54 : ∀ (xs : SX9) (l2 : Int32) (H : Heap) (locs : List Loc) (ls : Array Slot), k54 xs l2 = some o → mH g s w0 (wX9 g a i xs) H locs → lv_has ls 4 [(0, .ref (a i)), (1, .int pa), (2, .int l2)] → W p l e (rM 3 67) s m args below meth c H locs 0 0 (mZ g below args s w0 (wX9 g a i o) none) (F0 m 54 ls [])) :
  ∀ (fu : Nat) (xs : SX9) (l2 : Int32) (l3 : Int32) (H : Heap) (locs : List Loc) (ls : Array Slot), qX9_within_64 pa k54 fu xs l2 l3 = some o → mH g s w0 (wX9 g a i xs) H locs → lv_has ls 4 [(0, .ref (a i)), (1, .int pa), (2, .int l2), (3, .int l3)] → W p l e (rM 3 67) s m args below meth c H locs 0 0 (mZ g below args s w0 (wX9 g a i o) none) (F0 m 64 ls []) := by
  have hx := X.1
  have hb := X.2.1
  intro fu
  induction fu with
  | zero =>
    intro xs l2 l3 H locs ls h
    unfold qX9_within_64 at h
    cases h
  | succ fu ih =>
    intro xs l2 l3 H locs ls h hH hl
    unfold qX9_within_64 at h
    refine lv_iload_n hx hb dX9_within_64 rfl (lv_at hl 3 rfl) ?_
    refine lv_aload_n hx hb dX9_within_65 rfl (lv_at hl 0 rfl) ?_
    refine f_get X hH 0 rfl rfl 22 (by decide) inX9 fX9_236 rfl dX9_within_66 ?_
    refine lv_icmp_ge (tgt := 126) hx hb dX9_within_69 (by decide) (fun c3 => ?_) (fun c3 => ?_)
    · have h := it_x h c3
      refine lv_aload_n hx hb dX9_within_126 rfl (lv_at hl 0 rfl) ?_
      refine f_get X hH 0 rfl rfl 24 (by decide) inX9 fX9_64 rfl dX9_within_127 ?_
      refine lv_iload_n hx hb dX9_within_130 rfl (lv_at hl 2 rfl) ?_
      refine lv_lconst (v := (0 : Int64)) hx hb dX9_within_131 (by decide) ?_
      obtain ⟨j1, ej1, hinj1, h⟩ := ga_x h
      obtain ⟨xs2, exs2, h⟩ := ltt_x h
      refine a_ls X hH (ws1 := (wX9 g a i xs2)) 17 rfl hinj1 ej1 (by rw [exs2]; rfl) dX9_within_132 (fun H locs hH => ?_)
      obtain ⟨v1, ev1, h⟩ := ltt_x h
      refine s_inc X (k := 2) (lv' := [(2, .int v1), (0, .ref (a i)), (1, .int pa), (3, .int l3)]) hl rfl (by rw [ev1]; rfl) dX9_within_133 (by decide) rfl (fun ls hl => ?_)
      refine lv_goto (tgt := 54) hx hb dX9_within_136 (by decide) ?_
      exact K54 xs2 v1 H locs ls h hH (lv_sub hl [1, 2, 0] rfl)
    · have h := ie_x h c3
      refine lv_aload_n hx hb dX9_within_72 rfl (lv_at hl 0 rfl) ?_
      refine f_get X hH 0 rfl rfl 23 (by decide) inX9 fX9_60 rfl dX9_within_73 ?_
      refine lv_bipush (v := (6 : Int32)) hx hb dX9_within_76 (by decide) ?_
      refine lv_iload_n hx hb dX9_within_78 rfl (lv_at hl 2 rfl) ?_
      refine lv_imul hx hb dX9_within_79 ?_
      refine lv_iload_n hx hb dX9_within_80 rfl (lv_at hl 3 rfl) ?_
      refine lv_iadd hx hb dX9_within_81 ?_
      refine lv_iload_n hx hb dX9_within_82 rfl (lv_at hl 2 rfl) ?_
      refine lv_iload_n hx hb dX9_within_83 rfl (lv_at hl 3 rfl) ?_
      refine lv_icmp_ne (tgt := 101) hx hb dX9_within_84 (by decide) (fun c4 => ?_) (fun c4 => ?_)
      · have h := ie_x h c4
        refine lv_aload_n hx hb dX9_within_101 rfl (lv_at hl 0 rfl) ?_
        refine lv_aload_n hx hb dX9_within_102 rfl (lv_at hl 0 rfl) ?_
        refine f_get X hH 0 rfl rfl 21 (by decide) inX9 fX9_57 rfl dX9_within_103 ?_
        refine lv_iload_n hx hb dX9_within_106 rfl (lv_at hl 2 rfl) ?_
        obtain ⟨j2, ej2, hinj2, h⟩ := ga_x h
        refine a_il X hH 15 rfl hinj2 ej2 dX9_within_107 ?_
        refine lv_aload_n hx hb dX9_within_108 rfl (lv_at hl 0 rfl) ?_
        refine f_get X hH 0 rfl rfl 21 (by decide) inX9 fX9_57 rfl dX9_within_109 ?_
        refine lv_iload_n hx hb dX9_within_112 rfl (lv_at hl 3 rfl) ?_
        obtain ⟨j3, ej3, hinj3, h⟩ := ga_x h
        refine a_il X hH 15 rfl hinj3 ej3 dX9_within_113 ?_
        obtain ⟨o1, ho1, h⟩ := bd_x h
        refine r_V X hH (ws1 := (wX9 g a i xs)) (As := [.int ((m_inner xs) j2), .int ((m_inner xs) j3)]) (rest := [.int (((6 : Int32) * l2) + l3), .ref (a (i + 16))]) (st1 := [.int o1, .int (((6 : Int32) * l2) + l3), .ref (a (i + 16))]) (uX9_between (a := a) (i := i) ho1) kX9_between mX9_242 iX9_between vX9_between zX9 okX9_between ⟨Nat.le_of_ble_eq_true rfl, Nat.le_of_ble_eq_true rfl⟩ rfl rfl (q0 := 0) rfl rfl (pm_all _) (pm_all _) rfl hl.1 rfl (Nat.le_of_ble_eq_true rfl) ⟨Nat.le_refl 0, Nat.le_refl 0⟩ rfl dX9_within_114 (fun H locs hH => ?_)
        refine lv_ineg hx hb dX9_within_117 ?_
        refine lv_i2l hx hb dX9_within_118 rfl ?_
        exact pX9_within_119 X ih xs l2 l3 (((6 : Int32) * l2) + l3) ((-o1).toInt64) H locs ls h hH (lv_sub hl [0, 1, 2, 3] rfl)
      · have h := it_x h c4
        refine lv_aload_n hx hb dX9_within_87 rfl (lv_at hl 0 rfl) ?_
        refine lv_aload_n hx hb dX9_within_88 rfl (lv_at hl 0 rfl) ?_
        refine f_get X hH 0 rfl rfl 21 (by decide) inX9 fX9_57 rfl dX9_within_89 ?_
        refine lv_iload_n hx hb dX9_within_92 rfl (lv_at hl 2 rfl) ?_
        obtain ⟨j5, ej5, hinj5, h⟩ := ga_x h
        refine a_il X hH 15 rfl hinj5 ej5 dX9_within_93 ?_
        obtain ⟨o2, ho2, h⟩ := bd_x h
        refine r_V X hH (ws1 := (wX9 g a i xs)) (As := [.int ((m_inner xs) j5)]) (rest := [.int (((6 : Int32) * l2) + l3), .ref (a (i + 16))]) (st1 := [.int o2, .int (((6 : Int32) * l2) + l3), .ref (a (i + 16))]) (uX9_weightsAt (a := a) (i := i) ho2) kX9_weightsAt mX9_239 iX9_weightsAt vX9_weightsAt zX9 okX9_weightsAt ⟨Nat.le_of_ble_eq_true rfl, Nat.le_of_ble_eq_true rfl⟩ rfl rfl (q0 := 0) rfl rfl (pm_all _) (pm_all _) rfl hl.1 rfl (Nat.le_of_ble_eq_true rfl) ⟨Nat.le_refl 0, Nat.le_refl 0⟩ rfl dX9_within_94 (fun H locs hH => ?_)
        refine lv_i2l hx hb dX9_within_97 rfl ?_
        refine lv_goto (tgt := 119) hx hb dX9_within_98 (by decide) ?_
        exact pX9_within_119 X ih xs l2 l3 (((6 : Int32) * l2) + l3) (o2.toInt64) H locs ls h hH (lv_sub hl [0, 1, 2, 3] rfl)
set_option maxHeartbeats 4000000 in
set_option maxRecDepth 100000 in
theorem pX9_within_54 {p : Program} {l : Launch} {e : Env} {s : State} {m : MethodId} {args : Array Value} {below : List Frame} {meth : Method} {c : Code} {g : GG} {w0 : va_W} {a : Nat → Nat} {i : Nat} {pa : Int32} {o : SX9} (X : mX g yX9_within cX9_within 4 none p s m args meth c w0) :
  ∀ (fu : Nat) (xs : SX9) (l2 : Int32) (H : Heap) (locs : List Loc) (ls : Array Slot), qX9_within_54 pa fu xs l2 = some o → mH g s w0 (wX9 g a i xs) H locs → lv_has ls 4 [(0, .ref (a i)), (1, .int pa), (2, .int l2)] → W p l e (rM 3 67) s m args below meth c H locs 0 0 (mZ g below args s w0 (wX9 g a i o) none) (F0 m 54 ls []) := by
  have hx := X.1
  have hb := X.2.1
  intro fu
  induction fu with
  | zero =>
    intro xs l2 H locs ls h
    unfold qX9_within_54 at h
    cases h
  | succ fu ih =>
    intro xs l2 H locs ls h hH hl
    unfold qX9_within_54 at h
    refine lv_iload_n hx hb dX9_within_54 rfl (lv_at hl 2 rfl) ?_
    refine lv_aload_n hx hb dX9_within_55 rfl (lv_at hl 0 rfl) ?_
    refine f_get X hH 0 rfl rfl 22 (by decide) inX9 fX9_236 rfl dX9_within_56 ?_
    refine lv_icmp_ge (tgt := 139) hx hb dX9_within_59 (by decide) (fun c2 => ?_) (fun c2 => ?_)
    · have h := it_x h c2
      have h := Option.some.inj h
      subst h
      exact e_v X hH dX9_within_139
    · have h := ie_x h c2
      refine lv_iconst (v := (0 : Int32)) hx hb dX9_within_62 (by decide) ?_
      refine s_in X (lv' := [(3, .int (0 : Int32)), (0, .ref (a i)), (1, .int pa), (2, .int l2)]) hl rfl dX9_within_63 rfl (by decide) rfl (fun ls hl => ?_)
      exact pX9_within_64 X ih FU xs l2 (0 : Int32) H locs ls h hH (lv_sub hl [1, 2, 3, 0] rfl)
set_option maxHeartbeats 4000000 in
set_option maxRecDepth 100000 in
theorem pX9_within_46 {p : Program} {l : Launch} {e : Env} {s : State} {m : MethodId} {args : Array Value} {below : List Frame} {meth : Method} {c : Code} {g : GG} {w0 : va_W} {a : Nat → Nat} {i : Nat} {pa : Int32} {o : SX9} (X : mX g yX9_within cX9_within 4 none p s m args meth c w0)
  {k7 : SX9 → Int32 → Option SX9} (K7 : ∀ (xs : SX9) (l2 : Int32) (H : Heap) (locs : List Loc) (ls : Array Slot), k7 xs l2 = some o → mH g s w0 (wX9 g a i xs) H locs → lv_has ls 4 [(0, .ref (a i)), (1, .int pa), (2, .int l2)] → W p l e (rM 3 67) s m args below meth c H locs 0 0 (mZ g below args s w0 (wX9 g a i o) none) (F0 m 7 ls [])) :
  ∀ (xs : SX9) (l2 : Int32) (H : Heap) (locs : List Loc) (ls : Array Slot), qX9_within_46 pa k7 xs l2 = some o → mH g s w0 (wX9 g a i xs) H locs → lv_has ls 4 [(0, .ref (a i)), (1, .int pa), (2, .int l2)] → W p l e (rM 3 67) s m args below meth c H locs 0 0 (mZ g below args s w0 (wX9 g a i o) none) (F0 m 46 ls []) := by
  have hx := X.1
  have hb := X.2.1
  intro xs l2 H locs ls h hH hl
  unfold qX9_within_46 at h
  obtain ⟨v4, ev4, h⟩ := ltt_x h
  refine s_inc X (k := 2) (lv' := [(2, .int v4), (0, .ref (a i)), (1, .int pa)]) hl rfl (by rw [ev4]; rfl) dX9_within_46 (by decide) rfl (fun ls hl => ?_)
  refine lv_goto (tgt := 7) hx hb dX9_within_49 (by decide) ?_
  exact K7 xs v4 H locs ls h hH (lv_sub hl [1, 2, 0] rfl)
set_option maxHeartbeats 4000000 in
set_option maxRecDepth 100000 in
theorem pX9_within_7 {p : Program} {l : Launch} {e : Env} {s : State} {m : MethodId} {args : Array Value} {below : List Frame} {meth : Method} {c : Code} {g : GG} {w0 : va_W} {a : Nat → Nat} {i : Nat} {pa : Int32} {o : SX9} (X : mX g yX9_within cX9_within 4 none p s m args meth c w0) :
  ∀ (fu : Nat) (xs : SX9) (l2 : Int32) (H : Heap) (locs : List Loc) (ls : Array Slot), qX9_within_7 pa fu xs l2 = some o → mH g s w0 (wX9 g a i xs) H locs → lv_has ls 4 [(0, .ref (a i)), (1, .int pa), (2, .int l2)] → W p l e (rM 3 67) s m args below meth c H locs 0 0 (mZ g below args s w0 (wX9 g a i o) none) (F0 m 7 ls []) := by
  have hx := X.1
  have hb := X.2.1
  intro fu
  induction fu with
  | zero =>
    intro xs l2 H locs ls h
    unfold qX9_within_7 at h
    cases h
  | succ fu ih =>
    intro xs l2 H locs ls h hH hl
    unfold qX9_within_7 at h
    refine lv_iload_n hx hb dX9_within_7 rfl (lv_at hl 2 rfl) ?_
    refine lv_aload_n hx hb dX9_within_8 rfl (lv_at hl 0 rfl) ?_
    refine f_get X hH 0 rfl rfl 0 (by decide) inX9 fX9_7 rfl dX9_within_9 ?_
    refine lv_icmp_ge (tgt := 52) hx hb dX9_within_12 (by decide) (fun c1 => ?_) (fun c1 => ?_)
    · have h := it_x h c1
      refine lv_iconst (v := (0 : Int32)) hx hb dX9_within_52 (by decide) ?_
      refine s_in X (lv' := [(2, .int (0 : Int32)), (0, .ref (a i)), (1, .int pa)]) hl rfl dX9_within_53 rfl (by decide) rfl (fun ls hl => ?_)
      exact pX9_within_54 X FU xs (0 : Int32) H locs ls h hH (lv_sub hl [1, 2, 0] rfl)
    · have h := ie_x h c1
      refine lv_iload_n hx hb dX9_within_15 rfl (lv_at hl 1 rfl) ?_
      refine lv_iload_n hx hb dX9_within_16 rfl (lv_at hl 2 rfl) ?_
      obtain ⟨o3, ho3, h⟩ := bd_x h
      refine r_S X hH (ws1 := (wX9 g a i xs)) (As := [.int pa, .int l2]) (rest := []) (st1 := [.int o3]) (uX9_has  ho3) kX9_has mX9_226 sX9_has zX9 okX9_has ⟨Nat.le_of_ble_eq_true rfl, Nat.le_of_ble_eq_true rfl⟩ rfl rfl (pm_none _) (pm_none _) rfl hl.1 rfl (Nat.le_of_ble_eq_true rfl) ⟨Nat.le_refl 0, Nat.le_refl 0⟩ rfl dX9_within_17 (fun H locs hH => ?_)
      refine lv_if_ne (tgt := 26) hx hb dX9_within_20 (by decide) (fun c5 => ?_) (fun c5 => ?_)
      · have h := ie_x h c5
        refine lv_aload_n hx hb dX9_within_26 rfl (lv_at hl 0 rfl) ?_
        refine f_get X hH 0 rfl rfl 21 (by decide) inX9 fX9_57 rfl dX9_within_27 ?_
        refine lv_aload_n hx hb dX9_within_30 rfl (lv_at hl 0 rfl) ?_
        refine f_get X hH 0 rfl rfl 22 (by decide) inX9 fX9_236 rfl dX9_within_31 ?_
        refine lv_iload_n hx hb dX9_within_34 rfl (lv_at hl 2 rfl) ?_
        obtain ⟨j6, ej6, hinj6, h⟩ := ga_x h
        obtain ⟨xs4, exs4, h⟩ := ltt_x h
        refine a_is X hH (ws1 := (wX9 g a i xs4)) 15 rfl hinj6 ej6 (by rw [exs4]; rfl) dX9_within_35 (fun H locs hH => ?_)
        refine lv_aload_n hx hb dX9_within_36 rfl (lv_at hl 0 rfl) ?_
        refine lv_dup hx hb dX9_within_37 rfl ?_
        refine f_get X hH 0 rfl rfl 22 (by decide) inX9 fX9_236 rfl dX9_within_38 ?_
        refine lv_iconst (v := (1 : Int32)) hx hb dX9_within_41 (by decide) ?_
        refine lv_iadd hx hb dX9_within_42 ?_
        obtain ⟨v3, ev3, h⟩ := ltt_x h
        refine lv_topi (fun y0 e0 => ?_)
        rw [← ev3] at e0
        subst y0
        obtain ⟨xs5, exs5, h⟩ := ltt_x h
        refine f_put X hH (ws1 := (wX9 g a i xs5)) 0 rfl rfl 22 (by decide) inX9 tyX9 tyX9_ok nmX9 fX9_236 rfl rfl rfl (Nat.le_of_ble_eq_true rfl) (by rw [exs5]; rfl) dX9_within_43 (fun H locs hH => ?_)
        exact pX9_within_46 X ih xs5 l2 H locs ls h hH (lv_sub hl [0, 1, 2] rfl)
      · have h := it_x h c5
        refine lv_goto (tgt := 46) hx hb dX9_within_23 (by decide) ?_
        exact pX9_within_46 X ih xs l2 H locs ls h hH (lv_sub hl [0, 1, 2] rfl)
set_option maxHeartbeats 4000000 in
set_option maxRecDepth 100000 in
theorem uX9_within {l : Launch} {g : GG} {a : Nat → Nat} {i : Nat} {xs : SX9} {pa : Int32} {o : SX9} (h : fX9_within xs pa = some o) : mC l g yX9_within cX9_within 4 none (rM 3 67) [.ref (a i), .int pa] (wX9 g a i xs) (wX9 g a i o) none := by
  refine mC.ofW (by decide) (fun p e s m below meth c X hH ls _ hl => ?_) (Nat.le_of_ble_eq_true rfl)
  have hx := X.1
  have hb := X.2.1
  have hl : lv_has ls 4 [(0, .ref (a i)), (1, .int pa)] := hl
  unfold fX9_within at h
  suffices HH : ∀ (H : Heap) (locs : List Loc), mH g s (wX9 g a i xs) (wX9 g a i xs) H locs → W p l e (rM 3 67) s m _ below meth c H locs 0 0 (mZ g below _ s (wX9 g a i xs) (wX9 g a i o) none) (F0 m 0 ls []) from HH _ _ hH
  clear hH
  intro H locs hH
  refine lv_aload_n hx hb dX9_within_0 rfl (lv_at hl 0 rfl) ?_
  refine lv_iconst (v := (0 : Int32)) hx hb dX9_within_1 (by decide) ?_
  obtain ⟨xs1, exs1, h⟩ := ltt_x h
  refine f_put X hH (ws1 := (wX9 g a i xs1)) 0 rfl rfl 22 (by decide) inX9 tyX9 tyX9_ok nmX9 fX9_236 rfl rfl rfl (Nat.le_of_ble_eq_true rfl) (by rw [exs1]; rfl) dX9_within_2 (fun H locs hH => ?_)
  refine lv_iconst (v := (0 : Int32)) hx hb dX9_within_5 (by decide) ?_
  refine s_in X (lv' := [(2, .int (0 : Int32)), (0, .ref (a i)), (1, .int pa)]) hl rfl dX9_within_6 rfl (by decide) rfl (fun ls hl => ?_)
  exact pX9_within_7 X FU xs1 (0 : Int32) H locs ls h hH (lv_sub hl [1, 2, 0] rfl)

def qX9_columnOf_2 (xs : SX9) (pa : Int32)  : Nat → Int32 → Option Int32
  | 0, _ => none
  | fu + 1, l2 =>
  ga 6 l2 fun j1 =>
  (if ((m_inner xs) j1) = pa then
  some l2
  else
  ltt (l2 + (1 : Int32)) fun v1 =>
  qX9_columnOf_2 xs pa  fu v1)
def fX9_columnOf (xs : SX9) (pa : Int32) : Option Int32 :=
  qX9_columnOf_2 xs pa FU (0 : Int32)
set_option maxHeartbeats 4000000 in
set_option maxRecDepth 100000 in
theorem pX9_columnOf_2 {p : Program} {l : Launch} {e : Env} {s : State} {m : MethodId} {args : Array Value} {below : List Frame} {meth : Method} {c : Code} {g : GG} {w0 : va_W} {a : Nat → Nat} {i : Nat} {xs : SX9} {pa : Int32} {o : Int32} (X : mX g yX9_columnOf cX9_columnOf 3 (some .int) p s m args meth c w0) :
  ∀ (fu : Nat) (l2 : Int32) (H : Heap) (locs : List Loc) (ls : Array Slot), qX9_columnOf_2 xs pa fu l2 = some o → mH g s w0 (wX9 g a i xs) H locs → lv_has ls 3 [(0, .ref (a i)), (1, .int pa), (2, .int l2)] → W p l e (rM 0 0) s m args below meth c H locs 0 0 (mZ g below args s w0 (wX9 g a i xs) (some (.int o))) (F0 m 2 ls []) := by
  have hx := X.1
  have hb := X.2.1
  intro fu
  induction fu with
  | zero =>
    intro l2 H locs ls h
    unfold qX9_columnOf_2 at h
    cases h
  | succ fu ih =>
    intro l2 H locs ls h hH hl
    unfold qX9_columnOf_2 at h
    refine lv_aload_n hx hb dX9_columnOf_2 rfl (lv_at hl 0 rfl) ?_
    refine f_get X hH 0 rfl rfl 21 (by decide) inX9 fX9_57 rfl dX9_columnOf_3 ?_
    refine lv_iload_n hx hb dX9_columnOf_6 rfl (lv_at hl 2 rfl) ?_
    obtain ⟨j1, ej1, hinj1, h⟩ := ga_x h
    refine a_il X hH 15 rfl hinj1 ej1 dX9_columnOf_7 ?_
    refine lv_iload_n hx hb dX9_columnOf_8 rfl (lv_at hl 1 rfl) ?_
    refine lv_icmp_eq (tgt := 18) hx hb dX9_columnOf_9 (by decide) (fun c1 => ?_) (fun c1 => ?_)
    · have h := it_x h c1
      refine lv_iload_n hx hb dX9_columnOf_18 rfl (lv_at hl 2 rfl) ?_
      have h := Option.some.inj h
      subst h
      exact e_i X hH dX9_columnOf_19
    · have h := ie_x h c1
      obtain ⟨v1, ev1, h⟩ := ltt_x h
      refine s_inc X (k := 2) (lv' := [(2, .int v1), (0, .ref (a i)), (1, .int pa)]) hl rfl (by rw [ev1]; rfl) dX9_columnOf_12 (by decide) rfl (fun ls hl => ?_)
      refine lv_goto (tgt := 2) hx hb dX9_columnOf_15 (by decide) ?_
      exact ih v1 H locs ls h hH (lv_sub hl [1, 2, 0] rfl)
set_option maxHeartbeats 4000000 in
set_option maxRecDepth 100000 in
theorem uX9_columnOf {l : Launch} {g : GG} {a : Nat → Nat} {i : Nat} {xs : SX9} {pa : Int32} {o : Int32} (h : fX9_columnOf xs pa = some o) : mC l g yX9_columnOf cX9_columnOf 3 (some .int) (rM 0 0) [.ref (a i), .int pa] (wX9 g a i xs) (wX9 g a i xs) (some (.int o)) := by
  refine mC.ofW (by decide) (fun p e s m below meth c X hH ls _ hl => ?_) (Nat.le_of_ble_eq_true rfl)
  have hx := X.1
  have hb := X.2.1
  have hl : lv_has ls 3 [(0, .ref (a i)), (1, .int pa)] := hl
  unfold fX9_columnOf at h
  suffices HH : ∀ (H : Heap) (locs : List Loc), mH g s (wX9 g a i xs) (wX9 g a i xs) H locs → W p l e (rM 0 0) s m _ below meth c H locs 0 0 (mZ g below _ s (wX9 g a i xs) (wX9 g a i xs) (some (.int o))) (F0 m 0 ls []) from HH _ _ hH
  clear hH
  intro H locs hH
  refine lv_iconst (v := (0 : Int32)) hx hb dX9_columnOf_0 (by decide) ?_
  refine s_in X (lv' := [(2, .int (0 : Int32)), (0, .ref (a i)), (1, .int pa)]) hl rfl dX9_columnOf_1 rfl (by decide) rfl (fun ls hl => ?_)
  exact pX9_columnOf_2 X FU (0 : Int32) H locs ls h hH (lv_sub hl [1, 2, 0] rfl)

def qX9_det_119 (pa : Int32) (k122 : SX9 → Int32 → Int32 → Int64 → Int32 → Option (Int64 × SX9)) (xs : SX9) (l2 : Int32) (l3 : Int32) (l6 : Int32) (t0 : Int64) (t1 : Int64) : Option (Int64 × SX9) :=
  ltt ((t0 + t1)) fun v4 =>
  k122 xs l2 l3 v4 l6
def qX9_det_80 (pa : Int32) (k122 : SX9 → Int32 → Int32 → Int64 → Int32 → Option (Int64 × SX9)) (xs : SX9) (l2 : Int32) (l3 : Int32) (l4 : Int64) (l6 : Int32) (t0 : Int64) : Option (Int64 × SX9) :=
  ga 64 (l2 &&& (((1 : Int32) <<< (l6 &&& 31)) ^^^ (-1 : Int32))) fun j5 =>
  ltt ((t0 * ((m_dets xs) j5))) fun v3 =>
  (fX9_bits (l2 >>> (l6 &&& 31))).bind fun o3 =>
  (if (o3 &&& (1 : Int32)) = (1 : Int32) then
  qX9_det_119 pa k122 xs l2 l3 l6 l4 v3
  else
  qX9_det_119 pa k122 xs l2 l3 l6 l4 (-v3))
def qX9_det_122 (pa : Int32) (k32 : SX9 → Int32 → Int32 → Int64 → Int32 → Option (Int64 × SX9)) (xs : SX9) (l2 : Int32) (l3 : Int32) (l4 : Int64) (l6 : Int32) : Option (Int64 × SX9) :=
  ltt (l6 + (1 : Int32)) fun v5 =>
  k32 xs l2 l3 l4 v5
def qX9_det_32 (pa : Int32) (k9 : SX9 → Int32 → Option (Int64 × SX9)) : Nat → SX9 → Int32 → Int32 → Int64 → Int32 → Option (Int64 × SX9)
  | 0, _, _, _, _, _ => none
  | fu + 1, xs, l2, l3, l4, l6 =>
  (if (m_innerMany xs) ≤ l6 then
  ga 64 l2 fun j3 =>
  ltt ((m_dets_s xs (vp_updL (m_dets xs) j3 l4))) fun xs2 =>
  ltt (l2 + (1 : Int32)) fun v2 =>
  k9 xs2 v2
  else
  (fX9_has l2 l6).bind fun o2 =>
  (if o2 = (0 : Int32) then
  qX9_det_122 pa (qX9_det_32 pa k9 fu) xs l2 l3 l4 l6
  else
  (if l6 = pa then
  ga 6 l3 fun j6 =>
  qX9_det_80 pa (qX9_det_122 pa (qX9_det_32 pa k9 fu)) xs l2 l3 l4 l6 ((m_right xs) j6)
  else
  ga 36 (((6 : Int32) * l3) + l6) fun j4 =>
  qX9_det_80 pa (qX9_det_122 pa (qX9_det_32 pa k9 fu)) xs l2 l3 l4 l6 ((m_matrix xs) j4))))
def qX9_det_9 (pa : Int32)  : Nat → SX9 → Int32 → Option (Int64 × SX9)
  | 0, _, _ => none
  | fu + 1, xs, l2 =>
  (if ((1 : Int32) <<< ((m_innerMany xs) &&& 31)) ≤ l2 then
  ga 64 (((1 : Int32) <<< ((m_innerMany xs) &&& 31)) - (1 : Int32)) fun j2 =>
  some (((m_dets xs) j2), xs)
  else
  (fX9_bits l2).bind fun o1 =>
  ltt ((o1 - (1 : Int32))) fun v1 =>
  qX9_det_32 pa (qX9_det_9 pa  fu) FU xs l2 v1 (0 : Int64) (0 : Int32))
def fX9_det (xs : SX9) (pa : Int32) : Option (Int64 × SX9) :=
  ga 64 (0 : Int32) fun j1 =>
  ltt ((m_dets_s xs (vp_updL (m_dets xs) j1 (1 : Int64)))) fun xs1 =>
  qX9_det_9 pa FU xs1 (1 : Int32)
set_option maxHeartbeats 4000000 in
set_option maxRecDepth 100000 in
theorem pX9_det_119 {p : Program} {l : Launch} {e : Env} {s : State} {m : MethodId} {args : Array Value} {below : List Frame} {meth : Method} {c : Code} {g : GG} {w0 : va_W} {a : Nat → Nat} {i : Nat} {pa : Int32} {o : (Int64 × SX9)} (X : mX g yX9_det cX9_det 9 (some .long) p s m args meth c w0)
  {k122 : SX9 → Int32 → Int32 → Int64 → Int32 → Option (Int64 × SX9)} (K122 : ∀ (xs : SX9) (l2 : Int32) (l3 : Int32) (l4 : Int64) (l6 : Int32) (H : Heap) (locs : List Loc) (ls : Array Slot), k122 xs l2 l3 l4 l6 = some o → mH g s w0 (wX9 g a i xs) H locs → lv_has ls 9 [(0, .ref (a i)), (1, .int pa), (2, .int l2), (3, .int l3), (4, .long l4), (6, .int l6)] → W p l e (rM 1 22) s m args below meth c H locs 0 0 (mZ g below args s w0 (wX9 g a i o.2) (some (.long o.1))) (F0 m 122 ls [])) :
  ∀ (xs : SX9) (l2 : Int32) (l3 : Int32) (l6 : Int32) (t0 : Int64) (t1 : Int64) (H : Heap) (locs : List Loc) (ls : Array Slot), qX9_det_119 pa k122 xs l2 l3 l6 t0 t1 = some o → mH g s w0 (wX9 g a i xs) H locs → lv_has ls 9 [(0, .ref (a i)), (1, .int pa), (2, .int l2), (3, .int l3), (6, .int l6)] → W p l e (rM 1 22) s m args below meth c H locs 0 0 (mZ g below args s w0 (wX9 g a i o.2) (some (.long o.1))) (F0 m 119 ls [.long t1, .long t0]) := by
  have hx := X.1
  have hb := X.2.1
  intro xs l2 l3 l6 t0 t1 H locs ls h hH hl
  unfold qX9_det_119 at h
  refine lv_ladd hx hb dX9_det_119 ?_
  obtain ⟨v4, ev4, h⟩ := ltt_x h
  refine s_l X (lv' := [(4, .long v4), (0, .ref (a i)), (1, .int pa), (2, .int l2), (3, .int l3), (6, .int l6)]) hl ev4 dX9_det_120 (by decide) rfl (fun ls hl => ?_)
  exact K122 xs l2 l3 v4 l6 H locs ls h hH (lv_sub hl [1, 2, 3, 4, 0, 5] rfl)
set_option maxHeartbeats 4000000 in
set_option maxRecDepth 100000 in
theorem pX9_det_80 {p : Program} {l : Launch} {e : Env} {s : State} {m : MethodId} {args : Array Value} {below : List Frame} {meth : Method} {c : Code} {g : GG} {w0 : va_W} {a : Nat → Nat} {i : Nat} {pa : Int32} {o : (Int64 × SX9)} (X : mX g yX9_det cX9_det 9 (some .long) p s m args meth c w0)
  {k122 : SX9 → Int32 → Int32 → Int64 → Int32 → Option (Int64 × SX9)} (K122 : ∀ (xs : SX9) (l2 : Int32) (l3 : Int32) (l4 : Int64) (l6 : Int32) (H : Heap) (locs : List Loc) (ls : Array Slot), k122 xs l2 l3 l4 l6 = some o → mH g s w0 (wX9 g a i xs) H locs → lv_has ls 9 [(0, .ref (a i)), (1, .int pa), (2, .int l2), (3, .int l3), (4, .long l4), (6, .int l6)] → W p l e (rM 1 22) s m args below meth c H locs 0 0 (mZ g below args s w0 (wX9 g a i o.2) (some (.long o.1))) (F0 m 122 ls [])) :
  ∀ (xs : SX9) (l2 : Int32) (l3 : Int32) (l4 : Int64) (l6 : Int32) (t0 : Int64) (H : Heap) (locs : List Loc) (ls : Array Slot), qX9_det_80 pa k122 xs l2 l3 l4 l6 t0 = some o → mH g s w0 (wX9 g a i xs) H locs → lv_has ls 9 [(0, .ref (a i)), (1, .int pa), (2, .int l2), (3, .int l3), (4, .long l4), (6, .int l6)] → W p l e (rM 1 22) s m args below meth c H locs 0 0 (mZ g below args s w0 (wX9 g a i o.2) (some (.long o.1))) (F0 m 80 ls [.long t0]) := by
  have hx := X.1
  have hb := X.2.1
  intro xs l2 l3 l4 l6 t0 H locs ls h hH hl
  unfold qX9_det_80 at h
  refine lv_aload_n hx hb dX9_det_80 rfl (lv_at hl 0 rfl) ?_
  refine f_get X hH 0 rfl rfl 25 (by decide) inX9 fX9_67 rfl dX9_det_81 ?_
  refine lv_iload_n hx hb dX9_det_84 rfl (lv_at hl 2 rfl) ?_
  refine lv_iconst (v := (1 : Int32)) hx hb dX9_det_85 (by decide) ?_
  refine lv_iload hx hb dX9_det_86 (lv_at hl 5 rfl) ?_
  refine lv_ishl hx hb dX9_det_88 ?_
  refine lv_iconst (v := (-1 : Int32)) hx hb dX9_det_89 (by decide) ?_
  refine lv_ixor hx hb dX9_det_90 ?_
  refine lv_iand hx hb dX9_det_91 ?_
  obtain ⟨j5, ej5, hinj5, h⟩ := ga_x h
  refine a_ll X hH 18 rfl hinj5 ej5 dX9_det_92 ?_
  refine lv_lmul hx hb dX9_det_93 ?_
  obtain ⟨v3, ev3, h⟩ := ltt_x h
  refine s_l X (lv' := [(7, .long v3), (0, .ref (a i)), (1, .int pa), (2, .int l2), (3, .int l3), (4, .long l4), (6, .int l6)]) hl ev3 dX9_det_94 (by decide) rfl (fun ls hl => ?_)
  refine lv_lload hx hb dX9_det_96 (lv_at hl 5 rfl) ?_
  refine lv_iload_n hx hb dX9_det_98 rfl (lv_at hl 3 rfl) ?_
  refine lv_iload hx hb dX9_det_99 (lv_at hl 6 rfl) ?_
  refine lv_ishr hx hb dX9_det_101 ?_
  obtain ⟨o3, ho3, h⟩ := bd_x h
  refine r_S X hH (ws1 := (wX9 g a i xs)) (As := [.int (l2 >>> (l6 &&& 31))]) (rest := [.long l4]) (st1 := [.int o3, .long l4]) (uX9_bits  ho3) kX9_bits mX9_245 sX9_bits zX9 okX9_bits ⟨Nat.le_of_ble_eq_true rfl, Nat.le_of_ble_eq_true rfl⟩ rfl rfl (pm_none _) (pm_none _) rfl hl.1 rfl (Nat.le_of_ble_eq_true rfl) ⟨Nat.le_refl 0, Nat.le_refl 0⟩ rfl dX9_det_102 (fun H locs hH => ?_)
  refine lv_iconst (v := (1 : Int32)) hx hb dX9_det_105 (by decide) ?_
  refine lv_iand hx hb dX9_det_106 ?_
  refine lv_iconst (v := (1 : Int32)) hx hb dX9_det_107 (by decide) ?_
  refine lv_icmp_ne (tgt := 116) hx hb dX9_det_108 (by decide) (fun c5 => ?_) (fun c5 => ?_)
  · have h := ie_x h c5
    refine lv_lload hx hb dX9_det_116 (lv_at hl 0 rfl) ?_
    refine lv_lneg hx hb dX9_det_118 ?_
    exact pX9_det_119 X K122 xs l2 l3 l6 l4 (-v3) H locs ls h hH (lv_sub hl [1, 2, 3, 4, 6] rfl)
  · have h := it_x h c5
    refine lv_lload hx hb dX9_det_111 (lv_at hl 0 rfl) ?_
    refine lv_goto (tgt := 119) hx hb dX9_det_113 (by decide) ?_
    exact pX9_det_119 X K122 xs l2 l3 l6 l4 v3 H locs ls h hH (lv_sub hl [1, 2, 3, 4, 6] rfl)
set_option maxHeartbeats 4000000 in
set_option maxRecDepth 100000 in
theorem pX9_det_122 {p : Program} {l : Launch} {e : Env} {s : State} {m : MethodId} {args : Array Value} {below : List Frame} {meth : Method} {c : Code} {g : GG} {w0 : va_W} {a : Nat → Nat} {i : Nat} {pa : Int32} {o : (Int64 × SX9)} (X : mX g yX9_det cX9_det 9 (some .long) p s m args meth c w0)
  {k32 : SX9 → Int32 → Int32 → Int64 → Int32 → Option (Int64 × SX9)} (K32 : ∀ (xs : SX9) (l2 : Int32) (l3 : Int32) (l4 : Int64) (l6 : Int32) (H : Heap) (locs : List Loc) (ls : Array Slot), k32 xs l2 l3 l4 l6 = some o → mH g s w0 (wX9 g a i xs) H locs → lv_has ls 9 [(0, .ref (a i)), (1, .int pa), (2, .int l2), (3, .int l3), (4, .long l4), (6, .int l6)] → W p l e (rM 1 22) s m args below meth c H locs 0 0 (mZ g below args s w0 (wX9 g a i o.2) (some (.long o.1))) (F0 m 32 ls [])) :
  ∀ (xs : SX9) (l2 : Int32) (l3 : Int32) (l4 : Int64) (l6 : Int32) (H : Heap) (locs : List Loc) (ls : Array Slot), qX9_det_122 pa k32 xs l2 l3 l4 l6 = some o → mH g s w0 (wX9 g a i xs) H locs → lv_has ls 9 [(0, .ref (a i)), (1, .int pa), (2, .int l2), (3, .int l3), (4, .long l4), (6, .int l6)] → W p l e (rM 1 22) s m args below meth c H locs 0 0 (mZ g below args s w0 (wX9 g a i o.2) (some (.long o.1))) (F0 m 122 ls []) := by
  have hx := X.1
  have hb := X.2.1
  intro xs l2 l3 l4 l6 H locs ls h hH hl
  unfold qX9_det_122 at h
  obtain ⟨v5, ev5, h⟩ := ltt_x h
  refine s_inc X (k := 5) (lv' := [(6, .int v5), (0, .ref (a i)), (1, .int pa), (2, .int l2), (3, .int l3), (4, .long l4)]) hl rfl (by rw [ev5]; rfl) dX9_det_122 (by decide) rfl (fun ls hl => ?_)
  refine lv_goto (tgt := 32) hx hb dX9_det_125 (by decide) ?_
  exact K32 xs l2 l3 l4 v5 H locs ls h hH (lv_sub hl [1, 2, 3, 4, 5, 0] rfl)
set_option maxHeartbeats 4000000 in
set_option maxRecDepth 100000 in
theorem pX9_det_32 {p : Program} {l : Launch} {e : Env} {s : State} {m : MethodId} {args : Array Value} {below : List Frame} {meth : Method} {c : Code} {g : GG} {w0 : va_W} {a : Nat → Nat} {i : Nat} {pa : Int32} {o : (Int64 × SX9)} (X : mX g yX9_det cX9_det 9 (some .long) p s m args meth c w0)
  {k9 : SX9 → Int32 → Option (Int64 × SX9)} (K9 : ∀ (xs : SX9) (l2 : Int32) (H : Heap) (locs : List Loc) (ls : Array Slot), k9 xs l2 = some o → mH g s w0 (wX9 g a i xs) H locs → lv_has ls 9 [(0, .ref (a i)), (1, .int pa), (2, .int l2)] → W p l e (rM 1 22) s m args below meth c H locs 0 0 (mZ g below args s w0 (wX9 g a i o.2) (some (.long o.1))) (F0 m 9 ls [])) :
  ∀ (fu : Nat) (xs : SX9) (l2 : Int32) (l3 : Int32) (l4 : Int64) (l6 : Int32) (H : Heap) (locs : List Loc) (ls : Array Slot), qX9_det_32 pa k9 fu xs l2 l3 l4 l6 = some o → mH g s w0 (wX9 g a i xs) H locs → lv_has ls 9 [(0, .ref (a i)), (1, .int pa), (2, .int l2), (3, .int l3), (4, .long l4), (6, .int l6)] → W p l e (rM 1 22) s m args below meth c H locs 0 0 (mZ g below args s w0 (wX9 g a i o.2) (some (.long o.1))) (F0 m 32 ls []) := by
  have hx := X.1
  have hb := X.2.1
  intro fu
  induction fu with
  | zero =>
    intro xs l2 l3 l4 l6 H locs ls h
    unfold qX9_det_32 at h
    cases h
  | succ fu ih =>
    intro xs l2 l3 l4 l6 H locs ls h hH hl
    unfold qX9_det_32 at h
    refine lv_iload hx hb dX9_det_32 (lv_at hl 5 rfl) ?_
    refine lv_aload_n hx hb dX9_det_34 rfl (lv_at hl 0 rfl) ?_
    refine f_get X hH 0 rfl rfl 22 (by decide) inX9 fX9_236 rfl dX9_det_35 ?_
    refine lv_icmp_ge (tgt := 128) hx hb dX9_det_38 (by decide) (fun c2 => ?_) (fun c2 => ?_)
    · have h := it_x h c2
      refine lv_aload_n hx hb dX9_det_128 rfl (lv_at hl 0 rfl) ?_
      refine f_get X hH 0 rfl rfl 25 (by decide) inX9 fX9_67 rfl dX9_det_129 ?_
      refine lv_iload_n hx hb dX9_det_132 rfl (lv_at hl 2 rfl) ?_
      refine lv_lload hx hb dX9_det_133 (lv_at hl 4 rfl) ?_
      obtain ⟨j3, ej3, hinj3, h⟩ := ga_x h
      obtain ⟨xs2, exs2, h⟩ := ltt_x h
      refine a_ls X hH (ws1 := (wX9 g a i xs2)) 18 rfl hinj3 ej3 (by rw [exs2]; rfl) dX9_det_135 (fun H locs hH => ?_)
      obtain ⟨v2, ev2, h⟩ := ltt_x h
      refine s_inc X (k := 2) (lv' := [(2, .int v2), (0, .ref (a i)), (1, .int pa), (3, .int l3), (4, .long l4), (6, .int l6)]) hl rfl (by rw [ev2]; rfl) dX9_det_136 (by decide) rfl (fun ls hl => ?_)
      refine lv_goto (tgt := 9) hx hb dX9_det_139 (by decide) ?_
      exact K9 xs2 v2 H locs ls h hH (lv_sub hl [1, 2, 0] rfl)
    · have h := ie_x h c2
      refine lv_iload_n hx hb dX9_det_41 rfl (lv_at hl 2 rfl) ?_
      refine lv_iload hx hb dX9_det_42 (lv_at hl 5 rfl) ?_
      obtain ⟨o2, ho2, h⟩ := bd_x h
      refine r_S X hH (ws1 := (wX9 g a i xs)) (As := [.int l2, .int l6]) (rest := []) (st1 := [.int o2]) (uX9_has  ho2) kX9_has mX9_226 sX9_has zX9 okX9_has ⟨Nat.le_of_ble_eq_true rfl, Nat.le_of_ble_eq_true rfl⟩ rfl rfl (pm_none _) (pm_none _) rfl hl.1 rfl (Nat.le_of_ble_eq_true rfl) ⟨Nat.le_refl 0, Nat.le_refl 0⟩ rfl dX9_det_44 (fun H locs hH => ?_)
      refine lv_if_ne (tgt := 53) hx hb dX9_det_47 (by decide) (fun c3 => ?_) (fun c3 => ?_)
      · have h := ie_x h c3
        refine lv_iload hx hb dX9_det_53 (lv_at hl 5 rfl) ?_
        refine lv_iload_n hx hb dX9_det_55 rfl (lv_at hl 1 rfl) ?_
        refine lv_icmp_ne (tgt := 68) hx hb dX9_det_56 (by decide) (fun c4 => ?_) (fun c4 => ?_)
        · have h := ie_x h c4
          refine lv_aload_n hx hb dX9_det_68 rfl (lv_at hl 0 rfl) ?_
          refine f_get X hH 0 rfl rfl 23 (by decide) inX9 fX9_60 rfl dX9_det_69 ?_
          refine lv_bipush (v := (6 : Int32)) hx hb dX9_det_72 (by decide) ?_
          refine lv_iload_n hx hb dX9_det_74 rfl (lv_at hl 3 rfl) ?_
          refine lv_imul hx hb dX9_det_75 ?_
          refine lv_iload hx hb dX9_det_76 (lv_at hl 5 rfl) ?_
          refine lv_iadd hx hb dX9_det_78 ?_
          obtain ⟨j4, ej4, hinj4, h⟩ := ga_x h
          refine a_ll X hH 16 rfl hinj4 ej4 dX9_det_79 ?_
          exact pX9_det_80 X (pX9_det_122 X ih) xs l2 l3 l4 l6 ((m_matrix xs) j4) H locs ls h hH (lv_sub hl [0, 1, 2, 3, 4, 5] rfl)
        · have h := it_x h c4
          refine lv_aload_n hx hb dX9_det_59 rfl (lv_at hl 0 rfl) ?_
          refine f_get X hH 0 rfl rfl 24 (by decide) inX9 fX9_64 rfl dX9_det_60 ?_
          refine lv_iload_n hx hb dX9_det_63 rfl (lv_at hl 3 rfl) ?_
          obtain ⟨j6, ej6, hinj6, h⟩ := ga_x h
          refine a_ll X hH 17 rfl hinj6 ej6 dX9_det_64 ?_
          refine lv_goto (tgt := 80) hx hb dX9_det_65 (by decide) ?_
          exact pX9_det_80 X (pX9_det_122 X ih) xs l2 l3 l4 l6 ((m_right xs) j6) H locs ls h hH (lv_sub hl [0, 1, 2, 3, 4, 5] rfl)
      · have h := it_x h c3
        refine lv_goto (tgt := 122) hx hb dX9_det_50 (by decide) ?_
        exact pX9_det_122 X ih xs l2 l3 l4 l6 H locs ls h hH (lv_sub hl [0, 1, 2, 3, 4, 5] rfl)
set_option maxHeartbeats 4000000 in
set_option maxRecDepth 100000 in
theorem pX9_det_9 {p : Program} {l : Launch} {e : Env} {s : State} {m : MethodId} {args : Array Value} {below : List Frame} {meth : Method} {c : Code} {g : GG} {w0 : va_W} {a : Nat → Nat} {i : Nat} {pa : Int32} {o : (Int64 × SX9)} (X : mX g yX9_det cX9_det 9 (some .long) p s m args meth c w0) :
  ∀ (fu : Nat) (xs : SX9) (l2 : Int32) (H : Heap) (locs : List Loc) (ls : Array Slot), qX9_det_9 pa fu xs l2 = some o → mH g s w0 (wX9 g a i xs) H locs → lv_has ls 9 [(0, .ref (a i)), (1, .int pa), (2, .int l2)] → W p l e (rM 1 22) s m args below meth c H locs 0 0 (mZ g below args s w0 (wX9 g a i o.2) (some (.long o.1))) (F0 m 9 ls []) := by
  have hx := X.1
  have hb := X.2.1
  intro fu
  induction fu with
  | zero =>
    intro xs l2 H locs ls h
    unfold qX9_det_9 at h
    cases h
  | succ fu ih =>
    intro xs l2 H locs ls h hH hl
    unfold qX9_det_9 at h
    refine lv_iload_n hx hb dX9_det_9 rfl (lv_at hl 2 rfl) ?_
    refine lv_iconst (v := (1 : Int32)) hx hb dX9_det_10 (by decide) ?_
    refine lv_aload_n hx hb dX9_det_11 rfl (lv_at hl 0 rfl) ?_
    refine f_get X hH 0 rfl rfl 22 (by decide) inX9 fX9_236 rfl dX9_det_12 ?_
    refine lv_ishl hx hb dX9_det_15 ?_
    refine lv_icmp_ge (tgt := 142) hx hb dX9_det_16 (by decide) (fun c1 => ?_) (fun c1 => ?_)
    · have h := it_x h c1
      refine lv_aload_n hx hb dX9_det_142 rfl (lv_at hl 0 rfl) ?_
      refine f_get X hH 0 rfl rfl 25 (by decide) inX9 fX9_67 rfl dX9_det_143 ?_
      refine lv_iconst (v := (1 : Int32)) hx hb dX9_det_146 (by decide) ?_
      refine lv_aload_n hx hb dX9_det_147 rfl (lv_at hl 0 rfl) ?_
      refine f_get X hH 0 rfl rfl 22 (by decide) inX9 fX9_236 rfl dX9_det_148 ?_
      refine lv_ishl hx hb dX9_det_151 ?_
      refine lv_iconst (v := (1 : Int32)) hx hb dX9_det_152 (by decide) ?_
      refine lv_isub hx hb dX9_det_153 ?_
      obtain ⟨j2, ej2, hinj2, h⟩ := ga_x h
      refine a_ll X hH 18 rfl hinj2 ej2 dX9_det_154 ?_
      have h := Option.some.inj h
      subst h
      exact e_l X hH dX9_det_155
    · have h := ie_x h c1
      refine lv_iload_n hx hb dX9_det_19 rfl (lv_at hl 2 rfl) ?_
      obtain ⟨o1, ho1, h⟩ := bd_x h
      refine r_S X hH (ws1 := (wX9 g a i xs)) (As := [.int l2]) (rest := []) (st1 := [.int o1]) (uX9_bits  ho1) kX9_bits mX9_245 sX9_bits zX9 okX9_bits ⟨Nat.le_of_ble_eq_true rfl, Nat.le_of_ble_eq_true rfl⟩ rfl rfl (pm_none _) (pm_none _) rfl hl.1 rfl (Nat.le_of_ble_eq_true rfl) ⟨Nat.le_refl 0, Nat.le_refl 0⟩ rfl dX9_det_20 (fun H locs hH => ?_)
      refine lv_iconst (v := (1 : Int32)) hx hb dX9_det_23 (by decide) ?_
      refine lv_isub hx hb dX9_det_24 ?_
      obtain ⟨v1, ev1, h⟩ := ltt_x h
      refine s_in X (lv' := [(3, .int v1), (0, .ref (a i)), (1, .int pa), (2, .int l2)]) hl ev1 dX9_det_25 rfl (by decide) rfl (fun ls hl => ?_)
      refine lv_lconst (v := (0 : Int64)) hx hb dX9_det_26 (by decide) ?_
      refine s_l X (lv' := [(4, .long (0 : Int64)), (3, .int v1), (0, .ref (a i)), (1, .int pa), (2, .int l2)]) hl rfl dX9_det_27 (by decide) rfl (fun ls hl => ?_)
      refine lv_iconst (v := (0 : Int32)) hx hb dX9_det_29 (by decide) ?_
      refine s_i X (lv' := [(6, .int (0 : Int32)), (4, .long (0 : Int64)), (3, .int v1), (0, .ref (a i)), (1, .int pa), (2, .int l2)]) hl rfl dX9_det_30 (by decide) rfl (fun ls hl => ?_)
      exact pX9_det_32 X ih FU xs l2 v1 (0 : Int64) (0 : Int32) H locs ls h hH (lv_sub hl [3, 4, 5, 2, 1, 0] rfl)
set_option maxHeartbeats 4000000 in
set_option maxRecDepth 100000 in
theorem uX9_det {l : Launch} {g : GG} {a : Nat → Nat} {i : Nat} {xs : SX9} {pa : Int32} {o : (Int64 × SX9)} (h : fX9_det xs pa = some o) : mC l g yX9_det cX9_det 9 (some .long) (rM 1 22) [.ref (a i), .int pa] (wX9 g a i xs) (wX9 g a i o.2) (some (.long o.1)) := by
  refine mC.ofW (by decide) (fun p e s m below meth c X hH ls _ hl => ?_) (Nat.le_of_ble_eq_true rfl)
  have hx := X.1
  have hb := X.2.1
  have hl : lv_has ls 9 [(0, .ref (a i)), (1, .int pa)] := hl
  unfold fX9_det at h
  suffices HH : ∀ (H : Heap) (locs : List Loc), mH g s (wX9 g a i xs) (wX9 g a i xs) H locs → W p l e (rM 1 22) s m _ below meth c H locs 0 0 (mZ g below _ s (wX9 g a i xs) (wX9 g a i o.2) (some (.long o.1))) (F0 m 0 ls []) from HH _ _ hH
  clear hH
  intro H locs hH
  refine lv_aload_n hx hb dX9_det_0 rfl (lv_at hl 0 rfl) ?_
  refine f_get X hH 0 rfl rfl 25 (by decide) inX9 fX9_67 rfl dX9_det_1 ?_
  refine lv_iconst (v := (0 : Int32)) hx hb dX9_det_4 (by decide) ?_
  refine lv_lconst (v := (1 : Int64)) hx hb dX9_det_5 (by decide) ?_
  obtain ⟨j1, ej1, hinj1, h⟩ := ga_x h
  obtain ⟨xs1, exs1, h⟩ := ltt_x h
  refine a_ls X hH (ws1 := (wX9 g a i xs1)) 18 rfl hinj1 ej1 (by rw [exs1]; rfl) dX9_det_6 (fun H locs hH => ?_)
  refine lv_iconst (v := (1 : Int32)) hx hb dX9_det_7 (by decide) ?_
  refine s_in X (lv' := [(2, .int (1 : Int32)), (0, .ref (a i)), (1, .int pa)]) hl rfl dX9_det_8 rfl (by decide) rfl (fun ls hl => ?_)
  exact pX9_det_9 X FU xs1 (1 : Int32) H locs ls h hH (lv_sub hl [1, 2, 0] rfl)

def qX9_findTime_121 (pa : Int32) (pb : Int32) (pc_ : Int32) (k122 : SX9 → Int32 → Int32 → Int32 → Option (Int32 × SX9)) (xs : SX9) (l5 : Int32) (l6 : Int32) : Option (Int32 × SX9) :=
  k122 xs l5 l6 (0 : Int32)
def qX9_findTime_169 (pa : Int32) (pb : Int32) (pc_ : Int32) (k62 : SX9 → Int32 → Int32 → Option (Int32 × SX9)) (xs : SX9) (l5 : Int32) (l6 : Int32) (t1 : Int32) (t2 : Int64) (t3 : Int64) : Option (Int32 × SX9) :=
  ltt ((t2 + t3)) fun v2 =>
  ga 6 t1 fun j2 =>
  ltt ((m_right_s xs (vp_updL (m_right xs) j2 v2))) fun xs5 =>
  ltt (l6 + (1 : Int32)) fun v3 =>
  k62 xs5 l5 v3
def qX9_findTime_122 (pa : Int32) (pb : Int32) (pc_ : Int32) (k62 : SX9 → Int32 → Int32 → Option (Int32 × SX9)) (xs : SX9) (l5 : Int32) (l6 : Int32) (t0 : Int32) : Option (Int32 × SX9) :=
  ga 6 l5 fun j1 =>
  (if t0 = (0 : Int32) then
  qX9_findTime_169 pa pb pc_ k62 xs l5 l6 l5 ((m_right xs) j1) (0 : Int64)
  else
  (if pc_ = (0 : Int32) then
  (fX9_weight xs l6).bind fun o8 =>
  (fX9_minutes xs l6).bind fun o9 =>
  qX9_findTime_169 pa pb pc_ k62 xs l5 l6 l5 ((m_right xs) j1) ((o8 * o9).toInt64)
  else
  (fX9_weight xs l6).bind fun o10 =>
  qX9_findTime_169 pa pb pc_ k62 xs l5 l6 l5 ((m_right xs) j1) (o10.toInt64)))
def qX9_findTime_117 (pa : Int32) (pb : Int32) (pc_ : Int32) (k122 : SX9 → Int32 → Int32 → Int32 → Option (Int32 × SX9)) (xs : SX9) (l5 : Int32) (l6 : Int32) : Option (Int32 × SX9) :=
  k122 xs l5 l6 (1 : Int32)
def qX9_findTime_62 (pa : Int32) (pb : Int32) (pc_ : Int32) (k50 : SX9 → Int32 → Option (Int32 × SX9)) : Nat → SX9 → Int32 → Int32 → Option (Int32 × SX9)
  | 0, _, _, _ => none
  | fu + 1, xs, l5, l6 =>
  (if (m_all xs) ≤ l6 then
  ltt (l5 + (1 : Int32)) fun v1 =>
  k50 xs v1
  else
  (fX9_has (m_there xs) l6).bind fun o7 =>
  (if o7 = (0 : Int32) then
  qX9_findTime_121 pa pb pc_ (qX9_findTime_122 pa pb pc_ (qX9_findTime_62 pa pb pc_ k50 fu)) xs l5 l6
  else
  ga 11 l6 fun j3 =>
  ga 6 l5 fun j4 =>
  (if ((m_first xs) j3) = ((m_inner xs) j4) then
  qX9_findTime_117 pa pb pc_ (qX9_findTime_122 pa pb pc_ (qX9_findTime_62 pa pb pc_ k50 fu)) xs l5 l6
  else
  ga 11 l6 fun j5 =>
  ga 6 l5 fun j6 =>
  (if ((m_second xs) j5) = ((m_inner xs) j6) then
  qX9_findTime_117 pa pb pc_ (qX9_findTime_122 pa pb pc_ (qX9_findTime_62 pa pb pc_ k50 fu)) xs l5 l6
  else
  qX9_findTime_121 pa pb pc_ (qX9_findTime_122 pa pb pc_ (qX9_findTime_62 pa pb pc_ k50 fu)) xs l5 l6))))
def qX9_findTime_50 (pa : Int32) (pb : Int32) (pc_ : Int32)  : Nat → SX9 → Int32 → Option (Int32 × SX9)
  | 0, _, _ => none
  | fu + 1, xs, l5 =>
  (if (m_innerMany xs) ≤ l5 then
  (fX9_det xs (-1 : Int32)).bind fun o4 =>
  ltt ((m_down_s o4.2 o4.1)) fun xs3 =>
  (fX9_columnOf xs3 pa).bind fun o5 =>
  (fX9_det xs3 o5).bind fun o6 =>
  ltt ((m_up_s o6.2 o6.1)) fun xs4 =>
  some ((1 : Int32), xs4)
  else
  qX9_findTime_62 pa pb pc_ (qX9_findTime_50 pa pb pc_  fu) FU xs l5 (0 : Int32))
def fX9_findTime (xs : SX9) (pa : Int32) (pb : Int32) (pc_ : Int32) : Option (Int32 × SX9) :=
  ltt ((m_up_s xs (0 : Int64))) fun xs1 =>
  ltt ((m_down_s xs1 (1 : Int64))) fun xs2 =>
  (if pa = pb then
  some ((1 : Int32), xs2)
  else
  (fX9_reach xs2 pb).bind fun o1 =>
  (fX9_has o1 pa).bind fun o2 =>
  (if o2 = (0 : Int32) then
  some ((0 : Int32), xs2)
  else
  (fX9_within xs2 (o1 &&& (((1 : Int32) <<< (pb &&& 31)) ^^^ (-1 : Int32)))).bind fun o3 =>
  qX9_findTime_50 pa pb pc_ FU o3 (0 : Int32)))
set_option maxHeartbeats 4000000 in
set_option maxRecDepth 100000 in
theorem pX9_findTime_121 {p : Program} {l : Launch} {e : Env} {s : State} {m : MethodId} {args : Array Value} {below : List Frame} {meth : Method} {c : Code} {g : GG} {w0 : va_W} {a : Nat → Nat} {i : Nat} {pa : Int32} {pb : Int32} {pc_ : Int32} {o : (Int32 × SX9)} (X : mX g yX9_findTime cX9_findTime 8 (some .boolean) p s m args meth c w0)
  {k122 : SX9 → Int32 → Int32 → Int32 → Option (Int32 × SX9)} (K122 : ∀ (xs : SX9) (l5 : Int32) (l6 : Int32) (t0 : Int32) (H : Heap) (locs : List Loc) (ls : Array Slot), k122 xs l5 l6 t0 = some o → mH g s w0 (wX9 g a i xs) H locs → lv_has ls 8 [(0, .ref (a i)), (1, .int pa), (2, .int pb), (3, .int pc_), (5, .int l5), (6, .int l6)] → W p l e (rM 4 90) s m args below meth c H locs 0 0 (mZ g below args s w0 (wX9 g a i o.2) (some (.int o.1))) (F0 m 122 ls [.int t0])) :
  ∀ (xs : SX9) (l5 : Int32) (l6 : Int32) (H : Heap) (locs : List Loc) (ls : Array Slot), qX9_findTime_121 pa pb pc_ k122 xs l5 l6 = some o → mH g s w0 (wX9 g a i xs) H locs → lv_has ls 8 [(0, .ref (a i)), (1, .int pa), (2, .int pb), (3, .int pc_), (5, .int l5), (6, .int l6)] → W p l e (rM 4 90) s m args below meth c H locs 0 0 (mZ g below args s w0 (wX9 g a i o.2) (some (.int o.1))) (F0 m 121 ls []) := by
  have hx := X.1
  have hb := X.2.1
  intro xs l5 l6 H locs ls h hH hl
  unfold qX9_findTime_121 at h
  refine lv_iconst (v := (0 : Int32)) hx hb dX9_findTime_121 (by decide) ?_
  exact K122 xs l5 l6 (0 : Int32) H locs ls h hH (lv_sub hl [0, 1, 2, 3, 4, 5] rfl)
set_option maxHeartbeats 4000000 in
set_option maxRecDepth 100000 in
theorem pX9_findTime_169 {p : Program} {l : Launch} {e : Env} {s : State} {m : MethodId} {args : Array Value} {below : List Frame} {meth : Method} {c : Code} {g : GG} {w0 : va_W} {a : Nat → Nat} {i : Nat} {pa : Int32} {pb : Int32} {pc_ : Int32} {o : (Int32 × SX9)} (X : mX g yX9_findTime cX9_findTime 8 (some .boolean) p s m args meth c w0)
  {k62 : SX9 → Int32 → Int32 → Option (Int32 × SX9)} (K62 : ∀ (xs : SX9) (l5 : Int32) (l6 : Int32) (H : Heap) (locs : List Loc) (ls : Array Slot), k62 xs l5 l6 = some o → mH g s w0 (wX9 g a i xs) H locs → lv_has ls 8 [(0, .ref (a i)), (1, .int pa), (2, .int pb), (3, .int pc_), (5, .int l5), (6, .int l6)] → W p l e (rM 4 90) s m args below meth c H locs 0 0 (mZ g below args s w0 (wX9 g a i o.2) (some (.int o.1))) (F0 m 62 ls [])) :
  ∀ (xs : SX9) (l5 : Int32) (l6 : Int32) (t1 : Int32) (t2 : Int64) (t3 : Int64) (H : Heap) (locs : List Loc) (ls : Array Slot), qX9_findTime_169 pa pb pc_ k62 xs l5 l6 t1 t2 t3 = some o → mH g s w0 (wX9 g a i xs) H locs → lv_has ls 8 [(0, .ref (a i)), (1, .int pa), (2, .int pb), (3, .int pc_), (5, .int l5), (6, .int l6)] → W p l e (rM 4 90) s m args below meth c H locs 0 0 (mZ g below args s w0 (wX9 g a i o.2) (some (.int o.1))) (F0 m 169 ls [.long t3, .long t2, .int t1, .ref (a (i + 17))]) := by
  have hx := X.1
  have hb := X.2.1
  intro xs l5 l6 t1 t2 t3 H locs ls h hH hl
  unfold qX9_findTime_169 at h
  refine lv_ladd hx hb dX9_findTime_169 ?_
  obtain ⟨v2, ev2, h⟩ := ltt_x h
  refine lv_topl (fun y0 e0 => ?_)
  rw [← ev2] at e0
  subst y0
  obtain ⟨j2, ej2, hinj2, h⟩ := ga_x h
  obtain ⟨xs5, exs5, h⟩ := ltt_x h
  refine a_ls X hH (ws1 := (wX9 g a i xs5)) 17 rfl hinj2 ej2 (by rw [exs5]; rfl) dX9_findTime_170 (fun H locs hH => ?_)
  obtain ⟨v3, ev3, h⟩ := ltt_x h
  refine s_inc X (k := 5) (lv' := [(6, .int v3), (0, .ref (a i)), (1, .int pa), (2, .int pb), (3, .int pc_), (5, .int l5)]) hl rfl (by rw [ev3]; rfl) dX9_findTime_171 (by decide) rfl (fun ls hl => ?_)
  refine lv_goto (tgt := 62) hx hb dX9_findTime_174 (by decide) ?_
  exact K62 xs5 l5 v3 H locs ls h hH (lv_sub hl [1, 2, 3, 4, 5, 0] rfl)
set_option maxHeartbeats 4000000 in
set_option maxRecDepth 100000 in
theorem pX9_findTime_122 {p : Program} {l : Launch} {e : Env} {s : State} {m : MethodId} {args : Array Value} {below : List Frame} {meth : Method} {c : Code} {g : GG} {w0 : va_W} {a : Nat → Nat} {i : Nat} {pa : Int32} {pb : Int32} {pc_ : Int32} {o : (Int32 × SX9)} (X : mX g yX9_findTime cX9_findTime 8 (some .boolean) p s m args meth c w0)
  {k62 : SX9 → Int32 → Int32 → Option (Int32 × SX9)} (K62 : ∀ (xs : SX9) (l5 : Int32) (l6 : Int32) (H : Heap) (locs : List Loc) (ls : Array Slot), k62 xs l5 l6 = some o → mH g s w0 (wX9 g a i xs) H locs → lv_has ls 8 [(0, .ref (a i)), (1, .int pa), (2, .int pb), (3, .int pc_), (5, .int l5), (6, .int l6)] → W p l e (rM 4 90) s m args below meth c H locs 0 0 (mZ g below args s w0 (wX9 g a i o.2) (some (.int o.1))) (F0 m 62 ls [])) :
  ∀ (xs : SX9) (l5 : Int32) (l6 : Int32) (t0 : Int32) (H : Heap) (locs : List Loc) (ls : Array Slot), qX9_findTime_122 pa pb pc_ k62 xs l5 l6 t0 = some o → mH g s w0 (wX9 g a i xs) H locs → lv_has ls 8 [(0, .ref (a i)), (1, .int pa), (2, .int pb), (3, .int pc_), (5, .int l5), (6, .int l6)] → W p l e (rM 4 90) s m args below meth c H locs 0 0 (mZ g below args s w0 (wX9 g a i o.2) (some (.int o.1))) (F0 m 122 ls [.int t0]) := by
  have hx := X.1
  have hb := X.2.1
  intro xs l5 l6 t0 H locs ls h hH hl
  unfold qX9_findTime_122 at h
  refine s_i X (lv' := [(7, .int t0), (0, .ref (a i)), (1, .int pa), (2, .int pb), (3, .int pc_), (5, .int l5), (6, .int l6)]) hl rfl dX9_findTime_122 (by decide) rfl (fun ls hl => ?_)
  refine lv_aload_n hx hb dX9_findTime_124 rfl (lv_at hl 1 rfl) ?_
  refine f_get X hH 0 rfl rfl 24 (by decide) inX9 fX9_64 rfl dX9_findTime_125 ?_
  refine lv_iload hx hb dX9_findTime_128 (lv_at hl 5 rfl) ?_
  refine lv_dup2_11 hx hb dX9_findTime_130 rfl rfl ?_
  obtain ⟨j1, ej1, hinj1, h⟩ := ga_x h
  refine a_ll X hH 17 rfl hinj1 ej1 dX9_findTime_131 ?_
  refine lv_iload hx hb dX9_findTime_132 (lv_at hl 0 rfl) ?_
  refine lv_if_ne (tgt := 141) hx hb dX9_findTime_134 (by decide) (fun c6 => ?_) (fun c6 => ?_)
  · have h := ie_x h c6
    refine lv_iload_n hx hb dX9_findTime_141 rfl (lv_at hl 4 rfl) ?_
    refine lv_if_eq (tgt := 155) hx hb dX9_findTime_142 (by decide) (fun c7 => ?_) (fun c7 => ?_)
    · have h := it_x h c7
      refine lv_aload_n hx hb dX9_findTime_155 rfl (lv_at hl 1 rfl) ?_
      refine lv_iload hx hb dX9_findTime_156 (lv_at hl 6 rfl) ?_
      obtain ⟨o8, ho8, h⟩ := bd_x h
      refine r_V X hH (ws1 := (wX9 g a i xs)) (As := [.int l6]) (rest := [.long ((m_right xs) j1), .int l5, .ref (a (i + 17))]) (st1 := [.int o8, .long ((m_right xs) j1), .int l5, .ref (a (i + 17))]) (uX9_weight (a := a) (i := i) ho8) kX9_weight mX9_171 iX9_weight vX9_weight zX9 okX9_weight ⟨Nat.le_of_ble_eq_true rfl, Nat.le_of_ble_eq_true rfl⟩ rfl rfl (q0 := 0) rfl rfl (pm_all _) (pm_all _) rfl hl.1 rfl (Nat.le_of_ble_eq_true rfl) ⟨Nat.le_refl 0, Nat.le_refl 0⟩ rfl dX9_findTime_158 (fun H locs hH => ?_)
      refine lv_aload_n hx hb dX9_findTime_161 rfl (lv_at hl 1 rfl) ?_
      refine lv_iload hx hb dX9_findTime_162 (lv_at hl 6 rfl) ?_
      obtain ⟨o9, ho9, h⟩ := bd_x h
      refine r_V X hH (ws1 := (wX9 g a i xs)) (As := [.int l6]) (rest := [.int o8, .long ((m_right xs) j1), .int l5, .ref (a (i + 17))]) (st1 := [.int o9, .int o8, .long ((m_right xs) j1), .int l5, .ref (a (i + 17))]) (uX9_minutes (a := a) (i := i) ho9) kX9_minutes mX9_174 iX9_minutes vX9_minutes zX9 okX9_minutes ⟨Nat.le_of_ble_eq_true rfl, Nat.le_of_ble_eq_true rfl⟩ rfl rfl (q0 := 0) rfl rfl (pm_all _) (pm_all _) rfl hl.1 rfl (Nat.le_of_ble_eq_true rfl) ⟨Nat.le_refl 0, Nat.le_refl 0⟩ rfl dX9_findTime_164 (fun H locs hH => ?_)
      refine lv_imul hx hb dX9_findTime_167 ?_
      refine lv_i2l hx hb dX9_findTime_168 rfl ?_
      exact pX9_findTime_169 X K62 xs l5 l6 l5 ((m_right xs) j1) ((o8 * o9).toInt64) H locs ls h hH (lv_sub hl [1, 2, 3, 4, 5, 6] rfl)
    · have h := ie_x h c7
      refine lv_aload_n hx hb dX9_findTime_145 rfl (lv_at hl 1 rfl) ?_
      refine lv_iload hx hb dX9_findTime_146 (lv_at hl 6 rfl) ?_
      obtain ⟨o10, ho10, h⟩ := bd_x h
      refine r_V X hH (ws1 := (wX9 g a i xs)) (As := [.int l6]) (rest := [.long ((m_right xs) j1), .int l5, .ref (a (i + 17))]) (st1 := [.int o10, .long ((m_right xs) j1), .int l5, .ref (a (i + 17))]) (uX9_weight (a := a) (i := i) ho10) kX9_weight mX9_171 iX9_weight vX9_weight zX9 okX9_weight ⟨Nat.le_of_ble_eq_true rfl, Nat.le_of_ble_eq_true rfl⟩ rfl rfl (q0 := 0) rfl rfl (pm_all _) (pm_all _) rfl hl.1 rfl (Nat.le_of_ble_eq_true rfl) ⟨Nat.le_refl 0, Nat.le_refl 0⟩ rfl dX9_findTime_148 (fun H locs hH => ?_)
      refine lv_i2l hx hb dX9_findTime_151 rfl ?_
      refine lv_goto (tgt := 169) hx hb dX9_findTime_152 (by decide) ?_
      exact pX9_findTime_169 X K62 xs l5 l6 l5 ((m_right xs) j1) (o10.toInt64) H locs ls h hH (lv_sub hl [1, 2, 3, 4, 5, 6] rfl)
  · have h := it_x h c6
    refine lv_lconst (v := (0 : Int64)) hx hb dX9_findTime_137 (by decide) ?_
    refine lv_goto (tgt := 169) hx hb dX9_findTime_138 (by decide) ?_
    exact pX9_findTime_169 X K62 xs l5 l6 l5 ((m_right xs) j1) (0 : Int64) H locs ls h hH (lv_sub hl [1, 2, 3, 4, 5, 6] rfl)
set_option maxHeartbeats 4000000 in
set_option maxRecDepth 100000 in
theorem pX9_findTime_117 {p : Program} {l : Launch} {e : Env} {s : State} {m : MethodId} {args : Array Value} {below : List Frame} {meth : Method} {c : Code} {g : GG} {w0 : va_W} {a : Nat → Nat} {i : Nat} {pa : Int32} {pb : Int32} {pc_ : Int32} {o : (Int32 × SX9)} (X : mX g yX9_findTime cX9_findTime 8 (some .boolean) p s m args meth c w0)
  {k122 : SX9 → Int32 → Int32 → Int32 → Option (Int32 × SX9)} (K122 : ∀ (xs : SX9) (l5 : Int32) (l6 : Int32) (t0 : Int32) (H : Heap) (locs : List Loc) (ls : Array Slot), k122 xs l5 l6 t0 = some o → mH g s w0 (wX9 g a i xs) H locs → lv_has ls 8 [(0, .ref (a i)), (1, .int pa), (2, .int pb), (3, .int pc_), (5, .int l5), (6, .int l6)] → W p l e (rM 4 90) s m args below meth c H locs 0 0 (mZ g below args s w0 (wX9 g a i o.2) (some (.int o.1))) (F0 m 122 ls [.int t0])) :
  ∀ (xs : SX9) (l5 : Int32) (l6 : Int32) (H : Heap) (locs : List Loc) (ls : Array Slot), qX9_findTime_117 pa pb pc_ k122 xs l5 l6 = some o → mH g s w0 (wX9 g a i xs) H locs → lv_has ls 8 [(0, .ref (a i)), (1, .int pa), (2, .int pb), (3, .int pc_), (5, .int l5), (6, .int l6)] → W p l e (rM 4 90) s m args below meth c H locs 0 0 (mZ g below args s w0 (wX9 g a i o.2) (some (.int o.1))) (F0 m 117 ls []) := by
  have hx := X.1
  have hb := X.2.1
  intro xs l5 l6 H locs ls h hH hl
  unfold qX9_findTime_117 at h
  refine lv_iconst (v := (1 : Int32)) hx hb dX9_findTime_117 (by decide) ?_
  refine lv_goto (tgt := 122) hx hb dX9_findTime_118 (by decide) ?_
  exact K122 xs l5 l6 (1 : Int32) H locs ls h hH (lv_sub hl [0, 1, 2, 3, 4, 5] rfl)
set_option maxHeartbeats 4000000 in
set_option maxRecDepth 100000 in
theorem pX9_findTime_62 {p : Program} {l : Launch} {e : Env} {s : State} {m : MethodId} {args : Array Value} {below : List Frame} {meth : Method} {c : Code} {g : GG} {w0 : va_W} {a : Nat → Nat} {i : Nat} {pa : Int32} {pb : Int32} {pc_ : Int32} {o : (Int32 × SX9)} (X : mX g yX9_findTime cX9_findTime 8 (some .boolean) p s m args meth c w0)
  {k50 : SX9 → Int32 → Option (Int32 × SX9)} (K50 : ∀ (xs : SX9) (l5 : Int32) (H : Heap) (locs : List Loc) (ls : Array Slot), k50 xs l5 = some o → mH g s w0 (wX9 g a i xs) H locs → lv_has ls 8 [(0, .ref (a i)), (1, .int pa), (2, .int pb), (3, .int pc_), (5, .int l5)] → W p l e (rM 4 90) s m args below meth c H locs 0 0 (mZ g below args s w0 (wX9 g a i o.2) (some (.int o.1))) (F0 m 50 ls [])) :
  ∀ (fu : Nat) (xs : SX9) (l5 : Int32) (l6 : Int32) (H : Heap) (locs : List Loc) (ls : Array Slot), qX9_findTime_62 pa pb pc_ k50 fu xs l5 l6 = some o → mH g s w0 (wX9 g a i xs) H locs → lv_has ls 8 [(0, .ref (a i)), (1, .int pa), (2, .int pb), (3, .int pc_), (5, .int l5), (6, .int l6)] → W p l e (rM 4 90) s m args below meth c H locs 0 0 (mZ g below args s w0 (wX9 g a i o.2) (some (.int o.1))) (F0 m 62 ls []) := by
  have hx := X.1
  have hb := X.2.1
  intro fu
  induction fu with
  | zero =>
    intro xs l5 l6 H locs ls h
    unfold qX9_findTime_62 at h
    cases h
  | succ fu ih =>
    intro xs l5 l6 H locs ls h hH hl
    unfold qX9_findTime_62 at h
    refine lv_iload hx hb dX9_findTime_62 (lv_at hl 5 rfl) ?_
    refine lv_aload_n hx hb dX9_findTime_64 rfl (lv_at hl 0 rfl) ?_
    refine f_get X hH 0 rfl rfl 20 (by decide) inX9 fX9_220 rfl dX9_findTime_65 ?_
    refine lv_icmp_ge (tgt := 177) hx hb dX9_findTime_68 (by decide) (fun c4 => ?_) (fun c4 => ?_)
    · have h := it_x h c4
      obtain ⟨v1, ev1, h⟩ := ltt_x h
      refine s_inc X (k := 4) (lv' := [(5, .int v1), (0, .ref (a i)), (1, .int pa), (2, .int pb), (3, .int pc_), (6, .int l6)]) hl rfl (by rw [ev1]; rfl) dX9_findTime_177 (by decide) rfl (fun ls hl => ?_)
      refine lv_goto (tgt := 50) hx hb dX9_findTime_180 (by decide) ?_
      exact K50 xs v1 H locs ls h hH (lv_sub hl [1, 2, 3, 4, 0] rfl)
    · have h := ie_x h c4
      refine lv_aload_n hx hb dX9_findTime_71 rfl (lv_at hl 0 rfl) ?_
      refine f_get X hH 0 rfl rfl 19 (by decide) inX9 fX9_223 rfl dX9_findTime_72 ?_
      refine lv_iload hx hb dX9_findTime_75 (lv_at hl 5 rfl) ?_
      obtain ⟨o7, ho7, h⟩ := bd_x h
      refine r_S X hH (ws1 := (wX9 g a i xs)) (As := [.int (m_there xs), .int l6]) (rest := []) (st1 := [.int o7]) (uX9_has  ho7) kX9_has mX9_226 sX9_has zX9 okX9_has ⟨Nat.le_of_ble_eq_true rfl, Nat.le_of_ble_eq_true rfl⟩ rfl rfl (pm_none _) (pm_none _) rfl hl.1 rfl (Nat.le_of_ble_eq_true rfl) ⟨Nat.le_refl 0, Nat.le_refl 0⟩ rfl dX9_findTime_77 (fun H locs hH => ?_)
      refine lv_if_eq (tgt := 121) hx hb dX9_findTime_80 (by decide) (fun c5 => ?_) (fun c5 => ?_)
      · have h := it_x h c5
        exact pX9_findTime_121 X (pX9_findTime_122 X ih) xs l5 l6 H locs ls h hH (lv_sub hl [0, 1, 2, 3, 4, 5] rfl)
      · have h := ie_x h c5
        refine lv_aload_n hx hb dX9_findTime_83 rfl (lv_at hl 0 rfl) ?_
        refine f_get X hH 0 rfl rfl 2 (by decide) inX9 fX9_13 rfl dX9_findTime_84 ?_
        refine lv_iload hx hb dX9_findTime_87 (lv_at hl 5 rfl) ?_
        obtain ⟨j3, ej3, hinj3, h⟩ := ga_x h
        refine a_il X hH 1 rfl hinj3 ej3 dX9_findTime_89 ?_
        refine lv_aload_n hx hb dX9_findTime_90 rfl (lv_at hl 0 rfl) ?_
        refine f_get X hH 0 rfl rfl 21 (by decide) inX9 fX9_57 rfl dX9_findTime_91 ?_
        refine lv_iload hx hb dX9_findTime_94 (lv_at hl 4 rfl) ?_
        obtain ⟨j4, ej4, hinj4, h⟩ := ga_x h
        refine a_il X hH 15 rfl hinj4 ej4 dX9_findTime_96 ?_
        refine lv_icmp_eq (tgt := 117) hx hb dX9_findTime_97 (by decide) (fun c8 => ?_) (fun c8 => ?_)
        · have h := it_x h c8
          exact pX9_findTime_117 X (pX9_findTime_122 X ih) xs l5 l6 H locs ls h hH (lv_sub hl [0, 1, 2, 3, 4, 5] rfl)
        · have h := ie_x h c8
          refine lv_aload_n hx hb dX9_findTime_100 rfl (lv_at hl 0 rfl) ?_
          refine f_get X hH 0 rfl rfl 3 (by decide) inX9 fX9_17 rfl dX9_findTime_101 ?_
          refine lv_iload hx hb dX9_findTime_104 (lv_at hl 5 rfl) ?_
          obtain ⟨j5, ej5, hinj5, h⟩ := ga_x h
          refine a_il X hH 2 rfl hinj5 ej5 dX9_findTime_106 ?_
          refine lv_aload_n hx hb dX9_findTime_107 rfl (lv_at hl 0 rfl) ?_
          refine f_get X hH 0 rfl rfl 21 (by decide) inX9 fX9_57 rfl dX9_findTime_108 ?_
          refine lv_iload hx hb dX9_findTime_111 (lv_at hl 4 rfl) ?_
          obtain ⟨j6, ej6, hinj6, h⟩ := ga_x h
          refine a_il X hH 15 rfl hinj6 ej6 dX9_findTime_113 ?_
          refine lv_icmp_ne (tgt := 121) hx hb dX9_findTime_114 (by decide) (fun c9 => ?_) (fun c9 => ?_)
          · have h := ie_x h c9
            exact pX9_findTime_121 X (pX9_findTime_122 X ih) xs l5 l6 H locs ls h hH (lv_sub hl [0, 1, 2, 3, 4, 5] rfl)
          · have h := it_x h c9
            exact pX9_findTime_117 X (pX9_findTime_122 X ih) xs l5 l6 H locs ls h hH (lv_sub hl [0, 1, 2, 3, 4, 5] rfl)
set_option maxHeartbeats 4000000 in
set_option maxRecDepth 100000 in
theorem pX9_findTime_50 {p : Program} {l : Launch} {e : Env} {s : State} {m : MethodId} {args : Array Value} {below : List Frame} {meth : Method} {c : Code} {g : GG} {w0 : va_W} {a : Nat → Nat} {i : Nat} {pa : Int32} {pb : Int32} {pc_ : Int32} {o : (Int32 × SX9)} (X : mX g yX9_findTime cX9_findTime 8 (some .boolean) p s m args meth c w0) :
  ∀ (fu : Nat) (xs : SX9) (l5 : Int32) (H : Heap) (locs : List Loc) (ls : Array Slot), qX9_findTime_50 pa pb pc_ fu xs l5 = some o → mH g s w0 (wX9 g a i xs) H locs → lv_has ls 8 [(0, .ref (a i)), (1, .int pa), (2, .int pb), (3, .int pc_), (5, .int l5)] → W p l e (rM 4 90) s m args below meth c H locs 0 0 (mZ g below args s w0 (wX9 g a i o.2) (some (.int o.1))) (F0 m 50 ls []) := by
  have hx := X.1
  have hb := X.2.1
  intro fu
  induction fu with
  | zero =>
    intro xs l5 H locs ls h
    unfold qX9_findTime_50 at h
    cases h
  | succ fu ih =>
    intro xs l5 H locs ls h hH hl
    unfold qX9_findTime_50 at h
    refine lv_iload hx hb dX9_findTime_50 (lv_at hl 4 rfl) ?_
    refine lv_aload_n hx hb dX9_findTime_52 rfl (lv_at hl 0 rfl) ?_
    refine f_get X hH 0 rfl rfl 22 (by decide) inX9 fX9_236 rfl dX9_findTime_53 ?_
    refine lv_icmp_ge (tgt := 183) hx hb dX9_findTime_56 (by decide) (fun c3 => ?_) (fun c3 => ?_)
    · have h := it_x h c3
      refine lv_aload_n hx hb dX9_findTime_183 rfl (lv_at hl 0 rfl) ?_
      refine lv_aload_n hx hb dX9_findTime_184 rfl (lv_at hl 0 rfl) ?_
      refine lv_iconst (v := (-1 : Int32)) hx hb dX9_findTime_185 (by decide) ?_
      obtain ⟨o4, ho4, h⟩ := bd_x h
      refine r_V X hH (ws1 := (wX9 g a i o4.2)) (As := [.int (-1 : Int32)]) (rest := [.ref (a i)]) (st1 := [.long o4.1, .ref (a i)]) (uX9_det (a := a) (i := i) ho4) kX9_det mX9_258 iX9_det vX9_det zX9 okX9_det ⟨Nat.le_of_ble_eq_true rfl, Nat.le_of_ble_eq_true rfl⟩ rfl rfl (q0 := 0) rfl rfl (pm_all _) (pm_all _) rfl hl.1 rfl (Nat.le_of_ble_eq_true rfl) ⟨Nat.le_refl 0, Nat.le_refl 0⟩ rfl dX9_findTime_186 (fun H locs hH => ?_)
      obtain ⟨xs3, exs3, h⟩ := ltt_x h
      refine f_put X hH (ws1 := (wX9 g a i xs3)) 0 rfl rfl 27 (by decide) inX9 tyX9 tyX9_ok nmX9 fX9_252 rfl rfl rfl (Nat.le_of_ble_eq_true rfl) (by rw [exs3]; rfl) dX9_findTime_189 (fun H locs hH => ?_)
      refine lv_aload_n hx hb dX9_findTime_192 rfl (lv_at hl 0 rfl) ?_
      refine lv_aload_n hx hb dX9_findTime_193 rfl (lv_at hl 0 rfl) ?_
      refine lv_aload_n hx hb dX9_findTime_194 rfl (lv_at hl 0 rfl) ?_
      refine lv_iload_n hx hb dX9_findTime_195 rfl (lv_at hl 1 rfl) ?_
      obtain ⟨o5, ho5, h⟩ := bd_x h
      refine r_V X hH (ws1 := (wX9 g a i xs3)) (As := [.int pa]) (rest := [.ref (a i), .ref (a i)]) (st1 := [.int o5, .ref (a i), .ref (a i)]) (uX9_columnOf (a := a) (i := i) ho5) kX9_columnOf mX9_262 iX9_columnOf vX9_columnOf zX9 okX9_columnOf ⟨Nat.le_of_ble_eq_true rfl, Nat.le_of_ble_eq_true rfl⟩ rfl rfl (q0 := 0) rfl rfl (pm_all _) (pm_all _) rfl hl.1 rfl (Nat.le_of_ble_eq_true rfl) ⟨Nat.le_refl 0, Nat.le_refl 0⟩ rfl dX9_findTime_196 (fun H locs hH => ?_)
      obtain ⟨o6, ho6, h⟩ := bd_x h
      refine r_V X hH (ws1 := (wX9 g a i o6.2)) (As := [.int o5]) (rest := [.ref (a i)]) (st1 := [.long o6.1, .ref (a i)]) (uX9_det (a := a) (i := i) ho6) kX9_det mX9_258 iX9_det vX9_det zX9 okX9_det ⟨Nat.le_of_ble_eq_true rfl, Nat.le_of_ble_eq_true rfl⟩ rfl rfl (q0 := 0) rfl rfl (pm_all _) (pm_all _) rfl hl.1 rfl (Nat.le_of_ble_eq_true rfl) ⟨Nat.le_refl 0, Nat.le_refl 0⟩ rfl dX9_findTime_199 (fun H locs hH => ?_)
      obtain ⟨xs4, exs4, h⟩ := ltt_x h
      refine f_put X hH (ws1 := (wX9 g a i xs4)) 0 rfl rfl 26 (by decide) inX9 tyX9 tyX9_ok nmX9 fX9_248 rfl rfl rfl (Nat.le_of_ble_eq_true rfl) (by rw [exs4]; rfl) dX9_findTime_202 (fun H locs hH => ?_)
      refine lv_iconst (v := (1 : Int32)) hx hb dX9_findTime_205 (by decide) ?_
      have h := Option.some.inj h
      subst h
      exact e_z X hH (Or.inr rfl) dX9_findTime_206
    · have h := ie_x h c3
      refine lv_iconst (v := (0 : Int32)) hx hb dX9_findTime_59 (by decide) ?_
      refine s_i X (lv' := [(6, .int (0 : Int32)), (0, .ref (a i)), (1, .int pa), (2, .int pb), (3, .int pc_), (5, .int l5)]) hl rfl dX9_findTime_60 (by decide) rfl (fun ls hl => ?_)
      exact pX9_findTime_62 X ih FU xs l5 (0 : Int32) H locs ls h hH (lv_sub hl [1, 2, 3, 4, 5, 0] rfl)
set_option maxHeartbeats 4000000 in
set_option maxRecDepth 100000 in
theorem uX9_findTime {l : Launch} {g : GG} {a : Nat → Nat} {i : Nat} {xs : SX9} {pa : Int32} {pb : Int32} {pc_ : Int32} {o : (Int32 × SX9)} (h : fX9_findTime xs pa pb pc_ = some o) : mC l g yX9_findTime cX9_findTime 8 (some .boolean) (rM 4 90) [.ref (a i), .int pa, .int pb, .int pc_] (wX9 g a i xs) (wX9 g a i o.2) (some (.int o.1)) := by
  refine mC.ofW (by decide) (fun p e s m below meth c X hH ls _ hl => ?_) (Nat.le_of_ble_eq_true rfl)
  have hx := X.1
  have hb := X.2.1
  have hl : lv_has ls 8 [(0, .ref (a i)), (1, .int pa), (2, .int pb), (3, .int pc_)] := hl
  unfold fX9_findTime at h
  suffices HH : ∀ (H : Heap) (locs : List Loc), mH g s (wX9 g a i xs) (wX9 g a i xs) H locs → W p l e (rM 4 90) s m _ below meth c H locs 0 0 (mZ g below _ s (wX9 g a i xs) (wX9 g a i o.2) (some (.int o.1))) (F0 m 0 ls []) from HH _ _ hH
  clear hH
  intro H locs hH
  refine lv_aload_n hx hb dX9_findTime_0 rfl (lv_at hl 0 rfl) ?_
  refine lv_lconst (v := (0 : Int64)) hx hb dX9_findTime_1 (by decide) ?_
  obtain ⟨xs1, exs1, h⟩ := ltt_x h
  refine f_put X hH (ws1 := (wX9 g a i xs1)) 0 rfl rfl 26 (by decide) inX9 tyX9 tyX9_ok nmX9 fX9_248 rfl rfl rfl (Nat.le_of_ble_eq_true rfl) (by rw [exs1]; rfl) dX9_findTime_2 (fun H locs hH => ?_)
  refine lv_aload_n hx hb dX9_findTime_5 rfl (lv_at hl 0 rfl) ?_
  refine lv_lconst (v := (1 : Int64)) hx hb dX9_findTime_6 (by decide) ?_
  obtain ⟨xs2, exs2, h⟩ := ltt_x h
  refine f_put X hH (ws1 := (wX9 g a i xs2)) 0 rfl rfl 27 (by decide) inX9 tyX9 tyX9_ok nmX9 fX9_252 rfl rfl rfl (Nat.le_of_ble_eq_true rfl) (by rw [exs2]; rfl) dX9_findTime_7 (fun H locs hH => ?_)
  refine lv_iload_n hx hb dX9_findTime_10 rfl (lv_at hl 1 rfl) ?_
  refine lv_iload_n hx hb dX9_findTime_11 rfl (lv_at hl 2 rfl) ?_
  refine lv_icmp_ne (tgt := 17) hx hb dX9_findTime_12 (by decide) (fun c1 => ?_) (fun c1 => ?_)
  · have h := ie_x h c1
    refine lv_aload_n hx hb dX9_findTime_17 rfl (lv_at hl 0 rfl) ?_
    refine lv_iload_n hx hb dX9_findTime_18 rfl (lv_at hl 2 rfl) ?_
    obtain ⟨o1, ho1, h⟩ := bd_x h
    refine r_V X hH (ws1 := (wX9 g a i xs2)) (As := [.int pb]) (rest := []) (st1 := [.int o1]) (uX9_reach (a := a) (i := i) ho1) kX9_reach mX9_233 iX9_reach vX9_reach zX9 okX9_reach ⟨Nat.le_of_ble_eq_true rfl, Nat.le_of_ble_eq_true rfl⟩ rfl rfl (q0 := 0) rfl rfl (pm_all _) (pm_all _) rfl hl.1 rfl (Nat.le_of_ble_eq_true rfl) ⟨Nat.le_refl 0, Nat.le_refl 0⟩ rfl dX9_findTime_19 (fun H locs hH => ?_)
    refine s_i X (lv' := [(4, .int o1), (0, .ref (a i)), (1, .int pa), (2, .int pb), (3, .int pc_)]) hl rfl dX9_findTime_22 (by decide) rfl (fun ls hl => ?_)
    refine lv_iload hx hb dX9_findTime_24 (lv_at hl 0 rfl) ?_
    refine lv_iload_n hx hb dX9_findTime_26 rfl (lv_at hl 2 rfl) ?_
    obtain ⟨o2, ho2, h⟩ := bd_x h
    refine r_S X hH (ws1 := (wX9 g a i xs2)) (As := [.int o1, .int pa]) (rest := []) (st1 := [.int o2]) (uX9_has  ho2) kX9_has mX9_226 sX9_has zX9 okX9_has ⟨Nat.le_of_ble_eq_true rfl, Nat.le_of_ble_eq_true rfl⟩ rfl rfl (pm_none _) (pm_none _) rfl hl.1 rfl (Nat.le_of_ble_eq_true rfl) ⟨Nat.le_refl 0, Nat.le_refl 0⟩ rfl dX9_findTime_27 (fun H locs hH => ?_)
    refine lv_if_ne (tgt := 35) hx hb dX9_findTime_30 (by decide) (fun c2 => ?_) (fun c2 => ?_)
    · have h := ie_x h c2
      refine lv_aload_n hx hb dX9_findTime_35 rfl (lv_at hl 1 rfl) ?_
      refine lv_iload hx hb dX9_findTime_36 (lv_at hl 0 rfl) ?_
      refine lv_iconst (v := (1 : Int32)) hx hb dX9_findTime_38 (by decide) ?_
      refine lv_iload_n hx hb dX9_findTime_39 rfl (lv_at hl 3 rfl) ?_
      refine lv_ishl hx hb dX9_findTime_40 ?_
      refine lv_iconst (v := (-1 : Int32)) hx hb dX9_findTime_41 (by decide) ?_
      refine lv_ixor hx hb dX9_findTime_42 ?_
      refine lv_iand hx hb dX9_findTime_43 ?_
      obtain ⟨o3, ho3, h⟩ := bd_x h
      refine r_V X hH (ws1 := (wX9 g a i o3)) (As := [.int (o1 &&& (((1 : Int32) <<< (pb &&& 31)) ^^^ (-1 : Int32)))]) (rest := []) (st1 := []) (uX9_within (a := a) (i := i) ho3) kX9_within mX9_255 iX9_within vX9_within zX9 okX9_within ⟨Nat.le_of_ble_eq_true rfl, Nat.le_of_ble_eq_true rfl⟩ rfl rfl (q0 := 0) rfl rfl (pm_all _) (pm_all _) rfl hl.1 rfl (Nat.le_of_ble_eq_true rfl) ⟨Nat.le_refl 0, Nat.le_refl 0⟩ rfl dX9_findTime_44 (fun H locs hH => ?_)
      refine lv_iconst (v := (0 : Int32)) hx hb dX9_findTime_47 (by decide) ?_
      refine s_i X (lv' := [(5, .int (0 : Int32)), (4, .int o1), (0, .ref (a i)), (1, .int pa), (2, .int pb), (3, .int pc_)]) hl rfl dX9_findTime_48 (by decide) rfl (fun ls hl => ?_)
      exact pX9_findTime_50 X FU o3 (0 : Int32) H locs ls h hH (lv_sub hl [2, 3, 4, 5, 0] rfl)
    · have h := it_x h c2
      refine lv_iconst (v := (0 : Int32)) hx hb dX9_findTime_33 (by decide) ?_
      have h := Option.some.inj h
      subst h
      exact e_z X hH (Or.inl rfl) dX9_findTime_34
  · have h := it_x h c1
    refine lv_iconst (v := (1 : Int32)) hx hb dX9_findTime_15 (by decide) ?_
    have h := Option.some.inj h
    subst h
    exact e_z X hH (Or.inr rfl) dX9_findTime_16
