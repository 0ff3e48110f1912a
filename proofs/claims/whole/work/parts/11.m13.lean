def fX9_sure (xs : SX9) (pa : Int32) (pb : Int32) (pc_ : Int32) (pd : Int32) : Option (Int64 × SX9) :=
  (fX9_notDoubt xs pa pb pc_ (0 : Int32) pd).bind fun o1 =>
  (if o1 = (0 : Int32) then
  (fX9_doubted xs pa pb pc_ (-1 : Int32) pd).bind fun o2 =>
  some (o2.1, o2.2)
  else
  (fX9_far xs o1).bind fun o3 =>
  some (o3.1, o3.2))
set_option maxHeartbeats 4000000 in
set_option maxRecDepth 100000 in
theorem uX9_sure {l : Launch} {g : GG} {a : Nat → Nat} {i : Nat} {xs : SX9} {pa : Int32} {pb : Int32} {pc_ : Int32} {pd : Int32} {o : (Int64 × SX9)} (h : fX9_sure xs pa pb pc_ pd = some o) : mC l g yX9_sure cX9_sure 6 (some .long) (rM 6 152) [.ref (a i), .int pa, .int pb, .int pc_, .int pd] (wX9 g a i xs) (wX9 g a i o.2) (some (.long o.1)) := by
  refine mC.ofW (by decide) (fun p e s m below meth c X hH ls _ hl => ?_) (Nat.le_of_ble_eq_true rfl)
  have hx := X.1
  have hb := X.2.1
  have hl : lv_has ls 6 [(0, .ref (a i)), (1, .int pa), (2, .int pb), (3, .int pc_), (4, .int pd)] := hl
  unfold fX9_sure at h
  suffices HH : ∀ (H : Heap) (locs : List Loc), mH g s (wX9 g a i xs) (wX9 g a i xs) H locs → W p l e (rM 6 152) s m _ below meth c H locs 0 0 (mZ g below _ s (wX9 g a i xs) (wX9 g a i o.2) (some (.long o.1))) (F0 m 0 ls []) from HH _ _ hH
  clear hH
  intro H locs hH
  refine lv_aload_n hx hb dX9_sure_0 rfl (lv_at hl 0 rfl) ?_
  refine lv_iload_n hx hb dX9_sure_1 rfl (lv_at hl 1 rfl) ?_
  refine lv_iload_n hx hb dX9_sure_2 rfl (lv_at hl 2 rfl) ?_
  refine lv_iload_n hx hb dX9_sure_3 rfl (lv_at hl 3 rfl) ?_
  refine lv_iconst (v := (0 : Int32)) hx hb dX9_sure_4 (by decide) ?_
  refine lv_iload hx hb dX9_sure_5 (lv_at hl 4 rfl) ?_
  obtain ⟨o1, ho1, h⟩ := bd_x h
  refine r_V X hH (ws1 := (wX9 g a i xs)) (As := [.int pa, .int pb, .int pc_, .int (0 : Int32), .int pd]) (rest := []) (st1 := [.int o1]) (uX9_notDoubt (a := a) (i := i) ho1) kX9_notDoubt mX9_310 iX9_notDoubt vX9_notDoubt zX9 okX9_notDoubt ⟨Nat.le_of_ble_eq_true rfl, Nat.le_of_ble_eq_true rfl⟩ rfl rfl (q0 := 0) rfl rfl (pm_all _) (pm_all _) rfl hl.1 rfl (Nat.le_of_ble_eq_true rfl) ⟨Nat.le_refl 0, Nat.le_refl 0⟩ rfl dX9_sure_7 (fun H locs hH => ?_)
  refine s_i X (lv' := [(5, .int o1), (0, .ref (a i)), (1, .int pa), (2, .int pb), (3, .int pc_), (4, .int pd)]) hl rfl dX9_sure_10 (by decide) rfl (fun ls hl => ?_)
  refine lv_iload hx hb dX9_sure_12 (lv_at hl 0 rfl) ?_
  refine lv_if_eq (tgt := 26) hx hb dX9_sure_14 (by decide) (fun c1 => ?_) (fun c1 => ?_)
  · have h := it_x h c1
    refine lv_aload_n hx hb dX9_sure_26 rfl (lv_at hl 1 rfl) ?_
    refine lv_iload_n hx hb dX9_sure_27 rfl (lv_at hl 2 rfl) ?_
    refine lv_iload_n hx hb dX9_sure_28 rfl (lv_at hl 3 rfl) ?_
    refine lv_iload_n hx hb dX9_sure_29 rfl (lv_at hl 4 rfl) ?_
    refine lv_iconst (v := (-1 : Int32)) hx hb dX9_sure_30 (by decide) ?_
    refine lv_iload hx hb dX9_sure_31 (lv_at hl 5 rfl) ?_
    obtain ⟨o2, ho2, h⟩ := bd_x h
    refine r_V X hH (ws1 := (wX9 g a i o2.2)) (As := [.int pa, .int pb, .int pc_, .int (-1 : Int32), .int pd]) (rest := []) (st1 := [.long o2.1]) (uX9_doubted (a := a) (i := i) ho2) kX9_doubted mX9_314 iX9_doubted vX9_doubted zX9 okX9_doubted ⟨Nat.le_of_ble_eq_true rfl, Nat.le_of_ble_eq_true rfl⟩ rfl rfl (q0 := 0) rfl rfl (pm_all _) (pm_all _) rfl hl.1 rfl (Nat.le_of_ble_eq_true rfl) ⟨Nat.le_refl 0, Nat.le_refl 0⟩ rfl dX9_sure_33 (fun H locs hH => ?_)
    have h := Option.some.inj h
    subst h
    exact e_l X hH dX9_sure_36
  · have h := ie_x h c1
    refine lv_aload_n hx hb dX9_sure_17 rfl (lv_at hl 1 rfl) ?_
    refine lv_iload hx hb dX9_sure_18 (lv_at hl 0 rfl) ?_
    obtain ⟨o3, ho3, h⟩ := bd_x h
    refine r_V X hH (ws1 := (wX9 g a i o3.2)) (As := [.int o1]) (rest := []) (st1 := [.long o3.1]) (uX9_far (a := a) (i := i) ho3) kX9_far mX9_272 iX9_far vX9_far zX9 okX9_far ⟨Nat.le_of_ble_eq_true rfl, Nat.le_of_ble_eq_true rfl⟩ rfl rfl (q0 := 0) rfl rfl (pm_all _) (pm_all _) rfl hl.1 rfl (Nat.le_of_ble_eq_true rfl) ⟨Nat.le_refl 0, Nat.le_refl 0⟩ rfl dX9_sure_20 (fun H locs hH => ?_)
    refine lv_goto (tgt := 36) hx hb dX9_sure_23 (by decide) ?_
    have h := Option.some.inj h
    subst h
    exact e_l X hH dX9_sure_36

def fX9_fast (xs : SX9) (pa : Int32) (pb : Int32) (pc_ : Int32) (pd : Int32) (pe : Int32) : Option (Int64 × SX9) :=
  (fX9_notDoubt xs pa pb pc_ pd pe).bind fun o1 =>
  (if o1 = (0 : Int32) then
  (fX9_doubted xs pa pb pc_ pd pe).bind fun o2 =>
  some (o2.1, o2.2)
  else
  (fX9_far xs o1).bind fun o3 =>
  some (o3.1, o3.2))
set_option maxHeartbeats 4000000 in
set_option maxRecDepth 100000 in
theorem uX9_fast {l : Launch} {g : GG} {a : Nat → Nat} {i : Nat} {xs : SX9} {pa : Int32} {pb : Int32} {pc_ : Int32} {pd : Int32} {pe : Int32} {o : (Int64 × SX9)} (h : fX9_fast xs pa pb pc_ pd pe = some o) : mC l g yX9_fast cX9_fast 7 (some .long) (rM 6 152) [.ref (a i), .int pa, .int pb, .int pc_, .int pd, .int pe] (wX9 g a i xs) (wX9 g a i o.2) (some (.long o.1)) := by
  refine mC.ofW (by decide) (fun p e s m below meth c X hH ls _ hl => ?_) (Nat.le_of_ble_eq_true rfl)
  have hx := X.1
  have hb := X.2.1
  have hl : lv_has ls 7 [(0, .ref (a i)), (1, .int pa), (2, .int pb), (3, .int pc_), (4, .int pd), (5, .int pe)] := hl
  unfold fX9_fast at h
  suffices HH : ∀ (H : Heap) (locs : List Loc), mH g s (wX9 g a i xs) (wX9 g a i xs) H locs → W p l e (rM 6 152) s m _ below meth c H locs 0 0 (mZ g below _ s (wX9 g a i xs) (wX9 g a i o.2) (some (.long o.1))) (F0 m 0 ls []) from HH _ _ hH
  clear hH
  intro H locs hH
  refine lv_aload_n hx hb dX9_fast_0 rfl (lv_at hl 0 rfl) ?_
  refine lv_iload_n hx hb dX9_fast_1 rfl (lv_at hl 1 rfl) ?_
  refine lv_iload_n hx hb dX9_fast_2 rfl (lv_at hl 2 rfl) ?_
  refine lv_iload_n hx hb dX9_fast_3 rfl (lv_at hl 3 rfl) ?_
  refine lv_iload hx hb dX9_fast_4 (lv_at hl 4 rfl) ?_
  refine lv_iload hx hb dX9_fast_6 (lv_at hl 5 rfl) ?_
  obtain ⟨o1, ho1, h⟩ := bd_x h
  refine r_V X hH (ws1 := (wX9 g a i xs)) (As := [.int pa, .int pb, .int pc_, .int pd, .int pe]) (rest := []) (st1 := [.int o1]) (uX9_notDoubt (a := a) (i := i) ho1) kX9_notDoubt mX9_310 iX9_notDoubt vX9_notDoubt zX9 okX9_notDoubt ⟨Nat.le_of_ble_eq_true rfl, Nat.le_of_ble_eq_true rfl⟩ rfl rfl (q0 := 0) rfl rfl (pm_all _) (pm_all _) rfl hl.1 rfl (Nat.le_of_ble_eq_true rfl) ⟨Nat.le_refl 0, Nat.le_refl 0⟩ rfl dX9_fast_8 (fun H locs hH => ?_)
  refine s_i X (lv' := [(6, .int o1), (0, .ref (a i)), (1, .int pa), (2, .int pb), (3, .int pc_), (4, .int pd), (5, .int pe)]) hl rfl dX9_fast_11 (by decide) rfl (fun ls hl => ?_)
  refine lv_iload hx hb dX9_fast_13 (lv_at hl 0 rfl) ?_
  refine lv_if_eq (tgt := 27) hx hb dX9_fast_15 (by decide) (fun c1 => ?_) (fun c1 => ?_)
  · have h := it_x h c1
    refine lv_aload_n hx hb dX9_fast_27 rfl (lv_at hl 1 rfl) ?_
    refine lv_iload_n hx hb dX9_fast_28 rfl (lv_at hl 2 rfl) ?_
    refine lv_iload_n hx hb dX9_fast_29 rfl (lv_at hl 3 rfl) ?_
    refine lv_iload_n hx hb dX9_fast_30 rfl (lv_at hl 4 rfl) ?_
    refine lv_iload hx hb dX9_fast_31 (lv_at hl 5 rfl) ?_
    refine lv_iload hx hb dX9_fast_33 (lv_at hl 6 rfl) ?_
    obtain ⟨o2, ho2, h⟩ := bd_x h
    refine r_V X hH (ws1 := (wX9 g a i o2.2)) (As := [.int pa, .int pb, .int pc_, .int pd, .int pe]) (rest := []) (st1 := [.long o2.1]) (uX9_doubted (a := a) (i := i) ho2) kX9_doubted mX9_314 iX9_doubted vX9_doubted zX9 okX9_doubted ⟨Nat.le_of_ble_eq_true rfl, Nat.le_of_ble_eq_true rfl⟩ rfl rfl (q0 := 0) rfl rfl (pm_all _) (pm_all _) rfl hl.1 rfl (Nat.le_of_ble_eq_true rfl) ⟨Nat.le_refl 0, Nat.le_refl 0⟩ rfl dX9_fast_35 (fun H locs hH => ?_)
    have h := Option.some.inj h
    subst h
    exact e_l X hH dX9_fast_38
  · have h := ie_x h c1
    refine lv_aload_n hx hb dX9_fast_18 rfl (lv_at hl 1 rfl) ?_
    refine lv_iload hx hb dX9_fast_19 (lv_at hl 0 rfl) ?_
    obtain ⟨o3, ho3, h⟩ := bd_x h
    refine r_V X hH (ws1 := (wX9 g a i o3.2)) (As := [.int o1]) (rest := []) (st1 := [.long o3.1]) (uX9_far (a := a) (i := i) ho3) kX9_far mX9_272 iX9_far vX9_far zX9 okX9_far ⟨Nat.le_of_ble_eq_true rfl, Nat.le_of_ble_eq_true rfl⟩ rfl rfl (q0 := 0) rfl rfl (pm_all _) (pm_all _) rfl hl.1 rfl (Nat.le_of_ble_eq_true rfl) ⟨Nat.le_refl 0, Nat.le_refl 0⟩ rfl dX9_fast_21 (fun H locs hH => ?_)
    refine lv_goto (tgt := 38) hx hb dX9_fast_24 (by decide) ?_
    have h := Option.some.inj h
    subst h
    exact e_l X hH dX9_fast_38

def fJxe99ae_isNaN_b9ae7 (pa : UInt64) : Option Int32 :=
  (if (Op.cmpValue (FP.dcmp pa pa) CmpOp.l) = (0 : Int32) then
  some (0 : Int32)
  else
  some (1 : Int32))
set_option maxHeartbeats 4000000 in
set_option maxRecDepth 100000 in
theorem uJxe99ae_isNaN_b9ae7 {l : Launch} {g : GG}  {pa : UInt64} {o : Int32} (h : fJxe99ae_isNaN_b9ae7 pa = some o) : mC l g yJxe99ae_isNaN_b9ae7 cJxe99ae_isNaN_b9ae7 2 (some .boolean) (rM 0 0) [.double pa] [] [] (some (.int o)) := by
  refine mC.ofW (by decide) (fun p e s m below meth c X hH ls _ hl => ?_) (Nat.le_of_ble_eq_true rfl)
  have hx := X.1
  have hb := X.2.1
  have hl : lv_has ls 2 [(0, .double pa)] := hl
  unfold fJxe99ae_isNaN_b9ae7 at h
  suffices HH : ∀ (H : Heap) (locs : List Loc), mH g s [] [] H locs → W p l e (rM 0 0) s m _ below meth c H locs 0 0 (mZ g below _ s [] [] (some (.int o))) (F0 m 0 ls []) from HH _ _ hH
  clear hH
  intro H locs hH
  refine lv_dload_n hx hb dJxe99ae_isNaN_b9ae7_0 rfl (lv_at hl 0 rfl) ?_
  refine lv_dload_n hx hb dJxe99ae_isNaN_b9ae7_1 rfl (lv_at hl 0 rfl) ?_
  refine lv_dcmp hx hb dJxe99ae_isNaN_b9ae7_2 ?_
  refine lv_if_eq (tgt := 10) hx hb dJxe99ae_isNaN_b9ae7_3 (by decide) (fun c1 => ?_) (fun c1 => ?_)
  · have h := it_x h c1
    refine lv_iconst (v := (0 : Int32)) hx hb dJxe99ae_isNaN_b9ae7_10 (by decide) ?_
    have h := Option.some.inj h
    subst h
    exact e_z X hH (Or.inl rfl) dJxe99ae_isNaN_b9ae7_11
  · have h := ie_x h c1
    refine lv_iconst (v := (1 : Int32)) hx hb dJxe99ae_isNaN_b9ae7_6 (by decide) ?_
    refine lv_goto (tgt := 11) hx hb dJxe99ae_isNaN_b9ae7_7 (by decide) ?_
    have h := Option.some.inj h
    subst h
    exact e_z X hH (Or.inr rfl) dJxe99ae_isNaN_b9ae7_11

def fJxe99ae_doubleToLongBits_ccdee (pa : UInt64) : Option Int64 :=
  (fJxe99ae_isNaN_b9ae7 pa).bind fun o1 =>
  (if o1 = (0 : Int32) then
  some (pa.toInt64)
  else
  some (9221120237041090560 : Int64))
set_option maxHeartbeats 4000000 in
set_option maxRecDepth 100000 in
theorem uJxe99ae_doubleToLongBits_ccdee {l : Launch} {g : GG}  {pa : UInt64} {o : Int64} (h : fJxe99ae_doubleToLongBits_ccdee pa = some o) : mC l g yJxe99ae_doubleToLongBits_ccdee cJxe99ae_doubleToLongBits_ccdee 2 (some .long) (rM 1 23) [.double pa] [] [] (some (.long o)) := by
  refine mC.ofW (by decide) (fun p e s m below meth c X hH ls _ hl => ?_) (Nat.le_of_ble_eq_true rfl)
  have hx := X.1
  have hb := X.2.1
  have hl : lv_has ls 2 [(0, .double pa)] := hl
  unfold fJxe99ae_doubleToLongBits_ccdee at h
  suffices HH : ∀ (H : Heap) (locs : List Loc), mH g s [] [] H locs → W p l e (rM 1 23) s m _ below meth c H locs 0 0 (mZ g below _ s [] [] (some (.long o))) (F0 m 0 ls []) from HH _ _ hH
  clear hH
  intro H locs hH
  refine lv_dload_n hx hb dJxe99ae_doubleToLongBits_ccdee_0 rfl (lv_at hl 0 rfl) ?_
  obtain ⟨o1, ho1, h⟩ := bd_x h
  refine r_S X hH (ws1 := []) (As := [.double pa]) (rest := []) (st1 := [.int o1]) (uJxe99ae_isNaN_b9ae7  ho1) kJxe99ae_isNaN_b9ae7 mJxe99ae_122 sJxe99ae_isNaN_b9ae7 zJxe99ae okJxe99ae_isNaN_b9ae7 ⟨Nat.le_of_ble_eq_true rfl, Nat.le_of_ble_eq_true rfl⟩ rfl rfl (pm_none _) (pm_none _) rfl hl.1 rfl (Nat.le_of_ble_eq_true rfl) ⟨Nat.le_refl 0, Nat.le_refl 0⟩ rfl dJxe99ae_doubleToLongBits_ccdee_1 (fun H locs hH => ?_)
  refine lv_if_ne (tgt := 12) hx hb dJxe99ae_doubleToLongBits_ccdee_4 (by decide) (fun c1 => ?_) (fun c1 => ?_)
  · have h := ie_x h c1
    refine lv_ldc2 hx hb X.2.2.2.2.1 (X.2.2.2.2.2.1 _ nJxe99ae_137) dJxe99ae_doubleToLongBits_ccdee_12 ?_
    have h := Option.some.inj h
    subst h
    exact e_l X hH dJxe99ae_doubleToLongBits_ccdee_15
  · have h := it_x h c1
    refine lv_dload_n hx hb dJxe99ae_doubleToLongBits_ccdee_7 rfl (lv_at hl 0 rfl) ?_
    refine vn_d2l hx hb (X.2.2.2.1.trans hl.1.symm) X.2.2.2.2.1 (X.2.2.2.2.2.1 _ dn_link) (X.2.2.2.2.2.1 _ dn_nat) (X.2.2.2.2.2.1 _ dn_stat) (X.2.2.2.2.2.1 _ zJxe99ae) (Nat.le_of_ble_eq_true rfl) (Nat.le_of_ble_eq_true rfl) dJxe99ae_doubleToLongBits_ccdee_8 ?_
    have h := Option.some.inj h
    subst h
    exact e_l X hH dJxe99ae_doubleToLongBits_ccdee_11

def qX9_bySteps_16 (pa : Int32) (pb : Int32) (pc_ : Int32) (pd : Int32)  (xs : SX9) : Option (Int64 × SX9) :=
  (fX9_far xs (-1 : Int32)).bind fun o2 =>
  some (o2.1, o2.2)
def qX9_bySteps_288 (pa : Int32) (pb : Int32) (pc_ : Int32) (pd : Int32) (k105 : SX9 → Int32 → Option (Int64 × SX9)) : Nat → SX9 → Int32 → Int32 → Option (Int64 × SX9)
  | 0, _, _, _ => none
  | fu + 1, xs, l5, l6 =>
  (if (6 : Int32) ≤ l6 then
  ltt (l5 + (1 : Int32)) fun v1 =>
  k105 xs v1
  else
  ga 6 l6 fun j3 =>
  ltt (((m_then xs) j3)) fun v2 =>
  ga 6 l6 fun j4 =>
  ltt ((m_now_s xs (vf_upd (m_now xs) j4 v2))) fun xs1 =>
  ltt (l6 + (1 : Int32)) fun v3 =>
  qX9_bySteps_288 pa pb pc_ pd k105 fu xs1 l5 v3)
def qX9_bySteps_242 (pa : Int32) (pb : Int32) (pc_ : Int32) (pd : Int32) (k273 : SX9 → Int32 → Int32 → Int32 → Int32 → Option (Int64 × SX9)) (xs : SX9) (l5 : Int32) (l6 : Int32) (l7 : Int32) (l8 : Int32) (t0 : Int32) : Option (Int64 × SX9) :=
  ga 6 t0 fun j8 =>
  ga 6 l6 fun j9 =>
  (fX9_weight xs l8).bind fun o8 =>
  gn (FP.dmul ((m_now xs) j9) (FP.i2d o8)) <|
  gn (FP.ddiv (FP.dmul ((m_now xs) j9) (FP.i2d o8)) (FP.i2d l7)) <|
  gn (FP.dadd ((m_then xs) j8) (FP.ddiv (FP.dmul ((m_now xs) j9) (FP.i2d o8)) (FP.i2d l7))) <|
  ltt ((FP.dadd ((m_then xs) j8) (FP.ddiv (FP.dmul ((m_now xs) j9) (FP.i2d o8)) (FP.i2d l7)))) fun v5 =>
  ga 6 t0 fun j10 =>
  ltt ((m_then_s xs (vf_upd (m_then xs) j10 v5))) fun xs2 =>
  k273 xs2 l5 l6 l7 l8
def qX9_bySteps_213 (pa : Int32) (pb : Int32) (pc_ : Int32) (pd : Int32) (k273 : SX9 → Int32 → Int32 → Int32 → Int32 → Option (Int64 × SX9)) (xs : SX9) (l5 : Int32) (l6 : Int32) (l7 : Int32) (l8 : Int32) : Option (Int64 × SX9) :=
  ga 11 l8 fun j6 =>
  (if ((m_first xs) j6) = l6 then
  ga 11 l8 fun j11 =>
  qX9_bySteps_242 pa pb pc_ pd k273 xs l5 l6 l7 l8 ((m_second xs) j11)
  else
  ga 11 l8 fun j7 =>
  qX9_bySteps_242 pa pb pc_ pd k273 xs l5 l6 l7 l8 ((m_first xs) j7))
def qX9_bySteps_273 (pa : Int32) (pb : Int32) (pc_ : Int32) (pd : Int32) (k177 : SX9 → Int32 → Int32 → Int32 → Int32 → Option (Int64 × SX9)) (xs : SX9) (l5 : Int32) (l6 : Int32) (l7 : Int32) (l8 : Int32) : Option (Int64 × SX9) :=
  ltt (l8 + (1 : Int32)) fun v6 =>
  k177 xs l5 l6 l7 v6
def qX9_bySteps_177 (pa : Int32) (pb : Int32) (pc_ : Int32) (pd : Int32) (k138 : SX9 → Int32 → Int32 → Option (Int64 × SX9)) : Nat → SX9 → Int32 → Int32 → Int32 → Int32 → Option (Int64 × SX9)
  | 0, _, _, _, _, _ => none
  | fu + 1, xs, l5, l6, l7, l8 =>
  (if (m_many xs) ≤ l8 then
  ltt (l6 + (1 : Int32)) fun v4 =>
  k138 xs l5 v4
  else
  ga 11 l8 fun j5 =>
  (if ((m_first xs) j5) = l6 then
  qX9_bySteps_213 pa pb pc_ pd (qX9_bySteps_273 pa pb pc_ pd (qX9_bySteps_177 pa pb pc_ pd k138 fu)) xs l5 l6 l7 l8
  else
  ga 11 l8 fun j12 =>
  (if ((m_second xs) j12) = l6 then
  qX9_bySteps_213 pa pb pc_ pd (qX9_bySteps_273 pa pb pc_ pd (qX9_bySteps_177 pa pb pc_ pd k138 fu)) xs l5 l6 l7 l8
  else
  qX9_bySteps_273 pa pb pc_ pd (qX9_bySteps_177 pa pb pc_ pd k138 fu) xs l5 l6 l7 l8)))
def qX9_bySteps_174 (pa : Int32) (pb : Int32) (pc_ : Int32) (pd : Int32) (k138 : SX9 → Int32 → Int32 → Option (Int64 × SX9)) (xs : SX9) (l5 : Int32) (l6 : Int32) (l7 : Int32) : Option (Int64 × SX9) :=
  qX9_bySteps_177 pa pb pc_ pd k138 FU xs l5 l6 l7 (0 : Int32)
def qX9_bySteps_138 (pa : Int32) (pb : Int32) (pc_ : Int32) (pd : Int32) (k105 : SX9 → Int32 → Option (Int64 × SX9)) : Nat → SX9 → Int32 → Int32 → Option (Int64 × SX9)
  | 0, _, _, _ => none
  | fu + 1, xs, l5, l6 =>
  (if (m_points xs) ≤ l6 then
  qX9_bySteps_288 pa pb pc_ pd k105 FU xs l5 (0 : Int32)
  else
  (fX9_weightsAt xs l6).bind fun o7 =>
  (if o7 = (0 : Int32) then
  ga 6 l6 fun j13 =>
  ltt (((m_now xs) j13)) fun v7 =>
  ga 6 l6 fun j14 =>
  ltt ((m_then_s xs (vf_upd (m_then xs) j14 v7))) fun xs3 =>
  qX9_bySteps_174 pa pb pc_ pd (qX9_bySteps_138 pa pb pc_ pd k105 fu) xs3 l5 l6 o7
  else
  qX9_bySteps_174 pa pb pc_ pd (qX9_bySteps_138 pa pb pc_ pd k105 fu) xs l5 l6 o7))
def qX9_bySteps_114 (pa : Int32) (pb : Int32) (pc_ : Int32) (pd : Int32) (k105 : SX9 → Int32 → Option (Int64 × SX9)) : Nat → SX9 → Int32 → Int32 → Option (Int64 × SX9)
  | 0, _, _, _ => none
  | fu + 1, xs, l5, l6 =>
  (if (6 : Int32) ≤ l6 then
  qX9_bySteps_138 pa pb pc_ pd k105 FU xs l5 (0 : Int32)
  else
  ga 6 l6 fun j15 =>
  ltt ((m_then_s xs (vf_upd (m_then xs) j15 (0 : UInt64)))) fun xs4 =>
  ltt (l6 + (1 : Int32)) fun v8 =>
  qX9_bySteps_114 pa pb pc_ pd k105 fu xs4 l5 v8)
def qX9_bySteps_105 (pa : Int32) (pb : Int32) (pc_ : Int32) (pd : Int32)  : Nat → SX9 → Int32 → Option (Int64 × SX9)
  | 0, _, _ => none
  | fu + 1, xs, l5 =>
  (if pc_ ≤ l5 then
  (if pd = (0 : Int32) then
  ga 6 pb fun j2 =>
  (fJxe99ae_doubleToLongBits_ccdee ((m_now xs) j2)).bind fun o6 =>
  some (o6, xs)
  else
  ga 6 pb fun j1 =>
  gn (FP.dmul ((m_now xs) j1) (4696837146684686336 : UInt64)) <|
  some (((FP.d2i (FP.dmul ((m_now xs) j1) (4696837146684686336 : UInt64))).toInt64), xs))
  else
  qX9_bySteps_114 pa pb pc_ pd (qX9_bySteps_105 pa pb pc_ pd  fu) FU xs l5 (0 : Int32))
def qX9_bySteps_95 (pa : Int32) (pb : Int32) (pc_ : Int32) (pd : Int32) (k71 : SX9 → Int32 → Option (Int64 × SX9)) (xs : SX9) (l5 : Int32) (t1 : Int32) (t2 : UInt64) : Option (Int64 × SX9) :=
  ga 6 t1 fun j16 =>
  ltt ((m_now_s xs (vf_upd (m_now xs) j16 t2))) fun xs5 =>
  ltt (l5 + (1 : Int32)) fun v9 =>
  k71 xs5 v9
def qX9_bySteps_71 (pa : Int32) (pb : Int32) (pc_ : Int32) (pd : Int32)  : Nat → SX9 → Int32 → Option (Int64 × SX9)
  | 0, _, _ => none
  | fu + 1, xs, l5 =>
  (if (6 : Int32) ≤ l5 then
  qX9_bySteps_105 pa pb pc_ pd FU xs (0 : Int32)
  else
  (if l5 = pa then
  qX9_bySteps_95 pa pb pc_ pd (qX9_bySteps_71 pa pb pc_ pd  fu) xs l5 l5 (4607182418800017408 : UInt64)
  else
  qX9_bySteps_95 pa pb pc_ pd (qX9_bySteps_71 pa pb pc_ pd  fu) xs l5 l5 (0 : UInt64)))
def fX9_bySteps (xs : SX9) (pa : Int32) (pb : Int32) (pc_ : Int32) (pd : Int32) : Option (Int64 × SX9) :=
  (fX9_isPoint xs pa).bind fun o1 =>
  (if o1 = (0 : Int32) then
  qX9_bySteps_16 pa pb pc_ pd xs
  else
  (fX9_isPoint xs pb).bind fun o3 =>
  (if o3 = (0 : Int32) then
  qX9_bySteps_16 pa pb pc_ pd xs
  else
  (if (0 : Int32) ≤ pc_ then
  (if pc_ ≤ (30 : Int32) then
  (fX9_isIn (pd.toInt64) (0 : Int64) (1 : Int64)).bind fun o4 =>
  (if o4 = (0 : Int32) then
  (fX9_far xs (-2 : Int32)).bind fun o9 =>
  some (o9.1, o9.2)
  else
  (fX9_allThere xs).bind fun o5 =>
  qX9_bySteps_71 pa pb pc_ pd FU o5 (0 : Int32))
  else
  (fX9_far xs (-6 : Int32)).bind fun o10 =>
  some (o10.1, o10.2))
  else
  (fX9_far xs (-4 : Int32)).bind fun o11 =>
  some (o11.1, o11.2))))
set_option maxHeartbeats 4000000 in
set_option maxRecDepth 100000 in
theorem pX9_bySteps_16 {p : Program} {l : Launch} {e : Env} {s : State} {m : MethodId} {args : Array Value} {below : List Frame} {meth : Method} {c : Code} {g : GG} {w0 : va_W} {a : Nat → Nat} {i : Nat} {pa : Int32} {pb : Int32} {pc_ : Int32} {pd : Int32} {o : (Int64 × SX9)} (X : mX g yX9_bySteps cX9_bySteps 10 (some .long) p s m args meth c w0) :
  ∀ (xs : SX9) (H : Heap) (locs : List Loc) (ls : Array Slot), qX9_bySteps_16 pa pb pc_ pd xs = some o → mH g s w0 (wX9 g a i xs) H locs → lv_has ls 10 [(0, .ref (a i)), (1, .int pa), (2, .int pb), (3, .int pc_), (4, .int pd)] → W p l e (rM 3 66) s m args below meth c H locs 0 0 (mZ g below args s w0 (wX9 g a i o.2) (some (.long o.1))) (F0 m 16 ls []) := by
  have hx := X.1
  have hb := X.2.1
  intro xs H locs ls h hH hl
  unfold qX9_bySteps_16 at h
  refine lv_aload_n hx hb dX9_bySteps_16 rfl (lv_at hl 0 rfl) ?_
  refine lv_iconst (v := (-1 : Int32)) hx hb dX9_bySteps_17 (by decide) ?_
  obtain ⟨o2, ho2, h⟩ := bd_x h
  refine r_V X hH (ws1 := (wX9 g a i o2.2)) (As := [.int (-1 : Int32)]) (rest := []) (st1 := [.long o2.1]) (uX9_far (a := a) (i := i) ho2) kX9_far mX9_272 iX9_far vX9_far zX9 okX9_far ⟨Nat.le_of_ble_eq_true rfl, Nat.le_of_ble_eq_true rfl⟩ rfl rfl (q0 := 0) rfl rfl (pm_all _) (pm_all _) rfl hl.1 rfl (Nat.le_of_ble_eq_true rfl) ⟨Nat.le_refl 0, Nat.le_refl 0⟩ rfl dX9_bySteps_18 (fun H locs hH => ?_)
  have h := Option.some.inj h
  subst h
  exact e_l X hH dX9_bySteps_21
set_option maxHeartbeats 4000000 in
set_option maxRecDepth 100000 in
theorem pX9_bySteps_288 {p : Program} {l : Launch} {e : Env} {s : State} {m : MethodId} {args : Array Value} {below : List Frame} {meth : Method} {c : Code} {g : GG} {w0 : va_W} {a : Nat → Nat} {i : Nat} {pa : Int32} {pb : Int32} {pc_ : Int32} {pd : Int32} {o : (Int64 × SX9)} (X : mX g yX9_bySteps cX9_bySteps 10 (some .long) p s m args meth c w0)
  {k105 : SX9 → Int32 → Option (Int64 × SX9)} (K105 : ∀ (xs : SX9) (l5 : Int32) (H : Heap) (locs : List Loc) (ls : Array Slot), k105 xs l5 = some o → mH g s w0 (wX9 g a i xs) H locs → lv_has ls 10 [(0, .ref (a i)), (1, .int pa), (2, .int pb), (3, .int pc_), (4, .int pd), (5, .int l5)] → W p l e (rM 3 66) s m args below meth c H locs 0 0 (mZ g below args s w0 (wX9 g a i o.2) (some (.long o.1))) (F0 m 105 ls [])) :
  ∀ (fu : Nat) (xs : SX9) (l5 : Int32) (l6 : Int32) (H : Heap) (locs : List Loc) (ls : Array Slot), qX9_bySteps_288 pa pb pc_ pd k105 fu xs l5 l6 = some o → mH g s w0 (wX9 g a i xs) H locs → lv_has ls 10 [(0, .ref (a i)), (1, .int pa), (2, .int pb), (3, .int pc_), (4, .int pd), (5, .int l5), (6, .int l6)] → W p l e (rM 3 66) s m args below meth c H locs 0 0 (mZ g below args s w0 (wX9 g a i o.2) (some (.long o.1))) (F0 m 288 ls []) := by
  have hx := X.1
  have hb := X.2.1
  intro fu
  induction fu with
  | zero =>
    intro xs l5 l6 H locs ls h
    unfold qX9_bySteps_288 at h
    cases h
  | succ fu ih =>
    intro xs l5 l6 H locs ls h hH hl
    unfold qX9_bySteps_288 at h
    refine lv_iload hx hb dX9_bySteps_288 (lv_at hl 6 rfl) ?_
    refine lv_bipush (v := (6 : Int32)) hx hb dX9_bySteps_290 (by decide) ?_
    refine lv_icmp_ge (tgt := 315) hx hb dX9_bySteps_292 (by decide) (fun c11 => ?_) (fun c11 => ?_)
    · have h := it_x h c11
      obtain ⟨v1, ev1, h⟩ := ltt_x h
      refine s_inc X (k := 5) (lv' := [(5, .int v1), (0, .ref (a i)), (1, .int pa), (2, .int pb), (3, .int pc_), (4, .int pd), (6, .int l6)]) hl rfl (by rw [ev1]; rfl) dX9_bySteps_315 (by decide) rfl (fun ls hl => ?_)
      refine lv_goto (tgt := 105) hx hb dX9_bySteps_318 (by decide) ?_
      exact K105 xs v1 H locs ls h hH (lv_sub hl [1, 2, 3, 4, 5, 0] rfl)
    · have h := ie_x h c11
      refine lv_aload_n hx hb dX9_bySteps_295 rfl (lv_at hl 0 rfl) ?_
      refine f_get X hH 0 rfl rfl 30 (by decide) inX9 fX9_70 rfl dX9_bySteps_296 ?_
      refine lv_iload hx hb dX9_bySteps_299 (lv_at hl 6 rfl) ?_
      refine lv_aload_n hx hb dX9_bySteps_301 rfl (lv_at hl 0 rfl) ?_
      refine f_get X hH 0 rfl rfl 31 (by decide) inX9 fX9_74 rfl dX9_bySteps_302 ?_
      refine lv_iload hx hb dX9_bySteps_305 (lv_at hl 6 rfl) ?_
      obtain ⟨j3, ej3, hinj3, h⟩ := ga_x h
      refine a_dl X hH 20 rfl hinj3 ej3 dX9_bySteps_307 ?_
      obtain ⟨v2, ev2, h⟩ := ltt_x h
      refine lv_topd (fun y0 e0 => ?_)
      rw [← ev2] at e0
      subst y0
      obtain ⟨j4, ej4, hinj4, h⟩ := ga_x h
      obtain ⟨xs1, exs1, h⟩ := ltt_x h
      refine a_ds X hH (ws1 := (wX9 g a i xs1)) 19 rfl hinj4 ej4 (by rw [exs1]; rfl) dX9_bySteps_308 (fun H locs hH => ?_)
      obtain ⟨v3, ev3, h⟩ := ltt_x h
      refine s_inc X (k := 6) (lv' := [(6, .int v3), (0, .ref (a i)), (1, .int pa), (2, .int pb), (3, .int pc_), (4, .int pd), (5, .int l5)]) hl rfl (by rw [ev3]; rfl) dX9_bySteps_309 (by decide) rfl (fun ls hl => ?_)
      refine lv_goto (tgt := 288) hx hb dX9_bySteps_312 (by decide) ?_
      exact ih xs1 l5 v3 H locs ls h hH (lv_sub hl [1, 2, 3, 4, 5, 6, 0] rfl)
set_option maxHeartbeats 4000000 in
set_option maxRecDepth 100000 in
theorem pX9_bySteps_242 {p : Program} {l : Launch} {e : Env} {s : State} {m : MethodId} {args : Array Value} {below : List Frame} {meth : Method} {c : Code} {g : GG} {w0 : va_W} {a : Nat → Nat} {i : Nat} {pa : Int32} {pb : Int32} {pc_ : Int32} {pd : Int32} {o : (Int64 × SX9)} (X : mX g yX9_bySteps cX9_bySteps 10 (some .long) p s m args meth c w0)
  {k273 : SX9 → Int32 → Int32 → Int32 → Int32 → Option (Int64 × SX9)} (K273 : ∀ (xs : SX9) (l5 : Int32) (l6 : Int32) (l7 : Int32) (l8 : Int32) (H : Heap) (locs : List Loc) (ls : Array Slot), k273 xs l5 l6 l7 l8 = some o → mH g s w0 (wX9 g a i xs) H locs → lv_has ls 10 [(0, .ref (a i)), (1, .int pa), (2, .int pb), (3, .int pc_), (4, .int pd), (5, .int l5), (6, .int l6), (7, .int l7), (8, .int l8)] → W p l e (rM 3 66) s m args below meth c H locs 0 0 (mZ g below args s w0 (wX9 g a i o.2) (some (.long o.1))) (F0 m 273 ls [])) :
  ∀ (xs : SX9) (l5 : Int32) (l6 : Int32) (l7 : Int32) (l8 : Int32) (t0 : Int32) (H : Heap) (locs : List Loc) (ls : Array Slot), qX9_bySteps_242 pa pb pc_ pd k273 xs l5 l6 l7 l8 t0 = some o → mH g s w0 (wX9 g a i xs) H locs → lv_has ls 10 [(0, .ref (a i)), (1, .int pa), (2, .int pb), (3, .int pc_), (4, .int pd), (5, .int l5), (6, .int l6), (7, .int l7), (8, .int l8)] → W p l e (rM 3 66) s m args below meth c H locs 0 0 (mZ g below args s w0 (wX9 g a i o.2) (some (.long o.1))) (F0 m 242 ls [.int t0]) := by
  have hx := X.1
  have hb := X.2.1
  intro xs l5 l6 l7 l8 t0 H locs ls h hH hl
  unfold qX9_bySteps_242 at h
  refine s_i X (lv' := [(9, .int t0), (0, .ref (a i)), (1, .int pa), (2, .int pb), (3, .int pc_), (4, .int pd), (5, .int l5), (6, .int l6), (7, .int l7), (8, .int l8)]) hl rfl dX9_bySteps_242 (by decide) rfl (fun ls hl => ?_)
  refine lv_aload_n hx hb dX9_bySteps_244 rfl (lv_at hl 1 rfl) ?_
  refine f_get X hH 0 rfl rfl 31 (by decide) inX9 fX9_74 rfl dX9_bySteps_245 ?_
  refine lv_iload hx hb dX9_bySteps_248 (lv_at hl 0 rfl) ?_
  refine lv_dup2_11 hx hb dX9_bySteps_250 rfl rfl ?_
  obtain ⟨j8, ej8, hinj8, h⟩ := ga_x h
  refine a_dl X hH 20 rfl hinj8 ej8 dX9_bySteps_251 ?_
  refine lv_aload_n hx hb dX9_bySteps_252 rfl (lv_at hl 1 rfl) ?_
  refine f_get X hH 0 rfl rfl 30 (by decide) inX9 fX9_70 rfl dX9_bySteps_253 ?_
  refine lv_iload hx hb dX9_bySteps_256 (lv_at hl 7 rfl) ?_
  obtain ⟨j9, ej9, hinj9, h⟩ := ga_x h
  refine a_dl X hH 19 rfl hinj9 ej9 dX9_bySteps_258 ?_
  refine lv_aload_n hx hb dX9_bySteps_259 rfl (lv_at hl 1 rfl) ?_
  refine lv_iload hx hb dX9_bySteps_260 (lv_at hl 9 rfl) ?_
  obtain ⟨o8, ho8, h⟩ := bd_x h
  refine r_V X hH (ws1 := (wX9 g a i xs)) (As := [.int l8]) (rest := [.double ((m_now xs) j9), .double ((m_then xs) j8), .int t0, .ref (a (i + 20))]) (st1 := [.int o8, .double ((m_now xs) j9), .double ((m_then xs) j8), .int t0, .ref (a (i + 20))]) (uX9_weight (a := a) (i := i) ho8) kX9_weight mX9_171 iX9_weight vX9_weight zX9 okX9_weight ⟨Nat.le_of_ble_eq_true rfl, Nat.le_of_ble_eq_true rfl⟩ rfl rfl (q0 := 0) rfl rfl (pm_all _) (pm_all _) rfl hl.1 rfl (Nat.le_of_ble_eq_true rfl) ⟨Nat.le_refl 0, Nat.le_refl 0⟩ rfl dX9_bySteps_262 (fun H locs hH => ?_)
  refine lv_i2d hx hb dX9_bySteps_265 ?_
  obtain ⟨z2, h⟩ := gn_x h
  refine lv_dmul hx hb dX9_bySteps_266 z2 ?_
  refine lv_iload hx hb dX9_bySteps_267 (lv_at hl 8 rfl) ?_
  refine lv_i2d hx hb dX9_bySteps_269 ?_
  obtain ⟨z3, h⟩ := gn_x h
  refine lv_ddiv hx hb dX9_bySteps_270 z3 ?_
  obtain ⟨z4, h⟩ := gn_x h
  refine lv_dadd hx hb dX9_bySteps_271 z4 ?_
  obtain ⟨v5, ev5, h⟩ := ltt_x h
  refine lv_topd (fun y0 e0 => ?_)
  rw [← ev5] at e0
  subst y0
  obtain ⟨j10, ej10, hinj10, h⟩ := ga_x h
  obtain ⟨xs2, exs2, h⟩ := ltt_x h
  refine a_ds X hH (ws1 := (wX9 g a i xs2)) 20 rfl hinj10 ej10 (by rw [exs2]; rfl) dX9_bySteps_272 (fun H locs hH => ?_)
  exact K273 xs2 l5 l6 l7 l8 H locs ls h hH (lv_sub hl [1, 2, 3, 4, 5, 6, 7, 8, 9] rfl)
set_option maxHeartbeats 4000000 in
set_option maxRecDepth 100000 in
theorem pX9_bySteps_213 {p : Program} {l : Launch} {e : Env} {s : State} {m : MethodId} {args : Array Value} {below : List Frame} {meth : Method} {c : Code} {g : GG} {w0 : va_W} {a : Nat → Nat} {i : Nat} {pa : Int32} {pb : Int32} {pc_ : Int32} {pd : Int32} {o : (Int64 × SX9)} (X : mX g yX9_bySteps cX9_bySteps 10 (some .long) p s m args meth c w0)
  {k273 : SX9 → Int32 → Int32 → Int32 → Int32 → Option (Int64 × SX9)} (K273 : ∀ (xs : SX9) (l5 : Int32) (l6 : Int32) (l7 : Int32) (l8 : Int32) (H : Heap) (locs : List Loc) (ls : Array Slot), k273 xs l5 l6 l7 l8 = some o → mH g s w0 (wX9 g a i xs) H locs → lv_has ls 10 [(0, .ref (a i)), (1, .int pa), (2, .int pb), (3, .int pc_), (4, .int pd), (5, .int l5), (6, .int l6), (7, .int l7), (8, .int l8)] → W p l e (rM 3 66) s m args below meth c H locs 0 0 (mZ g below args s w0 (wX9 g a i o.2) (some (.long o.1))) (F0 m 273 ls [])) :
  ∀ (xs : SX9) (l5 : Int32) (l6 : Int32) (l7 : Int32) (l8 : Int32) (H : Heap) (locs : List Loc) (ls : Array Slot), qX9_bySteps_213 pa pb pc_ pd k273 xs l5 l6 l7 l8 = some o → mH g s w0 (wX9 g a i xs) H locs → lv_has ls 10 [(0, .ref (a i)), (1, .int pa), (2, .int pb), (3, .int pc_), (4, .int pd), (5, .int l5), (6, .int l6), (7, .int l7), (8, .int l8)] → W p l e (rM 3 66) s m args below meth c H locs 0 0 (mZ g below args s w0 (wX9 g a i o.2) (some (.long o.1))) (F0 m 213 ls []) := by
  have hx := X.1
  have hb := X.2.1
  intro xs l5 l6 l7 l8 H locs ls h hH hl
  unfold qX9_bySteps_213 at h
  refine lv_aload_n hx hb dX9_bySteps_213 rfl (lv_at hl 0 rfl) ?_
  refine f_get X hH 0 rfl rfl 2 (by decide) inX9 fX9_13 rfl dX9_bySteps_214 ?_
  refine lv_iload hx hb dX9_bySteps_217 (lv_at hl 8 rfl) ?_
  obtain ⟨j6, ej6, hinj6, h⟩ := ga_x h
  refine a_il X hH 1 rfl hinj6 ej6 dX9_bySteps_219 ?_
  refine lv_iload hx hb dX9_bySteps_220 (lv_at hl 6 rfl) ?_
  refine lv_icmp_ne (tgt := 235) hx hb dX9_bySteps_222 (by decide) (fun c15 => ?_) (fun c15 => ?_)
  · have h := ie_x h c15
    refine lv_aload_n hx hb dX9_bySteps_235 rfl (lv_at hl 0 rfl) ?_
    refine f_get X hH 0 rfl rfl 2 (by decide) inX9 fX9_13 rfl dX9_bySteps_236 ?_
    refine lv_iload hx hb dX9_bySteps_239 (lv_at hl 8 rfl) ?_
    obtain ⟨j7, ej7, hinj7, h⟩ := ga_x h
    refine a_il X hH 1 rfl hinj7 ej7 dX9_bySteps_241 ?_
    exact pX9_bySteps_242 X K273 xs l5 l6 l7 l8 ((m_first xs) j7) H locs ls h hH (lv_sub hl [0, 1, 2, 3, 4, 5, 6, 7, 8] rfl)
  · have h := it_x h c15
    refine lv_aload_n hx hb dX9_bySteps_225 rfl (lv_at hl 0 rfl) ?_
    refine f_get X hH 0 rfl rfl 3 (by decide) inX9 fX9_17 rfl dX9_bySteps_226 ?_
    refine lv_iload hx hb dX9_bySteps_229 (lv_at hl 8 rfl) ?_
    obtain ⟨j11, ej11, hinj11, h⟩ := ga_x h
    refine a_il X hH 2 rfl hinj11 ej11 dX9_bySteps_231 ?_
    refine lv_goto (tgt := 242) hx hb dX9_bySteps_232 (by decide) ?_
    exact pX9_bySteps_242 X K273 xs l5 l6 l7 l8 ((m_second xs) j11) H locs ls h hH (lv_sub hl [0, 1, 2, 3, 4, 5, 6, 7, 8] rfl)
set_option maxHeartbeats 4000000 in
set_option maxRecDepth 100000 in
theorem pX9_bySteps_273 {p : Program} {l : Launch} {e : Env} {s : State} {m : MethodId} {args : Array Value} {below : List Frame} {meth : Method} {c : Code} {g : GG} {w0 : va_W} {a : Nat → Nat} {i : Nat} {pa : Int32} {pb : Int32} {pc_ : Int32} {pd : Int32} {o : (Int64 × SX9)} (X : mX g yX9_bySteps cX9_bySteps 10 (some .long) p s m args meth c w0)
  {k177 : SX9 → Int32 → Int32 → Int32 → Int32 → Option (Int64 × SX9)} (K177 : ∀ (xs : SX9) (l5 : Int32) (l6 : Int32) (l7 : Int32) (l8 : Int32) (H : Heap) (locs : List Loc) (ls : Array Slot), k177 xs l5 l6 l7 l8 = some o → mH g s w0 (wX9 g a i xs) H locs → lv_has ls 10 [(0, .ref (a i)), (1, .int pa), (2, .int pb), (3, .int pc_), (4, .int pd), (5, .int l5), (6, .int l6), (7, .int l7), (8, .int l8)] → W p l e (rM 3 66) s m args below meth c H locs 0 0 (mZ g below args s w0 (wX9 g a i o.2) (some (.long o.1))) (F0 m 177 ls [])) :
  ∀ (xs : SX9) (l5 : Int32) (l6 : Int32) (l7 : Int32) (l8 : Int32) (H : Heap) (locs : List Loc) (ls : Array Slot), qX9_bySteps_273 pa pb pc_ pd k177 xs l5 l6 l7 l8 = some o → mH g s w0 (wX9 g a i xs) H locs → lv_has ls 10 [(0, .ref (a i)), (1, .int pa), (2, .int pb), (3, .int pc_), (4, .int pd), (5, .int l5), (6, .int l6), (7, .int l7), (8, .int l8)] → W p l e (rM 3 66) s m args below meth c H locs 0 0 (mZ g below args s w0 (wX9 g a i o.2) (some (.long o.1))) (F0 m 273 ls []) := by
  have hx := X.1
  have hb := X.2.1
  intro xs l5 l6 l7 l8 H locs ls h hH hl
  unfold qX9_bySteps_273 at h
  obtain ⟨v6, ev6, h⟩ := ltt_x h
  refine s_inc X (k := 8) (lv' := [(8, .int v6), (0, .ref (a i)), (1, .int pa), (2, .int pb), (3, .int pc_), (4, .int pd), (5, .int l5), (6, .int l6), (7, .int l7)]) hl rfl (by rw [ev6]; rfl) dX9_bySteps_273 (by decide) rfl (fun ls hl => ?_)
  refine lv_goto (tgt := 177) hx hb dX9_bySteps_276 (by decide) ?_
  exact K177 xs l5 l6 l7 v6 H locs ls h hH (lv_sub hl [1, 2, 3, 4, 5, 6, 7, 8, 0] rfl)
set_option maxHeartbeats 4000000 in
set_option maxRecDepth 100000 in
theorem pX9_bySteps_177 {p : Program} {l : Launch} {e : Env} {s : State} {m : MethodId} {args : Array Value} {below : List Frame} {meth : Method} {c : Code} {g : GG} {w0 : va_W} {a : Nat → Nat} {i : Nat} {pa : Int32} {pb : Int32} {pc_ : Int32} {pd : Int32} {o : (Int64 × SX9)} (X : mX g yX9_bySteps cX9_bySteps 10 (some .long) p s m args meth c w0)
  {k138 : SX9 → Int32 → Int32 → Option (Int64 × SX9)} (K138 : ∀ (xs : SX9) (l5 : Int32) (l6 : Int32) (H : Heap) (locs : List Loc) (ls : Array Slot), k138 xs l5 l6 = some o → mH g s w0 (wX9 g a i xs) H locs → lv_has ls 10 [(0, .ref (a i)), (1, .int pa), (2, .int pb), (3, .int pc_), (4, .int pd), (5, .int l5), (6, .int l6)] → W p l e (rM 3 66) s m args below meth c H locs 0 0 (mZ g below args s w0 (wX9 g a i o.2) (some (.long o.1))) (F0 m 138 ls [])) :
  ∀ (fu : Nat) (xs : SX9) (l5 : Int32) (l6 : Int32) (l7 : Int32) (l8 : Int32) (H : Heap) (locs : List Loc) (ls : Array Slot), qX9_bySteps_177 pa pb pc_ pd k138 fu xs l5 l6 l7 l8 = some o → mH g s w0 (wX9 g a i xs) H locs → lv_has ls 10 [(0, .ref (a i)), (1, .int pa), (2, .int pb), (3, .int pc_), (4, .int pd), (5, .int l5), (6, .int l6), (7, .int l7), (8, .int l8)] → W p l e (rM 3 66) s m args below meth c H locs 0 0 (mZ g below args s w0 (wX9 g a i o.2) (some (.long o.1))) (F0 m 177 ls []) := by
  have hx := X.1
  have hb := X.2.1
  intro fu
  induction fu with
  | zero =>
    intro xs l5 l6 l7 l8 H locs ls h
    unfold qX9_bySteps_177 at h
    cases h
  | succ fu ih =>
    intro xs l5 l6 l7 l8 H locs ls h hH hl
    unfold qX9_bySteps_177 at h
    refine lv_iload hx hb dX9_bySteps_177 (lv_at hl 8 rfl) ?_
    refine lv_aload_n hx hb dX9_bySteps_179 rfl (lv_at hl 0 rfl) ?_
    refine f_get X hH 0 rfl rfl 1 (by decide) inX9 fX9_120 rfl dX9_bySteps_180 ?_
    refine lv_icmp_ge (tgt := 279) hx hb dX9_bySteps_183 (by decide) (fun c13 => ?_) (fun c13 => ?_)
    · have h := it_x h c13
      obtain ⟨v4, ev4, h⟩ := ltt_x h
      refine s_inc X (k := 6) (lv' := [(6, .int v4), (0, .ref (a i)), (1, .int pa), (2, .int pb), (3, .int pc_), (4, .int pd), (5, .int l5), (7, .int l7), (8, .int l8)]) hl rfl (by rw [ev4]; rfl) dX9_bySteps_279 (by decide) rfl (fun ls hl => ?_)
      refine lv_goto (tgt := 138) hx hb dX9_bySteps_282 (by decide) ?_
      exact K138 xs l5 v4 H locs ls h hH (lv_sub hl [1, 2, 3, 4, 5, 6, 0] rfl)
    · have h := ie_x h c13
      refine lv_aload_n hx hb dX9_bySteps_186 rfl (lv_at hl 0 rfl) ?_
      refine f_get X hH 0 rfl rfl 2 (by decide) inX9 fX9_13 rfl dX9_bySteps_187 ?_
      refine lv_iload hx hb dX9_bySteps_190 (lv_at hl 8 rfl) ?_
      obtain ⟨j5, ej5, hinj5, h⟩ := ga_x h
      refine a_il X hH 1 rfl hinj5 ej5 dX9_bySteps_192 ?_
      refine lv_iload hx hb dX9_bySteps_193 (lv_at hl 6 rfl) ?_
      refine lv_icmp_eq (tgt := 213) hx hb dX9_bySteps_195 (by decide) (fun c14 => ?_) (fun c14 => ?_)
      · have h := it_x h c14
        exact pX9_bySteps_213 X (pX9_bySteps_273 X ih) xs l5 l6 l7 l8 H locs ls h hH (lv_sub hl [0, 1, 2, 3, 4, 5, 6, 7, 8] rfl)
      · have h := ie_x h c14
        refine lv_aload_n hx hb dX9_bySteps_198 rfl (lv_at hl 0 rfl) ?_
        refine f_get X hH 0 rfl rfl 3 (by decide) inX9 fX9_17 rfl dX9_bySteps_199 ?_
        refine lv_iload hx hb dX9_bySteps_202 (lv_at hl 8 rfl) ?_
        obtain ⟨j12, ej12, hinj12, h⟩ := ga_x h
        refine a_il X hH 2 rfl hinj12 ej12 dX9_bySteps_204 ?_
        refine lv_iload hx hb dX9_bySteps_205 (lv_at hl 6 rfl) ?_
        refine lv_icmp_eq (tgt := 213) hx hb dX9_bySteps_207 (by decide) (fun c16 => ?_) (fun c16 => ?_)
        · have h := it_x h c16
          exact pX9_bySteps_213 X (pX9_bySteps_273 X ih) xs l5 l6 l7 l8 H locs ls h hH (lv_sub hl [0, 1, 2, 3, 4, 5, 6, 7, 8] rfl)
        · have h := ie_x h c16
          refine lv_goto (tgt := 273) hx hb dX9_bySteps_210 (by decide) ?_
          exact pX9_bySteps_273 X ih xs l5 l6 l7 l8 H locs ls h hH (lv_sub hl [0, 1, 2, 3, 4, 5, 6, 7, 8] rfl)
set_option maxHeartbeats 4000000 in
set_option maxRecDepth 100000 in
theorem pX9_bySteps_174 {p : Program} {l : Launch} {e : Env} {s : State} {m : MethodId} {args : Array Value} {below : List Frame} {meth : Method} {c : Code} {g : GG} {w0 : va_W} {a : Nat → Nat} {i : Nat} {pa : Int32} {pb : Int32} {pc_ : Int32} {pd : Int32} {o : (Int64 × SX9)} (X : mX g yX9_bySteps cX9_bySteps 10 (some .long) p s m args meth c w0)
  {k138 : SX9 → Int32 → Int32 → Option (Int64 × SX9)} (K138 : ∀ (xs : SX9) (l5 : Int32) (l6 : Int32) (H : Heap) (locs : List Loc) (ls : Array Slot), k138 xs l5 l6 = some o → mH g s w0 (wX9 g a i xs) H locs → lv_has ls 10 [(0, .ref (a i)), (1, .int pa), (2, .int pb), (3, .int pc_), (4, .int pd), (5, .int l5), (6, .int l6)] → W p l e (rM 3 66) s m args below meth c H locs 0 0 (mZ g below args s w0 (wX9 g a i o.2) (some (.long o.1))) (F0 m 138 ls [])) :
  ∀ (xs : SX9) (l5 : Int32) (l6 : Int32) (l7 : Int32) (H : Heap) (locs : List Loc) (ls : Array Slot), qX9_bySteps_174 pa pb pc_ pd k138 xs l5 l6 l7 = some o → mH g s w0 (wX9 g a i xs) H locs → lv_has ls 10 [(0, .ref (a i)), (1, .int pa), (2, .int pb), (3, .int pc_), (4, .int pd), (5, .int l5), (6, .int l6), (7, .int l7)] → W p l e (rM 3 66) s m args below meth c H locs 0 0 (mZ g below args s w0 (wX9 g a i o.2) (some (.long o.1))) (F0 m 174 ls []) := by
  have hx := X.1
  have hb := X.2.1
  intro xs l5 l6 l7 H locs ls h hH hl
  unfold qX9_bySteps_174 at h
  refine lv_iconst (v := (0 : Int32)) hx hb dX9_bySteps_174 (by decide) ?_
  refine s_i X (lv' := [(8, .int (0 : Int32)), (0, .ref (a i)), (1, .int pa), (2, .int pb), (3, .int pc_), (4, .int pd), (5, .int l5), (6, .int l6), (7, .int l7)]) hl rfl dX9_bySteps_175 (by decide) rfl (fun ls hl => ?_)
  exact pX9_bySteps_177 X K138 FU xs l5 l6 l7 (0 : Int32) H locs ls h hH (lv_sub hl [1, 2, 3, 4, 5, 6, 7, 8, 0] rfl)
set_option maxHeartbeats 4000000 in
set_option maxRecDepth 100000 in
theorem pX9_bySteps_138 {p : Program} {l : Launch} {e : Env} {s : State} {m : MethodId} {args : Array Value} {below : List Frame} {meth : Method} {c : Code} {g : GG} {w0 : va_W} {a : Nat → Nat} {i : Nat} {pa : Int32} {pb : Int32} {pc_ : Int32} {pd : Int32} {o : (Int64 × SX9)} (X : mX g yX9_bySteps cX9_bySteps 10 (some .long) p s m args meth c w0)
  {k105 : SX9 → Int32 → Option (Int64 × SX9)} (K105 : ∀ (xs : SX9) (l5 : Int32) (H : Heap) (locs : List Loc) (ls : Array Slot), k105 xs l5 = some o → mH g s w0 (wX9 g a i xs) H locs → lv_has ls 10 [(0, .ref (a i)), (1, .int pa), (2, .int pb), (3, .int pc_), (4, .int pd), (5, .int l5)] → W p l e (rM 3 66) s m args below meth c H locs 0 0 (mZ g below args s w0 (wX9 g a i o.2) (some (.long o.1))) (F0 m 105 ls [])) :
  ∀ (fu : Nat) (xs : SX9) (l5 : Int32) (l6 : Int32) (H : Heap) (locs : List Loc) (ls : Array Slot), qX9_bySteps_138 pa pb pc_ pd k105 fu xs l5 l6 = some o → mH g s w0 (wX9 g a i xs) H locs → lv_has ls 10 [(0, .ref (a i)), (1, .int pa), (2, .int pb), (3, .int pc_), (4, .int pd), (5, .int l5), (6, .int l6)] → W p l e (rM 3 66) s m args below meth c H locs 0 0 (mZ g below args s w0 (wX9 g a i o.2) (some (.long o.1))) (F0 m 138 ls []) := by
  have hx := X.1
  have hb := X.2.1
  intro fu
  induction fu with
  | zero =>
    intro xs l5 l6 H locs ls h
    unfold qX9_bySteps_138 at h
    cases h
  | succ fu ih =>
    intro xs l5 l6 H locs ls h hH hl
    unfold qX9_bySteps_138 at h
    refine lv_iload hx hb dX9_bySteps_138 (lv_at hl 6 rfl) ?_
    refine lv_aload_n hx hb dX9_bySteps_140 rfl (lv_at hl 0 rfl) ?_
    refine f_get X hH 0 rfl rfl 0 (by decide) inX9 fX9_7 rfl dX9_bySteps_141 ?_
    refine lv_icmp_ge (tgt := 285) hx hb dX9_bySteps_144 (by decide) (fun c10 => ?_) (fun c10 => ?_)
    · have h := it_x h c10
      refine lv_iconst (v := (0 : Int32)) hx hb dX9_bySteps_285 (by decide) ?_
      refine s_i X (lv' := [(6, .int (0 : Int32)), (0, .ref (a i)), (1, .int pa), (2, .int pb), (3, .int pc_), (4, .int pd), (5, .int l5)]) hl rfl dX9_bySteps_286 (by decide) rfl (fun ls hl => ?_)
      exact pX9_bySteps_288 X K105 FU xs l5 (0 : Int32) H locs ls h hH (lv_sub hl [1, 2, 3, 4, 5, 6, 0] rfl)
    · have h := ie_x h c10
      refine lv_aload_n hx hb dX9_bySteps_147 rfl (lv_at hl 0 rfl) ?_
      refine lv_iload hx hb dX9_bySteps_148 (lv_at hl 6 rfl) ?_
      obtain ⟨o7, ho7, h⟩ := bd_x h
      refine r_V X hH (ws1 := (wX9 g a i xs)) (As := [.int l6]) (rest := []) (st1 := [.int o7]) (uX9_weightsAt (a := a) (i := i) ho7) kX9_weightsAt mX9_239 iX9_weightsAt vX9_weightsAt zX9 okX9_weightsAt ⟨Nat.le_of_ble_eq_true rfl, Nat.le_of_ble_eq_true rfl⟩ rfl rfl (q0 := 0) rfl rfl (pm_all _) (pm_all _) rfl hl.1 rfl (Nat.le_of_ble_eq_true rfl) ⟨Nat.le_refl 0, Nat.le_refl 0⟩ rfl dX9_bySteps_150 (fun H locs hH => ?_)
      refine s_i X (lv' := [(7, .int o7), (0, .ref (a i)), (1, .int pa), (2, .int pb), (3, .int pc_), (4, .int pd), (5, .int l5), (6, .int l6)]) hl rfl dX9_bySteps_153 (by decide) rfl (fun ls hl => ?_)
      refine lv_iload hx hb dX9_bySteps_155 (lv_at hl 0 rfl) ?_
      refine lv_if_ne (tgt := 174) hx hb dX9_bySteps_157 (by decide) (fun c12 => ?_) (fun c12 => ?_)
      · have h := ie_x h c12
        exact pX9_bySteps_174 X ih xs l5 l6 o7 H locs ls h hH (lv_sub hl [1, 2, 3, 4, 5, 6, 7, 0] rfl)
      · have h := it_x h c12
        refine lv_aload_n hx hb dX9_bySteps_160 rfl (lv_at hl 1 rfl) ?_
        refine f_get X hH 0 rfl rfl 31 (by decide) inX9 fX9_74 rfl dX9_bySteps_161 ?_
        refine lv_iload hx hb dX9_bySteps_164 (lv_at hl 7 rfl) ?_
        refine lv_aload_n hx hb dX9_bySteps_166 rfl (lv_at hl 1 rfl) ?_
        refine f_get X hH 0 rfl rfl 30 (by decide) inX9 fX9_70 rfl dX9_bySteps_167 ?_
        refine lv_iload hx hb dX9_bySteps_170 (lv_at hl 7 rfl) ?_
        obtain ⟨j13, ej13, hinj13, h⟩ := ga_x h
        refine a_dl X hH 19 rfl hinj13 ej13 dX9_bySteps_172 ?_
        obtain ⟨v7, ev7, h⟩ := ltt_x h
        refine lv_topd (fun y0 e0 => ?_)
        rw [← ev7] at e0
        subst y0
        obtain ⟨j14, ej14, hinj14, h⟩ := ga_x h
        obtain ⟨xs3, exs3, h⟩ := ltt_x h
        refine a_ds X hH (ws1 := (wX9 g a i xs3)) 20 rfl hinj14 ej14 (by rw [exs3]; rfl) dX9_bySteps_173 (fun H locs hH => ?_)
        exact pX9_bySteps_174 X ih xs3 l5 l6 o7 H locs ls h hH (lv_sub hl [1, 2, 3, 4, 5, 6, 7, 0] rfl)
set_option maxHeartbeats 4000000 in
set_option maxRecDepth 100000 in
theorem pX9_bySteps_114 {p : Program} {l : Launch} {e : Env} {s : State} {m : MethodId} {args : Array Value} {below : List Frame} {meth : Method} {c : Code} {g : GG} {w0 : va_W} {a : Nat → Nat} {i : Nat} {pa : Int32} {pb : Int32} {pc_ : Int32} {pd : Int32} {o : (Int64 × SX9)} (X : mX g yX9_bySteps cX9_bySteps 10 (some .long) p s m args meth c w0)
  {k105 : SX9 → Int32 → Option (Int64 × SX9)} (K105 : ∀ (xs : SX9) (l5 : Int32) (H : Heap) (locs : List Loc) (ls : Array Slot), k105 xs l5 = some o → mH g s w0 (wX9 g a i xs) H locs → lv_has ls 10 [(0, .ref (a i)), (1, .int pa), (2, .int pb), (3, .int pc_), (4, .int pd), (5, .int l5)] → W p l e (rM 3 66) s m args below meth c H locs 0 0 (mZ g below args s w0 (wX9 g a i o.2) (some (.long o.1))) (F0 m 105 ls [])) :
  ∀ (fu : Nat) (xs : SX9) (l5 : Int32) (l6 : Int32) (H : Heap) (locs : List Loc) (ls : Array Slot), qX9_bySteps_114 pa pb pc_ pd k105 fu xs l5 l6 = some o → mH g s w0 (wX9 g a i xs) H locs → lv_has ls 10 [(0, .ref (a i)), (1, .int pa), (2, .int pb), (3, .int pc_), (4, .int pd), (5, .int l5), (6, .int l6)] → W p l e (rM 3 66) s m args below meth c H locs 0 0 (mZ g below args s w0 (wX9 g a i o.2) (some (.long o.1))) (F0 m 114 ls []) := by
  have hx := X.1
  have hb := X.2.1
  intro fu
  induction fu with
  | zero =>
    intro xs l5 l6 H locs ls h
    unfold qX9_bySteps_114 at h
    cases h
  | succ fu ih =>
    intro xs l5 l6 H locs ls h hH hl
    unfold qX9_bySteps_114 at h
    refine lv_iload hx hb dX9_bySteps_114 (lv_at hl 6 rfl) ?_
    refine lv_bipush (v := (6 : Int32)) hx hb dX9_bySteps_116 (by decide) ?_
    refine lv_icmp_ge (tgt := 135) hx hb dX9_bySteps_118 (by decide) (fun c9 => ?_) (fun c9 => ?_)
    · have h := it_x h c9
      refine lv_iconst (v := (0 : Int32)) hx hb dX9_bySteps_135 (by decide) ?_
      refine s_i X (lv' := [(6, .int (0 : Int32)), (0, .ref (a i)), (1, .int pa), (2, .int pb), (3, .int pc_), (4, .int pd), (5, .int l5)]) hl rfl dX9_bySteps_136 (by decide) rfl (fun ls hl => ?_)
      exact pX9_bySteps_138 X K105 FU xs l5 (0 : Int32) H locs ls h hH (lv_sub hl [1, 2, 3, 4, 5, 6, 0] rfl)
    · have h := ie_x h c9
      refine lv_aload_n hx hb dX9_bySteps_121 rfl (lv_at hl 0 rfl) ?_
      refine f_get X hH 0 rfl rfl 31 (by decide) inX9 fX9_74 rfl dX9_bySteps_122 ?_
      refine lv_iload hx hb dX9_bySteps_125 (lv_at hl 6 rfl) ?_
      refine lv_dconst0 hx hb dX9_bySteps_127 ?_
      obtain ⟨j15, ej15, hinj15, h⟩ := ga_x h
      obtain ⟨xs4, exs4, h⟩ := ltt_x h
      refine a_ds X hH (ws1 := (wX9 g a i xs4)) 20 rfl hinj15 ej15 (by rw [exs4]; rfl) dX9_bySteps_128 (fun H locs hH => ?_)
      obtain ⟨v8, ev8, h⟩ := ltt_x h
      refine s_inc X (k := 6) (lv' := [(6, .int v8), (0, .ref (a i)), (1, .int pa), (2, .int pb), (3, .int pc_), (4, .int pd), (5, .int l5)]) hl rfl (by rw [ev8]; rfl) dX9_bySteps_129 (by decide) rfl (fun ls hl => ?_)
      refine lv_goto (tgt := 114) hx hb dX9_bySteps_132 (by decide) ?_
      exact ih xs4 l5 v8 H locs ls h hH (lv_sub hl [1, 2, 3, 4, 5, 6, 0] rfl)
set_option maxHeartbeats 4000000 in
set_option maxRecDepth 100000 in
theorem pX9_bySteps_105 {p : Program} {l : Launch} {e : Env} {s : State} {m : MethodId} {args : Array Value} {below : List Frame} {meth : Method} {c : Code} {g : GG} {w0 : va_W} {a : Nat → Nat} {i : Nat} {pa : Int32} {pb : Int32} {pc_ : Int32} {pd : Int32} {o : (Int64 × SX9)} (X : mX g yX9_bySteps cX9_bySteps 10 (some .long) p s m args meth c w0) :
  ∀ (fu : Nat) (xs : SX9) (l5 : Int32) (H : Heap) (locs : List Loc) (ls : Array Slot), qX9_bySteps_105 pa pb pc_ pd fu xs l5 = some o → mH g s w0 (wX9 g a i xs) H locs → lv_has ls 10 [(0, .ref (a i)), (1, .int pa), (2, .int pb), (3, .int pc_), (4, .int pd), (5, .int l5)] → W p l e (rM 3 66) s m args below meth c H locs 0 0 (mZ g below args s w0 (wX9 g a i o.2) (some (.long o.1))) (F0 m 105 ls []) := by
  have hx := X.1
  have hb := X.2.1
  intro fu
  induction fu with
  | zero =>
    intro xs l5 H locs ls h
    unfold qX9_bySteps_105 at h
    cases h
  | succ fu ih =>
    intro xs l5 H locs ls h hH hl
    unfold qX9_bySteps_105 at h
    refine lv_iload hx hb dX9_bySteps_105 (lv_at hl 5 rfl) ?_
    refine lv_iload_n hx hb dX9_bySteps_107 rfl (lv_at hl 3 rfl) ?_
    refine lv_icmp_ge (tgt := 321) hx hb dX9_bySteps_108 (by decide) (fun c7 => ?_) (fun c7 => ?_)
    · have h := it_x h c7
      refine lv_iload hx hb dX9_bySteps_321 (lv_at hl 4 rfl) ?_
      refine lv_if_ne (tgt := 338) hx hb dX9_bySteps_323 (by decide) (fun c8 => ?_) (fun c8 => ?_)
      · have h := ie_x h c8
        refine lv_aload_n hx hb dX9_bySteps_338 rfl (lv_at hl 0 rfl) ?_
        refine f_get X hH 0 rfl rfl 30 (by decide) inX9 fX9_70 rfl dX9_bySteps_339 ?_
        refine lv_iload_n hx hb dX9_bySteps_342 rfl (lv_at hl 2 rfl) ?_
        obtain ⟨j1, ej1, hinj1, h⟩ := ga_x h
        refine a_dl X hH 19 rfl hinj1 ej1 dX9_bySteps_343 ?_
        refine lv_ldc2d hx hb X.2.2.2.2.1 (X.2.2.2.2.2.1 _ nX9_324) dX9_bySteps_344 ?_
        obtain ⟨z1, h⟩ := gn_x h
        refine lv_dmul hx hb dX9_bySteps_347 z1 ?_
        refine lv_d2i hx hb dX9_bySteps_348 ?_
        refine lv_i2l hx hb dX9_bySteps_349 rfl ?_
        have h := Option.some.inj h
        subst h
        exact e_l X hH dX9_bySteps_350
      · have h := it_x h c8
        refine lv_aload_n hx hb dX9_bySteps_326 rfl (lv_at hl 0 rfl) ?_
        refine f_get X hH 0 rfl rfl 30 (by decide) inX9 fX9_70 rfl dX9_bySteps_327 ?_
        refine lv_iload_n hx hb dX9_bySteps_330 rfl (lv_at hl 2 rfl) ?_
        obtain ⟨j2, ej2, hinj2, h⟩ := ga_x h
        refine a_dl X hH 19 rfl hinj2 ej2 dX9_bySteps_331 ?_
        obtain ⟨o6, ho6, h⟩ := bd_x h
        refine r_S X hH (ws1 := (wX9 g a i xs)) (As := [.double ((m_now xs) j2)]) (rest := []) (st1 := [.long o6]) (uJxe99ae_doubleToLongBits_ccdee  ho6) kJxe99ae_doubleToLongBits_ccdee mX9_318 sJxe99ae_doubleToLongBits_ccdee zJxe99ae okJxe99ae_doubleToLongBits_ccdee ⟨Nat.le_of_ble_eq_true rfl, Nat.le_of_ble_eq_true rfl⟩ rfl rfl (pm_none _) (pm_none _) rfl hl.1 rfl (Nat.le_of_ble_eq_true rfl) ⟨Nat.le_refl 0, Nat.le_refl 0⟩ rfl dX9_bySteps_332 (fun H locs hH => ?_)
        refine lv_goto (tgt := 350) hx hb dX9_bySteps_335 (by decide) ?_
        have h := Option.some.inj h
        subst h
        exact e_l X hH dX9_bySteps_350
    · have h := ie_x h c7
      refine lv_iconst (v := (0 : Int32)) hx hb dX9_bySteps_111 (by decide) ?_
      refine s_i X (lv' := [(6, .int (0 : Int32)), (0, .ref (a i)), (1, .int pa), (2, .int pb), (3, .int pc_), (4, .int pd), (5, .int l5)]) hl rfl dX9_bySteps_112 (by decide) rfl (fun ls hl => ?_)
      exact pX9_bySteps_114 X ih FU xs l5 (0 : Int32) H locs ls h hH (lv_sub hl [1, 2, 3, 4, 5, 6, 0] rfl)
set_option maxHeartbeats 4000000 in
set_option maxRecDepth 100000 in
theorem pX9_bySteps_95 {p : Program} {l : Launch} {e : Env} {s : State} {m : MethodId} {args : Array Value} {below : List Frame} {meth : Method} {c : Code} {g : GG} {w0 : va_W} {a : Nat → Nat} {i : Nat} {pa : Int32} {pb : Int32} {pc_ : Int32} {pd : Int32} {o : (Int64 × SX9)} (X : mX g yX9_bySteps cX9_bySteps 10 (some .long) p s m args meth c w0)
  {k71 : SX9 → Int32 → Option (Int64 × SX9)} (K71 : ∀ (xs : SX9) (l5 : Int32) (H : Heap) (locs : List Loc) (ls : Array Slot), k71 xs l5 = some o → mH g s w0 (wX9 g a i xs) H locs → lv_has ls 10 [(0, .ref (a i)), (1, .int pa), (2, .int pb), (3, .int pc_), (4, .int pd), (5, .int l5)] → W p l e (rM 3 66) s m args below meth c H locs 0 0 (mZ g below args s w0 (wX9 g a i o.2) (some (.long o.1))) (F0 m 71 ls [])) :
  ∀ (xs : SX9) (l5 : Int32) (t1 : Int32) (t2 : UInt64) (H : Heap) (locs : List Loc) (ls : Array Slot), qX9_bySteps_95 pa pb pc_ pd k71 xs l5 t1 t2 = some o → mH g s w0 (wX9 g a i xs) H locs → lv_has ls 10 [(0, .ref (a i)), (1, .int pa), (2, .int pb), (3, .int pc_), (4, .int pd), (5, .int l5)] → W p l e (rM 3 66) s m args below meth c H locs 0 0 (mZ g below args s w0 (wX9 g a i o.2) (some (.long o.1))) (F0 m 95 ls [.double t2, .int t1, .ref (a (i + 19))]) := by
  have hx := X.1
  have hb := X.2.1
  intro xs l5 t1 t2 H locs ls h hH hl
  unfold qX9_bySteps_95 at h
  obtain ⟨j16, ej16, hinj16, h⟩ := ga_x h
  obtain ⟨xs5, exs5, h⟩ := ltt_x h
  refine a_ds X hH (ws1 := (wX9 g a i xs5)) 19 rfl hinj16 ej16 (by rw [exs5]; rfl) dX9_bySteps_95 (fun H locs hH => ?_)
  obtain ⟨v9, ev9, h⟩ := ltt_x h
  refine s_inc X (k := 5) (lv' := [(5, .int v9), (0, .ref (a i)), (1, .int pa), (2, .int pb), (3, .int pc_), (4, .int pd)]) hl rfl (by rw [ev9]; rfl) dX9_bySteps_96 (by decide) rfl (fun ls hl => ?_)
  refine lv_goto (tgt := 71) hx hb dX9_bySteps_99 (by decide) ?_
  exact K71 xs5 v9 H locs ls h hH (lv_sub hl [1, 2, 3, 4, 5, 0] rfl)
set_option maxHeartbeats 4000000 in
set_option maxRecDepth 100000 in
theorem pX9_bySteps_71 {p : Program} {l : Launch} {e : Env} {s : State} {m : MethodId} {args : Array Value} {below : List Frame} {meth : Method} {c : Code} {g : GG} {w0 : va_W} {a : Nat → Nat} {i : Nat} {pa : Int32} {pb : Int32} {pc_ : Int32} {pd : Int32} {o : (Int64 × SX9)} (X : mX g yX9_bySteps cX9_bySteps 10 (some .long) p s m args meth c w0) :
  ∀ (fu : Nat) (xs : SX9) (l5 : Int32) (H : Heap) (locs : List Loc) (ls : Array Slot), qX9_bySteps_71 pa pb pc_ pd fu xs l5 = some o → mH g s w0 (wX9 g a i xs) H locs → lv_has ls 10 [(0, .ref (a i)), (1, .int pa), (2, .int pb), (3, .int pc_), (4, .int pd), (5, .int l5)] → W p l e (rM 3 66) s m args below meth c H locs 0 0 (mZ g below args s w0 (wX9 g a i o.2) (some (.long o.1))) (F0 m 71 ls []) := by
  have hx := X.1
  have hb := X.2.1
  intro fu
  induction fu with
  | zero =>
    intro xs l5 H locs ls h
    unfold qX9_bySteps_71 at h
    cases h
  | succ fu ih =>
    intro xs l5 H locs ls h hH hl
    unfold qX9_bySteps_71 at h
    refine lv_iload hx hb dX9_bySteps_71 (lv_at hl 5 rfl) ?_
    refine lv_bipush (v := (6 : Int32)) hx hb dX9_bySteps_73 (by decide) ?_
    refine lv_icmp_ge (tgt := 102) hx hb dX9_bySteps_75 (by decide) (fun c6 => ?_) (fun c6 => ?_)
    · have h := it_x h c6
      refine lv_iconst (v := (0 : Int32)) hx hb dX9_bySteps_102 (by decide) ?_
      refine s_i X (lv' := [(5, .int (0 : Int32)), (0, .ref (a i)), (1, .int pa), (2, .int pb), (3, .int pc_), (4, .int pd)]) hl rfl dX9_bySteps_103 (by decide) rfl (fun ls hl => ?_)
      exact pX9_bySteps_105 X FU xs (0 : Int32) H locs ls h hH (lv_sub hl [1, 2, 3, 4, 5, 0] rfl)
    · have h := ie_x h c6
      refine lv_aload_n hx hb dX9_bySteps_78 rfl (lv_at hl 0 rfl) ?_
      refine f_get X hH 0 rfl rfl 30 (by decide) inX9 fX9_70 rfl dX9_bySteps_79 ?_
      refine lv_iload hx hb dX9_bySteps_82 (lv_at hl 5 rfl) ?_
      refine lv_iload hx hb dX9_bySteps_84 (lv_at hl 5 rfl) ?_
      refine lv_iload_n hx hb dX9_bySteps_86 rfl (lv_at hl 1 rfl) ?_
      refine lv_icmp_ne (tgt := 94) hx hb dX9_bySteps_87 (by decide) (fun c17 => ?_) (fun c17 => ?_)
      · have h := ie_x h c17
        refine lv_dconst0 hx hb dX9_bySteps_94 ?_
        exact pX9_bySteps_95 X ih xs l5 l5 (0 : UInt64) H locs ls h hH (lv_sub hl [0, 1, 2, 3, 4, 5] rfl)
      · have h := it_x h c17
        refine lv_dconst1 hx hb dX9_bySteps_90 ?_
        refine lv_goto (tgt := 95) hx hb dX9_bySteps_91 (by decide) ?_
        exact pX9_bySteps_95 X ih xs l5 l5 (4607182418800017408 : UInt64) H locs ls h hH (lv_sub hl [0, 1, 2, 3, 4, 5] rfl)
set_option maxHeartbeats 4000000 in
set_option maxRecDepth 100000 in
theorem uX9_bySteps {l : Launch} {g : GG} {a : Nat → Nat} {i : Nat} {xs : SX9} {pa : Int32} {pb : Int32} {pc_ : Int32} {pd : Int32} {o : (Int64 × SX9)} (h : fX9_bySteps xs pa pb pc_ pd = some o) : mC l g yX9_bySteps cX9_bySteps 10 (some .long) (rM 3 66) [.ref (a i), .int pa, .int pb, .int pc_, .int pd] (wX9 g a i xs) (wX9 g a i o.2) (some (.long o.1)) := by
  refine mC.ofW (by decide) (fun p e s m below meth c X hH ls _ hl => ?_) (Nat.le_of_ble_eq_true rfl)
  have hx := X.1
  have hb := X.2.1
  have hl : lv_has ls 10 [(0, .ref (a i)), (1, .int pa), (2, .int pb), (3, .int pc_), (4, .int pd)] := hl
  unfold fX9_bySteps at h
  suffices HH : ∀ (H : Heap) (locs : List Loc), mH g s (wX9 g a i xs) (wX9 g a i xs) H locs → W p l e (rM 3 66) s m _ below meth c H locs 0 0 (mZ g below _ s (wX9 g a i xs) (wX9 g a i o.2) (some (.long o.1))) (F0 m 0 ls []) from HH _ _ hH
  clear hH
  intro H locs hH
  refine lv_aload_n hx hb dX9_bySteps_0 rfl (lv_at hl 0 rfl) ?_
  refine lv_iload_n hx hb dX9_bySteps_1 rfl (lv_at hl 1 rfl) ?_
  obtain ⟨o1, ho1, h⟩ := bd_x h
  refine r_V X hH (ws1 := (wX9 g a i xs)) (As := [.int pa]) (rest := []) (st1 := [.int o1]) (uX9_isPoint (a := a) (i := i) ho1) kX9_isPoint mX9_141 iX9_isPoint vX9_isPoint zX9 okX9_isPoint ⟨Nat.le_of_ble_eq_true rfl, Nat.le_of_ble_eq_true rfl⟩ rfl rfl (q0 := 0) rfl rfl (pm_all _) (pm_all _) rfl hl.1 rfl (Nat.le_of_ble_eq_true rfl) ⟨Nat.le_refl 0, Nat.le_refl 0⟩ rfl dX9_bySteps_2 (fun H locs hH => ?_)
  refine lv_if_eq (tgt := 16) hx hb dX9_bySteps_5 (by decide) (fun c1 => ?_) (fun c1 => ?_)
  · have h := it_x h c1
    exact pX9_bySteps_16 X  xs H locs ls h hH (lv_sub hl [0, 1, 2, 3, 4] rfl)
  · have h := ie_x h c1
    refine lv_aload_n hx hb dX9_bySteps_8 rfl (lv_at hl 0 rfl) ?_
    refine lv_iload_n hx hb dX9_bySteps_9 rfl (lv_at hl 2 rfl) ?_
    obtain ⟨o3, ho3, h⟩ := bd_x h
    refine r_V X hH (ws1 := (wX9 g a i xs)) (As := [.int pb]) (rest := []) (st1 := [.int o3]) (uX9_isPoint (a := a) (i := i) ho3) kX9_isPoint mX9_141 iX9_isPoint vX9_isPoint zX9 okX9_isPoint ⟨Nat.le_of_ble_eq_true rfl, Nat.le_of_ble_eq_true rfl⟩ rfl rfl (q0 := 0) rfl rfl (pm_all _) (pm_all _) rfl hl.1 rfl (Nat.le_of_ble_eq_true rfl) ⟨Nat.le_refl 0, Nat.le_refl 0⟩ rfl dX9_bySteps_10 (fun H locs hH => ?_)
    refine lv_if_ne (tgt := 22) hx hb dX9_bySteps_13 (by decide) (fun c2 => ?_) (fun c2 => ?_)
    · have h := ie_x h c2
      refine lv_iload_n hx hb dX9_bySteps_22 rfl (lv_at hl 3 rfl) ?_
      refine lv_if_ge (tgt := 33) hx hb dX9_bySteps_23 (by decide) (fun c3 => ?_) (fun c3 => ?_)
      · have h := it_x h c3
        refine lv_iload_n hx hb dX9_bySteps_33 rfl (lv_at hl 3 rfl) ?_
        refine lv_bipush (v := (30 : Int32)) hx hb dX9_bySteps_34 (by decide) ?_
        refine lv_icmp_le (tgt := 46) hx hb dX9_bySteps_36 (by decide) (fun c4 => ?_) (fun c4 => ?_)
        · have h := it_x h c4
          refine lv_iload hx hb dX9_bySteps_46 (lv_at hl 4 rfl) ?_
          refine lv_i2l hx hb dX9_bySteps_48 rfl ?_
          refine lv_lconst (v := (0 : Int64)) hx hb dX9_bySteps_49 (by decide) ?_
          refine lv_lconst (v := (1 : Int64)) hx hb dX9_bySteps_50 (by decide) ?_
          obtain ⟨o4, ho4, h⟩ := bd_x h
          refine r_S X hH (ws1 := (wX9 g a i xs)) (As := [.long (pd.toInt64), .long (0 : Int64), .long (1 : Int64)]) (rest := []) (st1 := [.int o4]) (uX9_isIn  ho4) kX9_isIn mX9_116 sX9_isIn zX9 okX9_isIn ⟨Nat.le_of_ble_eq_true rfl, Nat.le_of_ble_eq_true rfl⟩ rfl rfl (pm_none _) (pm_none _) rfl hl.1 rfl (Nat.le_of_ble_eq_true rfl) ⟨Nat.le_refl 0, Nat.le_refl 0⟩ rfl dX9_bySteps_51 (fun H locs hH => ?_)
          refine lv_if_ne (tgt := 64) hx hb dX9_bySteps_54 (by decide) (fun c5 => ?_) (fun c5 => ?_)
          · have h := ie_x h c5
            refine lv_aload_n hx hb dX9_bySteps_64 rfl (lv_at hl 0 rfl) ?_
            obtain ⟨o5, ho5, h⟩ := bd_x h
            refine r_V X hH (ws1 := (wX9 g a i o5)) (As := []) (rest := []) (st1 := []) (uX9_allThere (a := a) (i := i) ho5) kX9_allThere mX9_230 iX9_allThere vX9_allThere zX9 okX9_allThere ⟨Nat.le_of_ble_eq_true rfl, Nat.le_of_ble_eq_true rfl⟩ rfl rfl (q0 := 0) rfl rfl (pm_all _) (pm_all _) rfl hl.1 rfl (Nat.le_of_ble_eq_true rfl) ⟨Nat.le_refl 0, Nat.le_refl 0⟩ rfl dX9_bySteps_65 (fun H locs hH => ?_)
            refine lv_iconst (v := (0 : Int32)) hx hb dX9_bySteps_68 (by decide) ?_
            refine s_i X (lv' := [(5, .int (0 : Int32)), (0, .ref (a i)), (1, .int pa), (2, .int pb), (3, .int pc_), (4, .int pd)]) hl rfl dX9_bySteps_69 (by decide) rfl (fun ls hl => ?_)
            exact pX9_bySteps_71 X FU o5 (0 : Int32) H locs ls h hH (lv_sub hl [1, 2, 3, 4, 5, 0] rfl)
          · have h := it_x h c5
            refine lv_aload_n hx hb dX9_bySteps_57 rfl (lv_at hl 0 rfl) ?_
            refine lv_bipush (v := (-2 : Int32)) hx hb dX9_bySteps_58 (by decide) ?_
            obtain ⟨o9, ho9, h⟩ := bd_x h
            refine r_V X hH (ws1 := (wX9 g a i o9.2)) (As := [.int (-2 : Int32)]) (rest := []) (st1 := [.long o9.1]) (uX9_far (a := a) (i := i) ho9) kX9_far mX9_272 iX9_far vX9_far zX9 okX9_far ⟨Nat.le_of_ble_eq_true rfl, Nat.le_of_ble_eq_true rfl⟩ rfl rfl (q0 := 0) rfl rfl (pm_all _) (pm_all _) rfl hl.1 rfl (Nat.le_of_ble_eq_true rfl) ⟨Nat.le_refl 0, Nat.le_refl 0⟩ rfl dX9_bySteps_60 (fun H locs hH => ?_)
            have h := Option.some.inj h
            subst h
            exact e_l X hH dX9_bySteps_63
        · have h := ie_x h c4
          refine lv_aload_n hx hb dX9_bySteps_39 rfl (lv_at hl 0 rfl) ?_
          refine lv_bipush (v := (-6 : Int32)) hx hb dX9_bySteps_40 (by decide) ?_
          obtain ⟨o10, ho10, h⟩ := bd_x h
          refine r_V X hH (ws1 := (wX9 g a i o10.2)) (As := [.int (-6 : Int32)]) (rest := []) (st1 := [.long o10.1]) (uX9_far (a := a) (i := i) ho10) kX9_far mX9_272 iX9_far vX9_far zX9 okX9_far ⟨Nat.le_of_ble_eq_true rfl, Nat.le_of_ble_eq_true rfl⟩ rfl rfl (q0 := 0) rfl rfl (pm_all _) (pm_all _) rfl hl.1 rfl (Nat.le_of_ble_eq_true rfl) ⟨Nat.le_refl 0, Nat.le_refl 0⟩ rfl dX9_bySteps_42 (fun H locs hH => ?_)
          have h := Option.some.inj h
          subst h
          exact e_l X hH dX9_bySteps_45
      · have h := ie_x h c3
        refine lv_aload_n hx hb dX9_bySteps_26 rfl (lv_at hl 0 rfl) ?_
        refine lv_bipush (v := (-4 : Int32)) hx hb dX9_bySteps_27 (by decide) ?_
        obtain ⟨o11, ho11, h⟩ := bd_x h
        refine r_V X hH (ws1 := (wX9 g a i o11.2)) (As := [.int (-4 : Int32)]) (rest := []) (st1 := [.long o11.1]) (uX9_far (a := a) (i := i) ho11) kX9_far mX9_272 iX9_far vX9_far zX9 okX9_far ⟨Nat.le_of_ble_eq_true rfl, Nat.le_of_ble_eq_true rfl⟩ rfl rfl (q0 := 0) rfl rfl (pm_all _) (pm_all _) rfl hl.1 rfl (Nat.le_of_ble_eq_true rfl) ⟨Nat.le_refl 0, Nat.le_refl 0⟩ rfl dX9_bySteps_29 (fun H locs hH => ?_)
        have h := Option.some.inj h
        subst h
        exact e_l X hH dX9_bySteps_32
    · have h := it_x h c2
      exact pX9_bySteps_16 X  xs H locs ls h hH (lv_sub hl [0, 1, 2, 3, 4] rfl)

def fX9_draw (xs : SX9) (pa : Int32) : Option (Int32 × SX9) :=
  ltt ((((m_z xs) * (1664525 : Int32)) + (1013904223 : Int32))) fun v1 =>
  ltt ((m_z_s xs v1)) fun xs1 =>
  gz (pa) <|
  some (((((m_z xs1) &&& (2147483647 : Int32)) / (256 : Int32)) - (((m_z xs1) &&& (2147483647 : Int32)) / (256 : Int32)) / pa * pa), xs1)
set_option maxHeartbeats 4000000 in
set_option maxRecDepth 100000 in
theorem uX9_draw {l : Launch} {g : GG} {a : Nat → Nat} {i : Nat} {xs : SX9} {pa : Int32} {o : (Int32 × SX9)} (h : fX9_draw xs pa = some o) : mC l g yX9_draw cX9_draw 2 (some .int) (rM 0 0) [.ref (a i), .int pa] (wX9 g a i xs) (wX9 g a i o.2) (some (.int o.1)) := by
  refine mC.ofW (by decide) (fun p e s m below meth c X hH ls _ hl => ?_) (Nat.le_of_ble_eq_true rfl)
  have hx := X.1
  have hb := X.2.1
  have hl : lv_has ls 2 [(0, .ref (a i)), (1, .int pa)] := hl
  unfold fX9_draw at h
  suffices HH : ∀ (H : Heap) (locs : List Loc), mH g s (wX9 g a i xs) (wX9 g a i xs) H locs → W p l e (rM 0 0) s m _ below meth c H locs 0 0 (mZ g below _ s (wX9 g a i xs) (wX9 g a i o.2) (some (.int o.1))) (F0 m 0 ls []) from HH _ _ hH
  clear hH
  intro H locs hH
  refine lv_aload_n hx hb dX9_draw_0 rfl (lv_at hl 0 rfl) ?_
  refine lv_aload_n hx hb dX9_draw_1 rfl (lv_at hl 0 rfl) ?_
  refine f_get X hH 0 rfl rfl 32 (by decide) inX9 fX9_326 rfl dX9_draw_2 ?_
  refine lv_ldcw hx hb X.2.2.2.2.1 (X.2.2.2.2.2.1 _ nX9_329) dX9_draw_5 ?_
  refine lv_imul hx hb dX9_draw_8 ?_
  refine lv_ldcw hx hb X.2.2.2.2.1 (X.2.2.2.2.2.1 _ nX9_330) dX9_draw_9 ?_
  refine lv_iadd hx hb dX9_draw_12 ?_
  obtain ⟨v1, ev1, h⟩ := ltt_x h
  refine lv_topi (fun y0 e0 => ?_)
  rw [← ev1] at e0
  subst y0
  obtain ⟨xs1, exs1, h⟩ := ltt_x h
  refine f_put X hH (ws1 := (wX9 g a i xs1)) 0 rfl rfl 32 (by decide) inX9 tyX9 tyX9_ok nmX9 fX9_326 rfl rfl rfl (Nat.le_of_ble_eq_true rfl) (by rw [exs1]; rfl) dX9_draw_13 (fun H locs hH => ?_)
  refine lv_aload_n hx hb dX9_draw_16 rfl (lv_at hl 0 rfl) ?_
  refine f_get X hH 0 rfl rfl 32 (by decide) inX9 fX9_326 rfl dX9_draw_17 ?_
  refine lv_ldcw hx hb X.2.2.2.2.1 (X.2.2.2.2.2.1 _ nX9_331) dX9_draw_20 ?_
  refine lv_iand hx hb dX9_draw_23 ?_
  refine lv_sipush (v := (256 : Int32)) hx hb dX9_draw_24 (by decide) ?_
  refine lv_idiv hx hb dX9_draw_27 (by decide) ?_
  refine lv_iload_n hx hb dX9_draw_28 rfl (lv_at hl 1 rfl) ?_
  obtain ⟨z1, h⟩ := gz_x h
  refine lv_irem hx hb dX9_draw_29 z1 ?_
  have h := Option.some.inj h
  subst h
  exact e_i X hH dX9_draw_30

def qX9_wayFrom_32 (pa : Int32) (k41 : SX9 → Int32 → Int32 → Option (Int32 × SX9)) (xs : SX9) (l2 : Int32) (l3 : Int32) : Option (Int32 × SX9) :=
  (fX9_weight xs l3).bind fun o3 =>
  (if l2 < o3 then
  some (l3, xs)
  else
  k41 xs l2 l3)
def qX9_wayFrom_62 (pa : Int32) (k71 : SX9 → Int32 → Int32 → Int32 → Option (Int32 × SX9)) (xs : SX9) (l3 : Int32) (t0 : Int32) : Option (Int32 × SX9) :=
  (fX9_weight xs l3).bind fun o4 =>
  k71 xs l3 t0 o4
def qX9_wayFrom_71 (pa : Int32) (k12 : SX9 → Int32 → Int32 → Option (Int32 × SX9)) (xs : SX9) (l3 : Int32) (t0 : Int32) (t1 : Int32) : Option (Int32 × SX9) :=
  ltt ((t0 - t1)) fun v1 =>
  ltt (l3 + (1 : Int32)) fun v2 =>
  k12 xs v1 v2
def qX9_wayFrom_41 (pa : Int32) (k12 : SX9 → Int32 → Int32 → Option (Int32 × SX9)) (xs : SX9) (l2 : Int32) (l3 : Int32) : Option (Int32 × SX9) :=
  ga 11 l3 fun j2 =>
  (if ((m_first xs) j2) = pa then
  qX9_wayFrom_62 pa (qX9_wayFrom_71 pa k12) xs l3 l2
  else
  ga 11 l3 fun j3 =>
  (if ((m_second xs) j3) = pa then
  qX9_wayFrom_62 pa (qX9_wayFrom_71 pa k12) xs l3 l2
  else
  qX9_wayFrom_71 pa k12 xs l3 l2 (0 : Int32)))
def qX9_wayFrom_12 (pa : Int32)  : Nat → SX9 → Int32 → Int32 → Option (Int32 × SX9)
  | 0, _, _, _ => none
  | fu + 1, xs, l2, l3 =>
  ga 11 l3 fun j1 =>
  (if ((m_first xs) j1) = pa then
  qX9_wayFrom_32 pa (qX9_wayFrom_41 pa (qX9_wayFrom_12 pa  fu)) xs l2 l3
  else
  ga 11 l3 fun j4 =>
  (if ((m_second xs) j4) = pa then
  qX9_wayFrom_32 pa (qX9_wayFrom_41 pa (qX9_wayFrom_12 pa  fu)) xs l2 l3
  else
  qX9_wayFrom_41 pa (qX9_wayFrom_12 pa  fu) xs l2 l3))
def fX9_wayFrom (xs : SX9) (pa : Int32) : Option (Int32 × SX9) :=
  (fX9_weightsAt xs pa).bind fun o1 =>
  (fX9_draw xs o1).bind fun o2 =>
  qX9_wayFrom_12 pa FU o2.2 o2.1 (0 : Int32)
set_option maxHeartbeats 4000000 in
set_option maxRecDepth 100000 in
theorem pX9_wayFrom_32 {p : Program} {l : Launch} {e : Env} {s : State} {m : MethodId} {args : Array Value} {below : List Frame} {meth : Method} {c : Code} {g : GG} {w0 : va_W} {a : Nat → Nat} {i : Nat} {pa : Int32} {o : (Int32 × SX9)} (X : mX g yX9_wayFrom cX9_wayFrom 4 (some .int) p s m args meth c w0)
  {k41 : SX9 → Int32 → Int32 → Option (Int32 × SX9)} (K41 : ∀ (xs : SX9) (l2 : Int32) (l3 : Int32) (H : Heap) (locs : List Loc) (ls : Array Slot), k41 xs l2 l3 = some o → mH g s w0 (wX9 g a i xs) H locs → lv_has ls 4 [(0, .ref (a i)), (1, .int pa), (2, .int l2), (3, .int l3)] → W p l e (rM 3 66) s m args below meth c H locs 0 0 (mZ g below args s w0 (wX9 g a i o.2) (some (.int o.1))) (F0 m 41 ls [])) :
  ∀ (xs : SX9) (l2 : Int32) (l3 : Int32) (H : Heap) (locs : List Loc) (ls : Array Slot), qX9_wayFrom_32 pa k41 xs l2 l3 = some o → mH g s w0 (wX9 g a i xs) H locs → lv_has ls 4 [(0, .ref (a i)), (1, .int pa), (2, .int l2), (3, .int l3)] → W p l e (rM 3 66) s m args below meth c H locs 0 0 (mZ g below args s w0 (wX9 g a i o.2) (some (.int o.1))) (F0 m 32 ls []) := by
  have hx := X.1
  have hb := X.2.1
  intro xs l2 l3 H locs ls h hH hl
  unfold qX9_wayFrom_32 at h
  refine lv_iload_n hx hb dX9_wayFrom_32 rfl (lv_at hl 2 rfl) ?_
  refine lv_aload_n hx hb dX9_wayFrom_33 rfl (lv_at hl 0 rfl) ?_
  refine lv_iload_n hx hb dX9_wayFrom_34 rfl (lv_at hl 3 rfl) ?_
  obtain ⟨o3, ho3, h⟩ := bd_x h
  refine r_V X hH (ws1 := (wX9 g a i xs)) (As := [.int l3]) (rest := [.int l2]) (st1 := [.int o3, .int l2]) (uX9_weight (a := a) (i := i) ho3) kX9_weight mX9_171 iX9_weight vX9_weight zX9 okX9_weight ⟨Nat.le_of_ble_eq_true rfl, Nat.le_of_ble_eq_true rfl⟩ rfl rfl (q0 := 0) rfl rfl (pm_all _) (pm_all _) rfl hl.1 rfl (Nat.le_of_ble_eq_true rfl) ⟨Nat.le_refl 0, Nat.le_refl 0⟩ rfl dX9_wayFrom_35 (fun H locs hH => ?_)
  refine lv_icmp_lt (tgt := 79) hx hb dX9_wayFrom_38 (by decide) (fun c2 => ?_) (fun c2 => ?_)
  · have h := it_x h c2
    refine lv_iload_n hx hb dX9_wayFrom_79 rfl (lv_at hl 3 rfl) ?_
    have h := Option.some.inj h
    subst h
    exact e_i X hH dX9_wayFrom_80
  · have h := ie_x h c2
    exact K41 xs l2 l3 H locs ls h hH (lv_sub hl [0, 1, 2, 3] rfl)
set_option maxHeartbeats 4000000 in
set_option maxRecDepth 100000 in
theorem pX9_wayFrom_62 {p : Program} {l : Launch} {e : Env} {s : State} {m : MethodId} {args : Array Value} {below : List Frame} {meth : Method} {c : Code} {g : GG} {w0 : va_W} {a : Nat → Nat} {i : Nat} {pa : Int32} {o : (Int32 × SX9)} (X : mX g yX9_wayFrom cX9_wayFrom 4 (some .int) p s m args meth c w0)
  {k71 : SX9 → Int32 → Int32 → Int32 → Option (Int32 × SX9)} (K71 : ∀ (xs : SX9) (l3 : Int32) (t0 : Int32) (t1 : Int32) (H : Heap) (locs : List Loc) (ls : Array Slot), k71 xs l3 t0 t1 = some o → mH g s w0 (wX9 g a i xs) H locs → lv_has ls 4 [(0, .ref (a i)), (1, .int pa), (3, .int l3)] → W p l e (rM 3 66) s m args below meth c H locs 0 0 (mZ g below args s w0 (wX9 g a i o.2) (some (.int o.1))) (F0 m 71 ls [.int t1, .int t0])) :
  ∀ (xs : SX9) (l3 : Int32) (t0 : Int32) (H : Heap) (locs : List Loc) (ls : Array Slot), qX9_wayFrom_62 pa k71 xs l3 t0 = some o → mH g s w0 (wX9 g a i xs) H locs → lv_has ls 4 [(0, .ref (a i)), (1, .int pa), (3, .int l3)] → W p l e (rM 3 66) s m args below meth c H locs 0 0 (mZ g below args s w0 (wX9 g a i o.2) (some (.int o.1))) (F0 m 62 ls [.int t0]) := by
  have hx := X.1
  have hb := X.2.1
  intro xs l3 t0 H locs ls h hH hl
  unfold qX9_wayFrom_62 at h
  refine lv_aload_n hx hb dX9_wayFrom_62 rfl (lv_at hl 0 rfl) ?_
  refine lv_iload_n hx hb dX9_wayFrom_63 rfl (lv_at hl 2 rfl) ?_
  obtain ⟨o4, ho4, h⟩ := bd_x h
  refine r_V X hH (ws1 := (wX9 g a i xs)) (As := [.int l3]) (rest := [.int t0]) (st1 := [.int o4, .int t0]) (uX9_weight (a := a) (i := i) ho4) kX9_weight mX9_171 iX9_weight vX9_weight zX9 okX9_weight ⟨Nat.le_of_ble_eq_true rfl, Nat.le_of_ble_eq_true rfl⟩ rfl rfl (q0 := 0) rfl rfl (pm_all _) (pm_all _) rfl hl.1 rfl (Nat.le_of_ble_eq_true rfl) ⟨Nat.le_refl 0, Nat.le_refl 0⟩ rfl dX9_wayFrom_64 (fun H locs hH => ?_)
  refine lv_goto (tgt := 71) hx hb dX9_wayFrom_67 (by decide) ?_
  exact K71 xs l3 t0 o4 H locs ls h hH (lv_sub hl [0, 1, 2] rfl)
set_option maxHeartbeats 4000000 in
set_option maxRecDepth 100000 in
theorem pX9_wayFrom_71 {p : Program} {l : Launch} {e : Env} {s : State} {m : MethodId} {args : Array Value} {below : List Frame} {meth : Method} {c : Code} {g : GG} {w0 : va_W} {a : Nat → Nat} {i : Nat} {pa : Int32} {o : (Int32 × SX9)} (X : mX g yX9_wayFrom cX9_wayFrom 4 (some .int) p s m args meth c w0)
  {k12 : SX9 → Int32 → Int32 → Option (Int32 × SX9)} (K12 : ∀ (xs : SX9) (l2 : Int32) (l3 : Int32) (H : Heap) (locs : List Loc) (ls : Array Slot), k12 xs l2 l3 = some o → mH g s w0 (wX9 g a i xs) H locs → lv_has ls 4 [(0, .ref (a i)), (1, .int pa), (2, .int l2), (3, .int l3)] → W p l e (rM 3 66) s m args below meth c H locs 0 0 (mZ g below args s w0 (wX9 g a i o.2) (some (.int o.1))) (F0 m 12 ls [])) :
  ∀ (xs : SX9) (l3 : Int32) (t0 : Int32) (t1 : Int32) (H : Heap) (locs : List Loc) (ls : Array Slot), qX9_wayFrom_71 pa k12 xs l3 t0 t1 = some o → mH g s w0 (wX9 g a i xs) H locs → lv_has ls 4 [(0, .ref (a i)), (1, .int pa), (3, .int l3)] → W p l e (rM 3 66) s m args below meth c H locs 0 0 (mZ g below args s w0 (wX9 g a i o.2) (some (.int o.1))) (F0 m 71 ls [.int t1, .int t0]) := by
  have hx := X.1
  have hb := X.2.1
  intro xs l3 t0 t1 H locs ls h hH hl
  unfold qX9_wayFrom_71 at h
  refine lv_isub hx hb dX9_wayFrom_71 ?_
  obtain ⟨v1, ev1, h⟩ := ltt_x h
  refine s_in X (lv' := [(2, .int v1), (0, .ref (a i)), (1, .int pa), (3, .int l3)]) hl ev1 dX9_wayFrom_72 rfl (by decide) rfl (fun ls hl => ?_)
  obtain ⟨v2, ev2, h⟩ := ltt_x h
  refine s_inc X (k := 3) (lv' := [(3, .int v2), (2, .int v1), (0, .ref (a i)), (1, .int pa)]) hl rfl (by rw [ev2]; rfl) dX9_wayFrom_73 (by decide) rfl (fun ls hl => ?_)
  refine lv_goto (tgt := 12) hx hb dX9_wayFrom_76 (by decide) ?_
  exact K12 xs v1 v2 H locs ls h hH (lv_sub hl [2, 3, 1, 0] rfl)
set_option maxHeartbeats 4000000 in
set_option maxRecDepth 100000 in
theorem pX9_wayFrom_41 {p : Program} {l : Launch} {e : Env} {s : State} {m : MethodId} {args : Array Value} {below : List Frame} {meth : Method} {c : Code} {g : GG} {w0 : va_W} {a : Nat → Nat} {i : Nat} {pa : Int32} {o : (Int32 × SX9)} (X : mX g yX9_wayFrom cX9_wayFrom 4 (some .int) p s m args meth c w0)
  {k12 : SX9 → Int32 → Int32 → Option (Int32 × SX9)} (K12 : ∀ (xs : SX9) (l2 : Int32) (l3 : Int32) (H : Heap) (locs : List Loc) (ls : Array Slot), k12 xs l2 l3 = some o → mH g s w0 (wX9 g a i xs) H locs → lv_has ls 4 [(0, .ref (a i)), (1, .int pa), (2, .int l2), (3, .int l3)] → W p l e (rM 3 66) s m args below meth c H locs 0 0 (mZ g below args s w0 (wX9 g a i o.2) (some (.int o.1))) (F0 m 12 ls [])) :
  ∀ (xs : SX9) (l2 : Int32) (l3 : Int32) (H : Heap) (locs : List Loc) (ls : Array Slot), qX9_wayFrom_41 pa k12 xs l2 l3 = some o → mH g s w0 (wX9 g a i xs) H locs → lv_has ls 4 [(0, .ref (a i)), (1, .int pa), (2, .int l2), (3, .int l3)] → W p l e (rM 3 66) s m args below meth c H locs 0 0 (mZ g below args s w0 (wX9 g a i o.2) (some (.int o.1))) (F0 m 41 ls []) := by
  have hx := X.1
  have hb := X.2.1
  intro xs l2 l3 H locs ls h hH hl
  unfold qX9_wayFrom_41 at h
  refine lv_iload_n hx hb dX9_wayFrom_41 rfl (lv_at hl 2 rfl) ?_
  refine lv_aload_n hx hb dX9_wayFrom_42 rfl (lv_at hl 0 rfl) ?_
  refine f_get X hH 0 rfl rfl 2 (by decide) inX9 fX9_13 rfl dX9_wayFrom_43 ?_
  refine lv_iload_n hx hb dX9_wayFrom_46 rfl (lv_at hl 3 rfl) ?_
  obtain ⟨j2, ej2, hinj2, h⟩ := ga_x h
  refine a_il X hH 1 rfl hinj2 ej2 dX9_wayFrom_47 ?_
  refine lv_iload_n hx hb dX9_wayFrom_48 rfl (lv_at hl 1 rfl) ?_
  refine lv_icmp_eq (tgt := 62) hx hb dX9_wayFrom_49 (by decide) (fun c3 => ?_) (fun c3 => ?_)
  · have h := it_x h c3
    exact pX9_wayFrom_62 X (pX9_wayFrom_71 X K12) xs l3 l2 H locs ls h hH (lv_sub hl [0, 1, 3] rfl)
  · have h := ie_x h c3
    refine lv_aload_n hx hb dX9_wayFrom_52 rfl (lv_at hl 0 rfl) ?_
    refine f_get X hH 0 rfl rfl 3 (by decide) inX9 fX9_17 rfl dX9_wayFrom_53 ?_
    refine lv_iload_n hx hb dX9_wayFrom_56 rfl (lv_at hl 3 rfl) ?_
    obtain ⟨j3, ej3, hinj3, h⟩ := ga_x h
    refine a_il X hH 2 rfl hinj3 ej3 dX9_wayFrom_57 ?_
    refine lv_iload_n hx hb dX9_wayFrom_58 rfl (lv_at hl 1 rfl) ?_
    refine lv_icmp_ne (tgt := 70) hx hb dX9_wayFrom_59 (by decide) (fun c4 => ?_) (fun c4 => ?_)
    · have h := ie_x h c4
      refine lv_iconst (v := (0 : Int32)) hx hb dX9_wayFrom_70 (by decide) ?_
      exact pX9_wayFrom_71 X K12 xs l3 l2 (0 : Int32) H locs ls h hH (lv_sub hl [0, 1, 3] rfl)
    · have h := it_x h c4
      exact pX9_wayFrom_62 X (pX9_wayFrom_71 X K12) xs l3 l2 H locs ls h hH (lv_sub hl [0, 1, 3] rfl)
set_option maxHeartbeats 4000000 in
set_option maxRecDepth 100000 in
theorem pX9_wayFrom_12 {p : Program} {l : Launch} {e : Env} {s : State} {m : MethodId} {args : Array Value} {below : List Frame} {meth : Method} {c : Code} {g : GG} {w0 : va_W} {a : Nat → Nat} {i : Nat} {pa : Int32} {o : (Int32 × SX9)} (X : mX g yX9_wayFrom cX9_wayFrom 4 (some .int) p s m args meth c w0) :
  ∀ (fu : Nat) (xs : SX9) (l2 : Int32) (l3 : Int32) (H : Heap) (locs : List Loc) (ls : Array Slot), qX9_wayFrom_12 pa fu xs l2 l3 = some o → mH g s w0 (wX9 g a i xs) H locs → lv_has ls 4 [(0, .ref (a i)), (1, .int pa), (2, .int l2), (3, .int l3)] → W p l e (rM 3 66) s m args below meth c H locs 0 0 (mZ g below args s w0 (wX9 g a i o.2) (some (.int o.1))) (F0 m 12 ls []) := by
  have hx := X.1
  have hb := X.2.1
  intro fu
  induction fu with
  | zero =>
    intro xs l2 l3 H locs ls h
    unfold qX9_wayFrom_12 at h
    cases h
  | succ fu ih =>
    intro xs l2 l3 H locs ls h hH hl
    unfold qX9_wayFrom_12 at h
    refine lv_aload_n hx hb dX9_wayFrom_12 rfl (lv_at hl 0 rfl) ?_
    refine f_get X hH 0 rfl rfl 2 (by decide) inX9 fX9_13 rfl dX9_wayFrom_13 ?_
    refine lv_iload_n hx hb dX9_wayFrom_16 rfl (lv_at hl 3 rfl) ?_
    obtain ⟨j1, ej1, hinj1, h⟩ := ga_x h
    refine a_il X hH 1 rfl hinj1 ej1 dX9_wayFrom_17 ?_
    refine lv_iload_n hx hb dX9_wayFrom_18 rfl (lv_at hl 1 rfl) ?_
    refine lv_icmp_eq (tgt := 32) hx hb dX9_wayFrom_19 (by decide) (fun c1 => ?_) (fun c1 => ?_)
    · have h := it_x h c1
      exact pX9_wayFrom_32 X (pX9_wayFrom_41 X ih) xs l2 l3 H locs ls h hH (lv_sub hl [0, 1, 2, 3] rfl)
    · have h := ie_x h c1
      refine lv_aload_n hx hb dX9_wayFrom_22 rfl (lv_at hl 0 rfl) ?_
      refine f_get X hH 0 rfl rfl 3 (by decide) inX9 fX9_17 rfl dX9_wayFrom_23 ?_
      refine lv_iload_n hx hb dX9_wayFrom_26 rfl (lv_at hl 3 rfl) ?_
      obtain ⟨j4, ej4, hinj4, h⟩ := ga_x h
      refine a_il X hH 2 rfl hinj4 ej4 dX9_wayFrom_27 ?_
      refine lv_iload_n hx hb dX9_wayFrom_28 rfl (lv_at hl 1 rfl) ?_
      refine lv_icmp_ne (tgt := 41) hx hb dX9_wayFrom_29 (by decide) (fun c5 => ?_) (fun c5 => ?_)
      · have h := ie_x h c5
        exact pX9_wayFrom_41 X ih xs l2 l3 H locs ls h hH (lv_sub hl [0, 1, 2, 3] rfl)
      · have h := it_x h c5
        exact pX9_wayFrom_32 X (pX9_wayFrom_41 X ih) xs l2 l3 H locs ls h hH (lv_sub hl [0, 1, 2, 3] rfl)
set_option maxHeartbeats 4000000 in
set_option maxRecDepth 100000 in
theorem uX9_wayFrom {l : Launch} {g : GG} {a : Nat → Nat} {i : Nat} {xs : SX9} {pa : Int32} {o : (Int32 × SX9)} (h : fX9_wayFrom xs pa = some o) : mC l g yX9_wayFrom cX9_wayFrom 4 (some .int) (rM 3 66) [.ref (a i), .int pa] (wX9 g a i xs) (wX9 g a i o.2) (some (.int o.1)) := by
  refine mC.ofW (by decide) (fun p e s m below meth c X hH ls _ hl => ?_) (Nat.le_of_ble_eq_true rfl)
  have hx := X.1
  have hb := X.2.1
  have hl : lv_has ls 4 [(0, .ref (a i)), (1, .int pa)] := hl
  unfold fX9_wayFrom at h
  suffices HH : ∀ (H : Heap) (locs : List Loc), mH g s (wX9 g a i xs) (wX9 g a i xs) H locs → W p l e (rM 3 66) s m _ below meth c H locs 0 0 (mZ g below _ s (wX9 g a i xs) (wX9 g a i o.2) (some (.int o.1))) (F0 m 0 ls []) from HH _ _ hH
  clear hH
  intro H locs hH
  refine lv_aload_n hx hb dX9_wayFrom_0 rfl (lv_at hl 0 rfl) ?_
  refine lv_aload_n hx hb dX9_wayFrom_1 rfl (lv_at hl 0 rfl) ?_
  refine lv_iload_n hx hb dX9_wayFrom_2 rfl (lv_at hl 1 rfl) ?_
  obtain ⟨o1, ho1, h⟩ := bd_x h
  refine r_V X hH (ws1 := (wX9 g a i xs)) (As := [.int pa]) (rest := [.ref (a i)]) (st1 := [.int o1, .ref (a i)]) (uX9_weightsAt (a := a) (i := i) ho1) kX9_weightsAt mX9_239 iX9_weightsAt vX9_weightsAt zX9 okX9_weightsAt ⟨Nat.le_of_ble_eq_true rfl, Nat.le_of_ble_eq_true rfl⟩ rfl rfl (q0 := 0) rfl rfl (pm_all _) (pm_all _) rfl hl.1 rfl (Nat.le_of_ble_eq_true rfl) ⟨Nat.le_refl 0, Nat.le_refl 0⟩ rfl dX9_wayFrom_3 (fun H locs hH => ?_)
  obtain ⟨o2, ho2, h⟩ := bd_x h
  refine r_V X hH (ws1 := (wX9 g a i o2.2)) (As := [.int o1]) (rest := []) (st1 := [.int o2.1]) (uX9_draw (a := a) (i := i) ho2) kX9_draw mX9_332 iX9_draw vX9_draw zX9 okX9_draw ⟨Nat.le_of_ble_eq_true rfl, Nat.le_of_ble_eq_true rfl⟩ rfl rfl (q0 := 0) rfl rfl (pm_all _) (pm_all _) rfl hl.1 rfl (Nat.le_of_ble_eq_true rfl) ⟨Nat.le_refl 0, Nat.le_refl 0⟩ rfl dX9_wayFrom_6 (fun H locs hH => ?_)
  refine s_in X (lv' := [(2, .int o2.1), (0, .ref (a i)), (1, .int pa)]) hl rfl dX9_wayFrom_9 rfl (by decide) rfl (fun ls hl => ?_)
  refine lv_iconst (v := (0 : Int32)) hx hb dX9_wayFrom_10 (by decide) ?_
  refine s_in X (lv' := [(3, .int (0 : Int32)), (2, .int o2.1), (0, .ref (a i)), (1, .int pa)]) hl rfl dX9_wayFrom_11 rfl (by decide) rfl (fun ls hl => ?_)
  exact pX9_wayFrom_12 X FU o2.2 o2.1 (0 : Int32) H locs ls h hH (lv_sub hl [2, 3, 1, 0] rfl)

def qX9_lots_21 (pa : Int32) (pb : Int32) (pc_ : Int32) (pd : Int32) (pe : Int32)  (xs : SX9) : Option (Int32 × SX9) :=
  (fX9_no xs (-1 : Int32)).bind fun o2 =>
  some (o2.1, o2.2)
def qX9_lots_212 (pa : Int32) (pb : Int32) (pc_ : Int32) (pd : Int32) (pe : Int32) (k89 : SX9 → Int32 → Int32 → Int32 → Option (Int32 × SX9)) (xs : SX9) (l6 : Int32) (l8 : Int32) (t0 : Int32) (t1 : Int32) : Option (Int32 × SX9) :=
  ltt ((t0 + t1)) fun v2 =>
  ltt (l8 + (1 : Int32)) fun v3 =>
  k89 xs l6 v2 v3
def qX9_lots_195 (pa : Int32) (pb : Int32) (pc_ : Int32) (pd : Int32) (pe : Int32) (k89 : SX9 → Int32 → Int32 → Int32 → Option (Int32 × SX9)) (xs : SX9) (l7 : Int32) (l8 : Int32) (l9 : Int32) (l10 : Int32) (t0 : Int32) (t1 : Int32) : Option (Int32 × SX9) :=
  ltt ((t0 + t1)) fun v1 =>
  (if l9 = pb then
  qX9_lots_212 pa pb pc_ pd pe k89 xs v1 l8 l7 l10
  else
  qX9_lots_212 pa pb pc_ pd pe k89 xs v1 l8 l7 (0 : Int32))
def qX9_lots_182 (pa : Int32) (pb : Int32) (pc_ : Int32) (pd : Int32) (pe : Int32) (k89 : SX9 → Int32 → Int32 → Int32 → Option (Int32 × SX9)) (xs : SX9) (l6 : Int32) (l7 : Int32) (l8 : Int32) (l9 : Int32) (l10 : Int32) : Option (Int32 × SX9) :=
  (if l9 = pb then
  qX9_lots_195 pa pb pc_ pd pe k89 xs l7 l8 l9 l10 l6 (1 : Int32)
  else
  qX9_lots_195 pa pb pc_ pd pe k89 xs l7 l8 l9 l10 l6 (0 : Int32))
def qX9_lots_174 (pa : Int32) (pb : Int32) (pc_ : Int32) (pd : Int32) (pe : Int32) (k104 : SX9 → Int32 → Int32 → Int32 → Int32 → Int32 → Int32 → Option (Int32 × SX9)) (xs : SX9) (l6 : Int32) (l7 : Int32) (l8 : Int32) (l10 : Int32) (l11 : Int32) (t0 : Int32) : Option (Int32 × SX9) :=
  ltt (l11 + (1 : Int32)) fun v5 =>
  k104 xs l6 l7 l8 t0 l10 v5
def qX9_lots_104 (pa : Int32) (pb : Int32) (pc_ : Int32) (pd : Int32) (pe : Int32) (k89 : SX9 → Int32 → Int32 → Int32 → Option (Int32 × SX9)) : Nat → SX9 → Int32 → Int32 → Int32 → Int32 → Int32 → Int32 → Option (Int32 × SX9)
  | 0, _, _, _, _, _, _, _ => none
  | fu + 1, xs, l6, l7, l8, l9, l10, l11 =>
  (if (60 : Int32) ≤ l11 then
  qX9_lots_182 pa pb pc_ pd pe k89 xs l6 l7 l8 l9 l10
  else
  (if l9 = pb then
  qX9_lots_182 pa pb pc_ pd pe k89 xs l6 l7 l8 l9 l10
  else
  (fX9_weightsAt xs l9).bind fun o6 =>
  (if o6 ≤ (0 : Int32) then
  qX9_lots_182 pa pb pc_ pd pe k89 xs l6 l7 l8 l9 l10
  else
  (fX9_wayFrom xs l9).bind fun o7 =>
  (fX9_minutes o7.2 o7.1).bind fun o8 =>
  ltt ((l10 + o8)) fun v4 =>
  ga 11 o7.1 fun j1 =>
  (if ((m_first o7.2) j1) = l9 then
  ga 11 o7.1 fun j3 =>
  qX9_lots_174 pa pb pc_ pd pe (qX9_lots_104 pa pb pc_ pd pe k89 fu) o7.2 l6 l7 l8 v4 l11 ((m_second o7.2) j3)
  else
  ga 11 o7.1 fun j2 =>
  qX9_lots_174 pa pb pc_ pd pe (qX9_lots_104 pa pb pc_ pd pe k89 fu) o7.2 l6 l7 l8 v4 l11 ((m_first o7.2) j2)))))
def qX9_lots_89 (pa : Int32) (pb : Int32) (pc_ : Int32) (pd : Int32) (pe : Int32)  : Nat → SX9 → Int32 → Int32 → Int32 → Option (Int32 × SX9)
  | 0, _, _, _, _ => none
  | fu + 1, xs, l6, l7, l8 =>
  (if pc_ ≤ l8 then
  (if pe = (0 : Int32) then
  some (l6, xs)
  else
  some (l7, xs))
  else
  qX9_lots_104 pa pb pc_ pd pe (qX9_lots_89 pa pb pc_ pd pe  fu) FU xs l6 l7 l8 pa (0 : Int32) (0 : Int32))
def fX9_lots (xs : SX9) (pa : Int32) (pb : Int32) (pc_ : Int32) (pd : Int32) (pe : Int32) : Option (Int32 × SX9) :=
  (fX9_isPoint xs pa).bind fun o1 =>
  (if o1 = (0 : Int32) then
  qX9_lots_21 pa pb pc_ pd pe xs
  else
  (fX9_isPoint xs pb).bind fun o3 =>
  (if o3 = (0 : Int32) then
  qX9_lots_21 pa pb pc_ pd pe xs
  else
  (if pa = pb then
  qX9_lots_21 pa pb pc_ pd pe xs
  else
  (if (1 : Int32) ≤ pc_ then
  (if pc_ ≤ (30 : Int32) then
  (fX9_isIn (pe.toInt64) (0 : Int64) (1 : Int64)).bind fun o4 =>
  (if o4 = (0 : Int32) then
  (fX9_no xs (-2 : Int32)).bind fun o9 =>
  some (o9.1, o9.2)
  else
  (fX9_allThere xs).bind fun o5 =>
  ltt ((m_z_s o5 pd)) fun xs1 =>
  qX9_lots_89 pa pb pc_ pd pe FU xs1 (0 : Int32) (0 : Int32) (0 : Int32))
  else
  (fX9_no xs (-6 : Int32)).bind fun o10 =>
  some (o10.1, o10.2))
  else
  (fX9_no xs (-4 : Int32)).bind fun o11 =>
  some (o11.1, o11.2)))))
set_option maxHeartbeats 4000000 in
set_option maxRecDepth 100000 in
theorem pX9_lots_21 {p : Program} {l : Launch} {e : Env} {s : State} {m : MethodId} {args : Array Value} {below : List Frame} {meth : Method} {c : Code} {g : GG} {w0 : va_W} {a : Nat → Nat} {i : Nat} {pa : Int32} {pb : Int32} {pc_ : Int32} {pd : Int32} {pe : Int32} {o : (Int32 × SX9)} (X : mX g yX9_lots cX9_lots 13 (some .int) p s m args meth c w0) :
  ∀ (xs : SX9) (H : Heap) (locs : List Loc) (ls : Array Slot), qX9_lots_21 pa pb pc_ pd pe xs = some o → mH g s w0 (wX9 g a i xs) H locs → lv_has ls 13 [(0, .ref (a i)), (1, .int pa), (2, .int pb), (3, .int pc_), (4, .int pd), (5, .int pe)] → W p l e (rM 4 89) s m args below meth c H locs 0 0 (mZ g below args s w0 (wX9 g a i o.2) (some (.int o.1))) (F0 m 21 ls []) := by
  have hx := X.1
  have hb := X.2.1
  intro xs H locs ls h hH hl
  unfold qX9_lots_21 at h
  refine lv_aload_n hx hb dX9_lots_21 rfl (lv_at hl 0 rfl) ?_
  refine lv_iconst (v := (-1 : Int32)) hx hb dX9_lots_22 (by decide) ?_
  obtain ⟨o2, ho2, h⟩ := bd_x h
  refine r_V X hH (ws1 := (wX9 g a i o2.2)) (As := [.int (-1 : Int32)]) (rest := []) (st1 := [.int o2.1]) (uX9_no (a := a) (i := i) ho2) kX9_no mX9_125 iX9_no vX9_no zX9 okX9_no ⟨Nat.le_of_ble_eq_true rfl, Nat.le_of_ble_eq_true rfl⟩ rfl rfl (q0 := 0) rfl rfl (pm_all _) (pm_all _) rfl hl.1 rfl (Nat.le_of_ble_eq_true rfl) ⟨Nat.le_refl 0, Nat.le_refl 0⟩ rfl dX9_lots_23 (fun H locs hH => ?_)
  have h := Option.some.inj h
  subst h
  exact e_i X hH dX9_lots_26
set_option maxHeartbeats 4000000 in
set_option maxRecDepth 100000 in
theorem pX9_lots_212 {p : Program} {l : Launch} {e : Env} {s : State} {m : MethodId} {args : Array Value} {below : List Frame} {meth : Method} {c : Code} {g : GG} {w0 : va_W} {a : Nat → Nat} {i : Nat} {pa : Int32} {pb : Int32} {pc_ : Int32} {pd : Int32} {pe : Int32} {o : (Int32 × SX9)} (X : mX g yX9_lots cX9_lots 13 (some .int) p s m args meth c w0)
  {k89 : SX9 → Int32 → Int32 → Int32 → Option (Int32 × SX9)} (K89 : ∀ (xs : SX9) (l6 : Int32) (l7 : Int32) (l8 : Int32) (H : Heap) (locs : List Loc) (ls : Array Slot), k89 xs l6 l7 l8 = some o → mH g s w0 (wX9 g a i xs) H locs → lv_has ls 13 [(0, .ref (a i)), (1, .int pa), (2, .int pb), (3, .int pc_), (4, .int pd), (5, .int pe), (6, .int l6), (7, .int l7), (8, .int l8)] → W p l e (rM 4 89) s m args below meth c H locs 0 0 (mZ g below args s w0 (wX9 g a i o.2) (some (.int o.1))) (F0 m 89 ls [])) :
  ∀ (xs : SX9) (l6 : Int32) (l8 : Int32) (t0 : Int32) (t1 : Int32) (H : Heap) (locs : List Loc) (ls : Array Slot), qX9_lots_212 pa pb pc_ pd pe k89 xs l6 l8 t0 t1 = some o → mH g s w0 (wX9 g a i xs) H locs → lv_has ls 13 [(0, .ref (a i)), (1, .int pa), (2, .int pb), (3, .int pc_), (4, .int pd), (5, .int pe), (6, .int l6), (8, .int l8)] → W p l e (rM 4 89) s m args below meth c H locs 0 0 (mZ g below args s w0 (wX9 g a i o.2) (some (.int o.1))) (F0 m 212 ls [.int t1, .int t0]) := by
  have hx := X.1
  have hb := X.2.1
  intro xs l6 l8 t0 t1 H locs ls h hH hl
  unfold qX9_lots_212 at h
  refine lv_iadd hx hb dX9_lots_212 ?_
  obtain ⟨v2, ev2, h⟩ := ltt_x h
  refine s_i X (lv' := [(7, .int v2), (0, .ref (a i)), (1, .int pa), (2, .int pb), (3, .int pc_), (4, .int pd), (5, .int pe), (6, .int l6), (8, .int l8)]) hl ev2 dX9_lots_213 (by decide) rfl (fun ls hl => ?_)
  obtain ⟨v3, ev3, h⟩ := ltt_x h
  refine s_inc X (k := 8) (lv' := [(8, .int v3), (7, .int v2), (0, .ref (a i)), (1, .int pa), (2, .int pb), (3, .int pc_), (4, .int pd), (5, .int pe), (6, .int l6)]) hl rfl (by rw [ev3]; rfl) dX9_lots_215 (by decide) rfl (fun ls hl => ?_)
  refine lv_goto (tgt := 89) hx hb dX9_lots_218 (by decide) ?_
  exact K89 xs l6 v2 v3 H locs ls h hH (lv_sub hl [2, 3, 4, 5, 6, 7, 8, 1, 0] rfl)
set_option maxHeartbeats 4000000 in
set_option maxRecDepth 100000 in
theorem pX9_lots_195 {p : Program} {l : Launch} {e : Env} {s : State} {m : MethodId} {args : Array Value} {below : List Frame} {meth : Method} {c : Code} {g : GG} {w0 : va_W} {a : Nat → Nat} {i : Nat} {pa : Int32} {pb : Int32} {pc_ : Int32} {pd : Int32} {pe : Int32} {o : (Int32 × SX9)} (X : mX g yX9_lots cX9_lots 13 (some .int) p s m args meth c w0)
  {k89 : SX9 → Int32 → Int32 → Int32 → Option (Int32 × SX9)} (K89 : ∀ (xs : SX9) (l6 : Int32) (l7 : Int32) (l8 : Int32) (H : Heap) (locs : List Loc) (ls : Array Slot), k89 xs l6 l7 l8 = some o → mH g s w0 (wX9 g a i xs) H locs → lv_has ls 13 [(0, .ref (a i)), (1, .int pa), (2, .int pb), (3, .int pc_), (4, .int pd), (5, .int pe), (6, .int l6), (7, .int l7), (8, .int l8)] → W p l e (rM 4 89) s m args below meth c H locs 0 0 (mZ g below args s w0 (wX9 g a i o.2) (some (.int o.1))) (F0 m 89 ls [])) :
  ∀ (xs : SX9) (l7 : Int32) (l8 : Int32) (l9 : Int32) (l10 : Int32) (t0 : Int32) (t1 : Int32) (H : Heap) (locs : List Loc) (ls : Array Slot), qX9_lots_195 pa pb pc_ pd pe k89 xs l7 l8 l9 l10 t0 t1 = some o → mH g s w0 (wX9 g a i xs) H locs → lv_has ls 13 [(0, .ref (a i)), (1, .int pa), (2, .int pb), (3, .int pc_), (4, .int pd), (5, .int pe), (7, .int l7), (8, .int l8), (9, .int l9), (10, .int l10)] → W p l e (rM 4 89) s m args below meth c H locs 0 0 (mZ g below args s w0 (wX9 g a i o.2) (some (.int o.1))) (F0 m 195 ls [.int t1, .int t0]) := by
  have hx := X.1
  have hb := X.2.1
  intro xs l7 l8 l9 l10 t0 t1 H locs ls h hH hl
  unfold qX9_lots_195 at h
  refine lv_iadd hx hb dX9_lots_195 ?_
  obtain ⟨v1, ev1, h⟩ := ltt_x h
  refine s_i X (lv' := [(6, .int v1), (0, .ref (a i)), (1, .int pa), (2, .int pb), (3, .int pc_), (4, .int pd), (5, .int pe), (7, .int l7), (8, .int l8), (9, .int l9), (10, .int l10)]) hl ev1 dX9_lots_196 (by decide) rfl (fun ls hl => ?_)
  refine lv_iload hx hb dX9_lots_198 (lv_at hl 7 rfl) ?_
  refine lv_iload hx hb dX9_lots_200 (lv_at hl 9 rfl) ?_
  refine lv_iload_n hx hb dX9_lots_202 rfl (lv_at hl 3 rfl) ?_
  refine lv_icmp_ne (tgt := 211) hx hb dX9_lots_203 (by decide) (fun c11 => ?_) (fun c11 => ?_)
  · have h := ie_x h c11
    refine lv_iconst (v := (0 : Int32)) hx hb dX9_lots_211 (by decide) ?_
    exact pX9_lots_212 X K89 xs v1 l8 l7 (0 : Int32) H locs ls h hH (lv_sub hl [1, 2, 3, 4, 5, 6, 0, 8] rfl)
  · have h := it_x h c11
    refine lv_iload hx hb dX9_lots_206 (lv_at hl 10 rfl) ?_
    refine lv_goto (tgt := 212) hx hb dX9_lots_208 (by decide) ?_
    exact pX9_lots_212 X K89 xs v1 l8 l7 l10 H locs ls h hH (lv_sub hl [1, 2, 3, 4, 5, 6, 0, 8] rfl)
set_option maxHeartbeats 4000000 in
set_option maxRecDepth 100000 in
theorem pX9_lots_182 {p : Program} {l : Launch} {e : Env} {s : State} {m : MethodId} {args : Array Value} {below : List Frame} {meth : Method} {c : Code} {g : GG} {w0 : va_W} {a : Nat → Nat} {i : Nat} {pa : Int32} {pb : Int32} {pc_ : Int32} {pd : Int32} {pe : Int32} {o : (Int32 × SX9)} (X : mX g yX9_lots cX9_lots 13 (some .int) p s m args meth c w0)
  {k89 : SX9 → Int32 → Int32 → Int32 → Option (Int32 × SX9)} (K89 : ∀ (xs : SX9) (l6 : Int32) (l7 : Int32) (l8 : Int32) (H : Heap) (locs : List Loc) (ls : Array Slot), k89 xs l6 l7 l8 = some o → mH g s w0 (wX9 g a i xs) H locs → lv_has ls 13 [(0, .ref (a i)), (1, .int pa), (2, .int pb), (3, .int pc_), (4, .int pd), (5, .int pe), (6, .int l6), (7, .int l7), (8, .int l8)] → W p l e (rM 4 89) s m args below meth c H locs 0 0 (mZ g below args s w0 (wX9 g a i o.2) (some (.int o.1))) (F0 m 89 ls [])) :
  ∀ (xs : SX9) (l6 : Int32) (l7 : Int32) (l8 : Int32) (l9 : Int32) (l10 : Int32) (H : Heap) (locs : List Loc) (ls : Array Slot), qX9_lots_182 pa pb pc_ pd pe k89 xs l6 l7 l8 l9 l10 = some o → mH g s w0 (wX9 g a i xs) H locs → lv_has ls 13 [(0, .ref (a i)), (1, .int pa), (2, .int pb), (3, .int pc_), (4, .int pd), (5, .int pe), (6, .int l6), (7, .int l7), (8, .int l8), (9, .int l9), (10, .int l10)] → W p l e (rM 4 89) s m args below meth c H locs 0 0 (mZ g below args s w0 (wX9 g a i o.2) (some (.int o.1))) (F0 m 182 ls []) := by
  have hx := X.1
  have hb := X.2.1
  intro xs l6 l7 l8 l9 l10 H locs ls h hH hl
  unfold qX9_lots_182 at h
  refine lv_iload hx hb dX9_lots_182 (lv_at hl 6 rfl) ?_
  refine lv_iload hx hb dX9_lots_184 (lv_at hl 9 rfl) ?_
  refine lv_iload_n hx hb dX9_lots_186 rfl (lv_at hl 2 rfl) ?_
  refine lv_icmp_ne (tgt := 194) hx hb dX9_lots_187 (by decide) (fun c10 => ?_) (fun c10 => ?_)
  · have h := ie_x h c10
    refine lv_iconst (v := (0 : Int32)) hx hb dX9_lots_194 (by decide) ?_
    exact pX9_lots_195 X K89 xs l7 l8 l9 l10 l6 (0 : Int32) H locs ls h hH (lv_sub hl [0, 1, 2, 3, 4, 5, 7, 8, 9, 10] rfl)
  · have h := it_x h c10
    refine lv_iconst (v := (1 : Int32)) hx hb dX9_lots_190 (by decide) ?_
    refine lv_goto (tgt := 195) hx hb dX9_lots_191 (by decide) ?_
    exact pX9_lots_195 X K89 xs l7 l8 l9 l10 l6 (1 : Int32) H locs ls h hH (lv_sub hl [0, 1, 2, 3, 4, 5, 7, 8, 9, 10] rfl)
set_option maxHeartbeats 4000000 in
set_option maxRecDepth 100000 in
theorem pX9_lots_174 {p : Program} {l : Launch} {e : Env} {s : State} {m : MethodId} {args : Array Value} {below : List Frame} {meth : Method} {c : Code} {g : GG} {w0 : va_W} {a : Nat → Nat} {i : Nat} {pa : Int32} {pb : Int32} {pc_ : Int32} {pd : Int32} {pe : Int32} {o : (Int32 × SX9)} (X : mX g yX9_lots cX9_lots 13 (some .int) p s m args meth c w0)
  {k104 : SX9 → Int32 → Int32 → Int32 → Int32 → Int32 → Int32 → Option (Int32 × SX9)} (K104 : ∀ (xs : SX9) (l6 : Int32) (l7 : Int32) (l8 : Int32) (l9 : Int32) (l10 : Int32) (l11 : Int32) (H : Heap) (locs : List Loc) (ls : Array Slot), k104 xs l6 l7 l8 l9 l10 l11 = some o → mH g s w0 (wX9 g a i xs) H locs → lv_has ls 13 [(0, .ref (a i)), (1, .int pa), (2, .int pb), (3, .int pc_), (4, .int pd), (5, .int pe), (6, .int l6), (7, .int l7), (8, .int l8), (9, .int l9), (10, .int l10), (11, .int l11)] → W p l e (rM 4 89) s m args below meth c H locs 0 0 (mZ g below args s w0 (wX9 g a i o.2) (some (.int o.1))) (F0 m 104 ls [])) :
  ∀ (xs : SX9) (l6 : Int32) (l7 : Int32) (l8 : Int32) (l10 : Int32) (l11 : Int32) (t0 : Int32) (H : Heap) (locs : List Loc) (ls : Array Slot), qX9_lots_174 pa pb pc_ pd pe k104 xs l6 l7 l8 l10 l11 t0 = some o → mH g s w0 (wX9 g a i xs) H locs → lv_has ls 13 [(0, .ref (a i)), (1, .int pa), (2, .int pb), (3, .int pc_), (4, .int pd), (5, .int pe), (6, .int l6), (7, .int l7), (8, .int l8), (10, .int l10), (11, .int l11)] → W p l e (rM 4 89) s m args below meth c H locs 0 0 (mZ g below args s w0 (wX9 g a i o.2) (some (.int o.1))) (F0 m 174 ls [.int t0]) := by
  have hx := X.1
  have hb := X.2.1
  intro xs l6 l7 l8 l10 l11 t0 H locs ls h hH hl
  unfold qX9_lots_174 at h
  refine s_i X (lv' := [(9, .int t0), (0, .ref (a i)), (1, .int pa), (2, .int pb), (3, .int pc_), (4, .int pd), (5, .int pe), (6, .int l6), (7, .int l7), (8, .int l8), (10, .int l10), (11, .int l11)]) hl rfl dX9_lots_174 (by decide) rfl (fun ls hl => ?_)
  obtain ⟨v5, ev5, h⟩ := ltt_x h
  refine s_inc X (k := 11) (lv' := [(11, .int v5), (9, .int t0), (0, .ref (a i)), (1, .int pa), (2, .int pb), (3, .int pc_), (4, .int pd), (5, .int pe), (6, .int l6), (7, .int l7), (8, .int l8), (10, .int l10)]) hl rfl (by rw [ev5]; rfl) dX9_lots_176 (by decide) rfl (fun ls hl => ?_)
  refine lv_goto (tgt := 104) hx hb dX9_lots_179 (by decide) ?_
  exact K104 xs l6 l7 l8 t0 l10 v5 H locs ls h hH (lv_sub hl [2, 3, 4, 5, 6, 7, 8, 9, 10, 1, 11, 0] rfl)
set_option maxHeartbeats 4000000 in
set_option maxRecDepth 100000 in
theorem pX9_lots_104 {p : Program} {l : Launch} {e : Env} {s : State} {m : MethodId} {args : Array Value} {below : List Frame} {meth : Method} {c : Code} {g : GG} {w0 : va_W} {a : Nat → Nat} {i : Nat} {pa : Int32} {pb : Int32} {pc_ : Int32} {pd : Int32} {pe : Int32} {o : (Int32 × SX9)} (X : mX g yX9_lots cX9_lots 13 (some .int) p s m args meth c w0)
  {k89 : SX9 → Int32 → Int32 → Int32 → Option (Int32 × SX9)} (K89 : ∀ (xs : SX9) (l6 : Int32) (l7 : Int32) (l8 : Int32) (H : Heap) (locs : List Loc) (ls : Array Slot), k89 xs l6 l7 l8 = some o → mH g s w0 (wX9 g a i xs) H locs → lv_has ls 13 [(0, .ref (a i)), (1, .int pa), (2, .int pb), (3, .int pc_), (4, .int pd), (5, .int pe), (6, .int l6), (7, .int l7), (8, .int l8)] → W p l e (rM 4 89) s m args below meth c H locs 0 0 (mZ g below args s w0 (wX9 g a i o.2) (some (.int o.1))) (F0 m 89 ls [])) :
  ∀ (fu : Nat) (xs : SX9) (l6 : Int32) (l7 : Int32) (l8 : Int32) (l9 : Int32) (l10 : Int32) (l11 : Int32) (H : Heap) (locs : List Loc) (ls : Array Slot), qX9_lots_104 pa pb pc_ pd pe k89 fu xs l6 l7 l8 l9 l10 l11 = some o → mH g s w0 (wX9 g a i xs) H locs → lv_has ls 13 [(0, .ref (a i)), (1, .int pa), (2, .int pb), (3, .int pc_), (4, .int pd), (5, .int pe), (6, .int l6), (7, .int l7), (8, .int l8), (9, .int l9), (10, .int l10), (11, .int l11)] → W p l e (rM 4 89) s m args below meth c H locs 0 0 (mZ g below args s w0 (wX9 g a i o.2) (some (.int o.1))) (F0 m 104 ls []) := by
  have hx := X.1
  have hb := X.2.1
  intro fu
  induction fu with
  | zero =>
    intro xs l6 l7 l8 l9 l10 l11 H locs ls h
    unfold qX9_lots_104 at h
    cases h
  | succ fu ih =>
    intro xs l6 l7 l8 l9 l10 l11 H locs ls h hH hl
    unfold qX9_lots_104 at h
    refine lv_iload hx hb dX9_lots_104 (lv_at hl 11 rfl) ?_
    refine lv_bipush (v := (60 : Int32)) hx hb dX9_lots_106 (by decide) ?_
    refine lv_icmp_ge (tgt := 182) hx hb dX9_lots_108 (by decide) (fun c9 => ?_) (fun c9 => ?_)
    · have h := it_x h c9
      exact pX9_lots_182 X K89 xs l6 l7 l8 l9 l10 H locs ls h hH (lv_sub hl [0, 1, 2, 3, 4, 5, 6, 7, 8, 9, 10] rfl)
    · have h := ie_x h c9
      refine lv_iload hx hb dX9_lots_111 (lv_at hl 9 rfl) ?_
      refine lv_iload_n hx hb dX9_lots_113 rfl (lv_at hl 2 rfl) ?_
      refine lv_icmp_eq (tgt := 182) hx hb dX9_lots_114 (by decide) (fun c12 => ?_) (fun c12 => ?_)
      · have h := it_x h c12
        exact pX9_lots_182 X K89 xs l6 l7 l8 l9 l10 H locs ls h hH (lv_sub hl [0, 1, 2, 3, 4, 5, 6, 7, 8, 9, 10] rfl)
      · have h := ie_x h c12
        refine lv_aload_n hx hb dX9_lots_117 rfl (lv_at hl 0 rfl) ?_
        refine lv_iload hx hb dX9_lots_118 (lv_at hl 9 rfl) ?_
        obtain ⟨o6, ho6, h⟩ := bd_x h
        refine r_V X hH (ws1 := (wX9 g a i xs)) (As := [.int l9]) (rest := []) (st1 := [.int o6]) (uX9_weightsAt (a := a) (i := i) ho6) kX9_weightsAt mX9_239 iX9_weightsAt vX9_weightsAt zX9 okX9_weightsAt ⟨Nat.le_of_ble_eq_true rfl, Nat.le_of_ble_eq_true rfl⟩ rfl rfl (q0 := 0) rfl rfl (pm_all _) (pm_all _) rfl hl.1 rfl (Nat.le_of_ble_eq_true rfl) ⟨Nat.le_refl 0, Nat.le_refl 0⟩ rfl dX9_lots_120 (fun H locs hH => ?_)
        refine lv_if_le (tgt := 182) hx hb dX9_lots_123 (by decide) (fun c13 => ?_) (fun c13 => ?_)
        · have h := it_x h c13
          exact pX9_lots_182 X K89 xs l6 l7 l8 l9 l10 H locs ls h hH (lv_sub hl [0, 1, 2, 3, 4, 5, 6, 7, 8, 9, 10] rfl)
        · have h := ie_x h c13
          refine lv_aload_n hx hb dX9_lots_126 rfl (lv_at hl 0 rfl) ?_
          refine lv_iload hx hb dX9_lots_127 (lv_at hl 9 rfl) ?_
          obtain ⟨o7, ho7, h⟩ := bd_x h
          refine r_V X hH (ws1 := (wX9 g a i o7.2)) (As := [.int l9]) (rest := []) (st1 := [.int o7.1]) (uX9_wayFrom (a := a) (i := i) ho7) kX9_wayFrom mX9_335 iX9_wayFrom vX9_wayFrom zX9 okX9_wayFrom ⟨Nat.le_of_ble_eq_true rfl, Nat.le_of_ble_eq_true rfl⟩ rfl rfl (q0 := 0) rfl rfl (pm_all _) (pm_all _) rfl hl.1 rfl (Nat.le_of_ble_eq_true rfl) ⟨Nat.le_refl 0, Nat.le_refl 0⟩ rfl dX9_lots_129 (fun H locs hH => ?_)
          refine s_i X (lv' := [(12, .int o7.1), (0, .ref (a i)), (1, .int pa), (2, .int pb), (3, .int pc_), (4, .int pd), (5, .int pe), (6, .int l6), (7, .int l7), (8, .int l8), (9, .int l9), (10, .int l10), (11, .int l11)]) hl rfl dX9_lots_132 (by decide) rfl (fun ls hl => ?_)
          refine lv_iload hx hb dX9_lots_134 (lv_at hl 11 rfl) ?_
          refine lv_aload_n hx hb dX9_lots_136 rfl (lv_at hl 1 rfl) ?_
          refine lv_iload hx hb dX9_lots_137 (lv_at hl 0 rfl) ?_
          obtain ⟨o8, ho8, h⟩ := bd_x h
          refine r_V X hH (ws1 := (wX9 g a i o7.2)) (As := [.int o7.1]) (rest := [.int l10]) (st1 := [.int o8, .int l10]) (uX9_minutes (a := a) (i := i) ho8) kX9_minutes mX9_174 iX9_minutes vX9_minutes zX9 okX9_minutes ⟨Nat.le_of_ble_eq_true rfl, Nat.le_of_ble_eq_true rfl⟩ rfl rfl (q0 := 0) rfl rfl (pm_all _) (pm_all _) rfl hl.1 rfl (Nat.le_of_ble_eq_true rfl) ⟨Nat.le_refl 0, Nat.le_refl 0⟩ rfl dX9_lots_139 (fun H locs hH => ?_)
          refine lv_iadd hx hb dX9_lots_142 ?_
          obtain ⟨v4, ev4, h⟩ := ltt_x h
          refine s_i X (lv' := [(10, .int v4), (12, .int o7.1), (0, .ref (a i)), (1, .int pa), (2, .int pb), (3, .int pc_), (4, .int pd), (5, .int pe), (6, .int l6), (7, .int l7), (8, .int l8), (9, .int l9), (11, .int l11)]) hl ev4 dX9_lots_143 (by decide) rfl (fun ls hl => ?_)
          refine lv_aload_n hx hb dX9_lots_145 rfl (lv_at hl 2 rfl) ?_
          refine f_get X hH 0 rfl rfl 2 (by decide) inX9 fX9_13 rfl dX9_lots_146 ?_
          refine lv_iload hx hb dX9_lots_149 (lv_at hl 1 rfl) ?_
          obtain ⟨j1, ej1, hinj1, h⟩ := ga_x h
          refine a_il X hH 1 rfl hinj1 ej1 dX9_lots_151 ?_
          refine lv_iload hx hb dX9_lots_152 (lv_at hl 11 rfl) ?_
          refine lv_icmp_ne (tgt := 167) hx hb dX9_lots_154 (by decide) (fun c14 => ?_) (fun c14 => ?_)
          · have h := ie_x h c14
            refine lv_aload_n hx hb dX9_lots_167 rfl (lv_at hl 2 rfl) ?_
            refine f_get X hH 0 rfl rfl 2 (by decide) inX9 fX9_13 rfl dX9_lots_168 ?_
            refine lv_iload hx hb dX9_lots_171 (lv_at hl 1 rfl) ?_
            obtain ⟨j2, ej2, hinj2, h⟩ := ga_x h
            refine a_il X hH 1 rfl hinj2 ej2 dX9_lots_173 ?_
            exact pX9_lots_174 X ih o7.2 l6 l7 l8 v4 l11 ((m_first o7.2) j2) H locs ls h hH (lv_sub hl [2, 3, 4, 5, 6, 7, 8, 9, 10, 0, 12] rfl)
          · have h := it_x h c14
            refine lv_aload_n hx hb dX9_lots_157 rfl (lv_at hl 2 rfl) ?_
            refine f_get X hH 0 rfl rfl 3 (by decide) inX9 fX9_17 rfl dX9_lots_158 ?_
            refine lv_iload hx hb dX9_lots_161 (lv_at hl 1 rfl) ?_
            obtain ⟨j3, ej3, hinj3, h⟩ := ga_x h
            refine a_il X hH 2 rfl hinj3 ej3 dX9_lots_163 ?_
            refine lv_goto (tgt := 174) hx hb dX9_lots_164 (by decide) ?_
            exact pX9_lots_174 X ih o7.2 l6 l7 l8 v4 l11 ((m_second o7.2) j3) H locs ls h hH (lv_sub hl [2, 3, 4, 5, 6, 7, 8, 9, 10, 0, 12] rfl)
set_option maxHeartbeats 4000000 in
set_option maxRecDepth 100000 in
theorem pX9_lots_89 {p : Program} {l : Launch} {e : Env} {s : State} {m : MethodId} {args : Array Value} {below : List Frame} {meth : Method} {c : Code} {g : GG} {w0 : va_W} {a : Nat → Nat} {i : Nat} {pa : Int32} {pb : Int32} {pc_ : Int32} {pd : Int32} {pe : Int32} {o : (Int32 × SX9)} (X : mX g yX9_lots cX9_lots 13 (some .int) p s m args meth c w0) :
  ∀ (fu : Nat) (xs : SX9) (l6 : Int32) (l7 : Int32) (l8 : Int32) (H : Heap) (locs : List Loc) (ls : Array Slot), qX9_lots_89 pa pb pc_ pd pe fu xs l6 l7 l8 = some o → mH g s w0 (wX9 g a i xs) H locs → lv_has ls 13 [(0, .ref (a i)), (1, .int pa), (2, .int pb), (3, .int pc_), (4, .int pd), (5, .int pe), (6, .int l6), (7, .int l7), (8, .int l8)] → W p l e (rM 4 89) s m args below meth c H locs 0 0 (mZ g below args s w0 (wX9 g a i o.2) (some (.int o.1))) (F0 m 89 ls []) := by
  have hx := X.1
  have hb := X.2.1
  intro fu
  induction fu with
  | zero =>
    intro xs l6 l7 l8 H locs ls h
    unfold qX9_lots_89 at h
    cases h
  | succ fu ih =>
    intro xs l6 l7 l8 H locs ls h hH hl
    unfold qX9_lots_89 at h
    refine lv_iload hx hb dX9_lots_89 (lv_at hl 8 rfl) ?_
    refine lv_iload_n hx hb dX9_lots_91 rfl (lv_at hl 3 rfl) ?_
    refine lv_icmp_ge (tgt := 221) hx hb dX9_lots_92 (by decide) (fun c7 => ?_) (fun c7 => ?_)
    · have h := it_x h c7
      refine lv_iload hx hb dX9_lots_221 (lv_at hl 5 rfl) ?_
      refine lv_if_ne (tgt := 231) hx hb dX9_lots_223 (by decide) (fun c8 => ?_) (fun c8 => ?_)
      · have h := ie_x h c8
        refine lv_iload hx hb dX9_lots_231 (lv_at hl 7 rfl) ?_
        have h := Option.some.inj h
        subst h
        exact e_i X hH dX9_lots_233
      · have h := it_x h c8
        refine lv_iload hx hb dX9_lots_226 (lv_at hl 6 rfl) ?_
        refine lv_goto (tgt := 233) hx hb dX9_lots_228 (by decide) ?_
        have h := Option.some.inj h
        subst h
        exact e_i X hH dX9_lots_233
    · have h := ie_x h c7
      refine lv_iload_n hx hb dX9_lots_95 rfl (lv_at hl 1 rfl) ?_
      refine s_i X (lv' := [(9, .int pa), (0, .ref (a i)), (1, .int pa), (2, .int pb), (3, .int pc_), (4, .int pd), (5, .int pe), (6, .int l6), (7, .int l7), (8, .int l8)]) hl rfl dX9_lots_96 (by decide) rfl (fun ls hl => ?_)
      refine lv_iconst (v := (0 : Int32)) hx hb dX9_lots_98 (by decide) ?_
      refine s_i X (lv' := [(10, .int (0 : Int32)), (9, .int pa), (0, .ref (a i)), (1, .int pa), (2, .int pb), (3, .int pc_), (4, .int pd), (5, .int pe), (6, .int l6), (7, .int l7), (8, .int l8)]) hl rfl dX9_lots_99 (by decide) rfl (fun ls hl => ?_)
      refine lv_iconst (v := (0 : Int32)) hx hb dX9_lots_101 (by decide) ?_
      refine s_i X (lv' := [(11, .int (0 : Int32)), (10, .int (0 : Int32)), (9, .int pa), (0, .ref (a i)), (1, .int pa), (2, .int pb), (3, .int pc_), (4, .int pd), (5, .int pe), (6, .int l6), (7, .int l7), (8, .int l8)]) hl rfl dX9_lots_102 (by decide) rfl (fun ls hl => ?_)
      exact pX9_lots_104 X ih FU xs l6 l7 l8 pa (0 : Int32) (0 : Int32) H locs ls h hH (lv_sub hl [3, 4, 5, 6, 7, 8, 9, 10, 11, 2, 1, 0] rfl)
set_option maxHeartbeats 4000000 in
set_option maxRecDepth 100000 in
theorem uX9_lots {l : Launch} {g : GG} {a : Nat → Nat} {i : Nat} {xs : SX9} {pa : Int32} {pb : Int32} {pc_ : Int32} {pd : Int32} {pe : Int32} {o : (Int32 × SX9)} (h : fX9_lots xs pa pb pc_ pd pe = some o) : mC l g yX9_lots cX9_lots 13 (some .int) (rM 4 89) [.ref (a i), .int pa, .int pb, .int pc_, .int pd, .int pe] (wX9 g a i xs) (wX9 g a i o.2) (some (.int o.1)) := by
  refine mC.ofW (by decide) (fun p e s m below meth c X hH ls _ hl => ?_) (Nat.le_of_ble_eq_true rfl)
  have hx := X.1
  have hb := X.2.1
  have hl : lv_has ls 13 [(0, .ref (a i)), (1, .int pa), (2, .int pb), (3, .int pc_), (4, .int pd), (5, .int pe)] := hl
  unfold fX9_lots at h
  suffices HH : ∀ (H : Heap) (locs : List Loc), mH g s (wX9 g a i xs) (wX9 g a i xs) H locs → W p l e (rM 4 89) s m _ below meth c H locs 0 0 (mZ g below _ s (wX9 g a i xs) (wX9 g a i o.2) (some (.int o.1))) (F0 m 0 ls []) from HH _ _ hH
  clear hH
  intro H locs hH
  refine lv_aload_n hx hb dX9_lots_0 rfl (lv_at hl 0 rfl) ?_
  refine lv_iload_n hx hb dX9_lots_1 rfl (lv_at hl 1 rfl) ?_
  obtain ⟨o1, ho1, h⟩ := bd_x h
  refine r_V X hH (ws1 := (wX9 g a i xs)) (As := [.int pa]) (rest := []) (st1 := [.int o1]) (uX9_isPoint (a := a) (i := i) ho1) kX9_isPoint mX9_141 iX9_isPoint vX9_isPoint zX9 okX9_isPoint ⟨Nat.le_of_ble_eq_true rfl, Nat.le_of_ble_eq_true rfl⟩ rfl rfl (q0 := 0) rfl rfl (pm_all _) (pm_all _) rfl hl.1 rfl (Nat.le_of_ble_eq_true rfl) ⟨Nat.le_refl 0, Nat.le_refl 0⟩ rfl dX9_lots_2 (fun H locs hH => ?_)
  refine lv_if_eq (tgt := 21) hx hb dX9_lots_5 (by decide) (fun c1 => ?_) (fun c1 => ?_)
  · have h := it_x h c1
    exact pX9_lots_21 X  xs H locs ls h hH (lv_sub hl [0, 1, 2, 3, 4, 5] rfl)
  · have h := ie_x h c1
    refine lv_aload_n hx hb dX9_lots_8 rfl (lv_at hl 0 rfl) ?_
    refine lv_iload_n hx hb dX9_lots_9 rfl (lv_at hl 2 rfl) ?_
    obtain ⟨o3, ho3, h⟩ := bd_x h
    refine r_V X hH (ws1 := (wX9 g a i xs)) (As := [.int pb]) (rest := []) (st1 := [.int o3]) (uX9_isPoint (a := a) (i := i) ho3) kX9_isPoint mX9_141 iX9_isPoint vX9_isPoint zX9 okX9_isPoint ⟨Nat.le_of_ble_eq_true rfl, Nat.le_of_ble_eq_true rfl⟩ rfl rfl (q0 := 0) rfl rfl (pm_all _) (pm_all _) rfl hl.1 rfl (Nat.le_of_ble_eq_true rfl) ⟨Nat.le_refl 0, Nat.le_refl 0⟩ rfl dX9_lots_10 (fun H locs hH => ?_)
    refine lv_if_eq (tgt := 21) hx hb dX9_lots_13 (by decide) (fun c2 => ?_) (fun c2 => ?_)
    · have h := it_x h c2
      exact pX9_lots_21 X  xs H locs ls h hH (lv_sub hl [0, 1, 2, 3, 4, 5] rfl)
    · have h := ie_x h c2
      refine lv_iload_n hx hb dX9_lots_16 rfl (lv_at hl 1 rfl) ?_
      refine lv_iload_n hx hb dX9_lots_17 rfl (lv_at hl 2 rfl) ?_
      refine lv_icmp_ne (tgt := 27) hx hb dX9_lots_18 (by decide) (fun c3 => ?_) (fun c3 => ?_)
      · have h := ie_x h c3
        refine lv_iload_n hx hb dX9_lots_27 rfl (lv_at hl 3 rfl) ?_
        refine lv_iconst (v := (1 : Int32)) hx hb dX9_lots_28 (by decide) ?_
        refine lv_icmp_ge (tgt := 39) hx hb dX9_lots_29 (by decide) (fun c4 => ?_) (fun c4 => ?_)
        · have h := it_x h c4
          refine lv_iload_n hx hb dX9_lots_39 rfl (lv_at hl 3 rfl) ?_
          refine lv_bipush (v := (30 : Int32)) hx hb dX9_lots_40 (by decide) ?_
          refine lv_icmp_le (tgt := 52) hx hb dX9_lots_42 (by decide) (fun c5 => ?_) (fun c5 => ?_)
          · have h := it_x h c5
            refine lv_iload hx hb dX9_lots_52 (lv_at hl 5 rfl) ?_
            refine lv_i2l hx hb dX9_lots_54 rfl ?_
            refine lv_lconst (v := (0 : Int64)) hx hb dX9_lots_55 (by decide) ?_
            refine lv_lconst (v := (1 : Int64)) hx hb dX9_lots_56 (by decide) ?_
            obtain ⟨o4, ho4, h⟩ := bd_x h
            refine r_S X hH (ws1 := (wX9 g a i xs)) (As := [.long (pe.toInt64), .long (0 : Int64), .long (1 : Int64)]) (rest := []) (st1 := [.int o4]) (uX9_isIn  ho4) kX9_isIn mX9_116 sX9_isIn zX9 okX9_isIn ⟨Nat.le_of_ble_eq_true rfl, Nat.le_of_ble_eq_true rfl⟩ rfl rfl (pm_none _) (pm_none _) rfl hl.1 rfl (Nat.le_of_ble_eq_true rfl) ⟨Nat.le_refl 0, Nat.le_refl 0⟩ rfl dX9_lots_57 (fun H locs hH => ?_)
            refine lv_if_ne (tgt := 70) hx hb dX9_lots_60 (by decide) (fun c6 => ?_) (fun c6 => ?_)
            · have h := ie_x h c6
              refine lv_aload_n hx hb dX9_lots_70 rfl (lv_at hl 0 rfl) ?_
              obtain ⟨o5, ho5, h⟩ := bd_x h
              refine r_V X hH (ws1 := (wX9 g a i o5)) (As := []) (rest := []) (st1 := []) (uX9_allThere (a := a) (i := i) ho5) kX9_allThere mX9_230 iX9_allThere vX9_allThere zX9 okX9_allThere ⟨Nat.le_of_ble_eq_true rfl, Nat.le_of_ble_eq_true rfl⟩ rfl rfl (q0 := 0) rfl rfl (pm_all _) (pm_all _) rfl hl.1 rfl (Nat.le_of_ble_eq_true rfl) ⟨Nat.le_refl 0, Nat.le_refl 0⟩ rfl dX9_lots_71 (fun H locs hH => ?_)
              refine lv_aload_n hx hb dX9_lots_74 rfl (lv_at hl 0 rfl) ?_
              refine lv_iload hx hb dX9_lots_75 (lv_at hl 4 rfl) ?_
              obtain ⟨xs1, exs1, h⟩ := ltt_x h
              refine f_put X hH (ws1 := (wX9 g a i xs1)) 0 rfl rfl 32 (by decide) inX9 tyX9 tyX9_ok nmX9 fX9_326 rfl rfl rfl (Nat.le_of_ble_eq_true rfl) (by rw [exs1]; rfl) dX9_lots_77 (fun H locs hH => ?_)
              refine lv_iconst (v := (0 : Int32)) hx hb dX9_lots_80 (by decide) ?_
              refine s_i X (lv' := [(6, .int (0 : Int32)), (0, .ref (a i)), (1, .int pa), (2, .int pb), (3, .int pc_), (4, .int pd), (5, .int pe)]) hl rfl dX9_lots_81 (by decide) rfl (fun ls hl => ?_)
              refine lv_iconst (v := (0 : Int32)) hx hb dX9_lots_83 (by decide) ?_
              refine s_i X (lv' := [(7, .int (0 : Int32)), (6, .int (0 : Int32)), (0, .ref (a i)), (1, .int pa), (2, .int pb), (3, .int pc_), (4, .int pd), (5, .int pe)]) hl rfl dX9_lots_84 (by decide) rfl (fun ls hl => ?_)
              refine lv_iconst (v := (0 : Int32)) hx hb dX9_lots_86 (by decide) ?_
              refine s_i X (lv' := [(8, .int (0 : Int32)), (7, .int (0 : Int32)), (6, .int (0 : Int32)), (0, .ref (a i)), (1, .int pa), (2, .int pb), (3, .int pc_), (4, .int pd), (5, .int pe)]) hl rfl dX9_lots_87 (by decide) rfl (fun ls hl => ?_)
              exact pX9_lots_89 X FU xs1 (0 : Int32) (0 : Int32) (0 : Int32) H locs ls h hH (lv_sub hl [3, 4, 5, 6, 7, 8, 2, 1, 0] rfl)
            · have h := it_x h c6
              refine lv_aload_n hx hb dX9_lots_63 rfl (lv_at hl 0 rfl) ?_
              refine lv_bipush (v := (-2 : Int32)) hx hb dX9_lots_64 (by decide) ?_
              obtain ⟨o9, ho9, h⟩ := bd_x h
              refine r_V X hH (ws1 := (wX9 g a i o9.2)) (As := [.int (-2 : Int32)]) (rest := []) (st1 := [.int o9.1]) (uX9_no (a := a) (i := i) ho9) kX9_no mX9_125 iX9_no vX9_no zX9 okX9_no ⟨Nat.le_of_ble_eq_true rfl, Nat.le_of_ble_eq_true rfl⟩ rfl rfl (q0 := 0) rfl rfl (pm_all _) (pm_all _) rfl hl.1 rfl (Nat.le_of_ble_eq_true rfl) ⟨Nat.le_refl 0, Nat.le_refl 0⟩ rfl dX9_lots_66 (fun H locs hH => ?_)
              have h := Option.some.inj h
              subst h
              exact e_i X hH dX9_lots_69
          · have h := ie_x h c5
            refine lv_aload_n hx hb dX9_lots_45 rfl (lv_at hl 0 rfl) ?_
            refine lv_bipush (v := (-6 : Int32)) hx hb dX9_lots_46 (by decide) ?_
            obtain ⟨o10, ho10, h⟩ := bd_x h
            refine r_V X hH (ws1 := (wX9 g a i o10.2)) (As := [.int (-6 : Int32)]) (rest := []) (st1 := [.int o10.1]) (uX9_no (a := a) (i := i) ho10) kX9_no mX9_125 iX9_no vX9_no zX9 okX9_no ⟨Nat.le_of_ble_eq_true rfl, Nat.le_of_ble_eq_true rfl⟩ rfl rfl (q0 := 0) rfl rfl (pm_all _) (pm_all _) rfl hl.1 rfl (Nat.le_of_ble_eq_true rfl) ⟨Nat.le_refl 0, Nat.le_refl 0⟩ rfl dX9_lots_48 (fun H locs hH => ?_)
            have h := Option.some.inj h
            subst h
            exact e_i X hH dX9_lots_51
        · have h := ie_x h c4
          refine lv_aload_n hx hb dX9_lots_32 rfl (lv_at hl 0 rfl) ?_
          refine lv_bipush (v := (-4 : Int32)) hx hb dX9_lots_33 (by decide) ?_
          obtain ⟨o11, ho11, h⟩ := bd_x h
          refine r_V X hH (ws1 := (wX9 g a i o11.2)) (As := [.int (-4 : Int32)]) (rest := []) (st1 := [.int o11.1]) (uX9_no (a := a) (i := i) ho11) kX9_no mX9_125 iX9_no vX9_no zX9 okX9_no ⟨Nat.le_of_ble_eq_true rfl, Nat.le_of_ble_eq_true rfl⟩ rfl rfl (q0 := 0) rfl rfl (pm_all _) (pm_all _) rfl hl.1 rfl (Nat.le_of_ble_eq_true rfl) ⟨Nat.le_refl 0, Nat.le_refl 0⟩ rfl dX9_lots_35 (fun H locs hH => ?_)
          have h := Option.some.inj h
          subst h
          exact e_i X hH dX9_lots_38
      · have h := it_x h c3
        exact pX9_lots_21 X  xs H locs ls h hH (lv_sub hl [0, 1, 2, 3, 4, 5] rfl)
