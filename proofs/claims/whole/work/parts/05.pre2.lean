/-! PRELUDE 2: texts, chars, bytes, the swap -/
def gk {α : Type} (k : Nat) (x : Option α) : Option α := if k < 12 then x else none
def gch {α : Type} (y : Int32) (x : Option α) : Option α := if (y.toUInt32 % 65536).toInt32 = y then x else none
theorem gk_x {α : Type} {k : Nat} {x : Option α} {o : α} (h : gk k x = some o) : k < 12 ∧ x = some o := by
  unfold gk at h
  by_cases hc : k < 12
  · rw [if_pos hc] at h; exact ⟨hc, h⟩
  · rw [if_neg hc] at h; cases h
theorem gch_x {α : Type} {y : Int32} {x : Option α} {o : α} (h : gch y x = some o) : (y.toUInt32 % 65536).toInt32 = y ∧ x = some o := by
  unfold gch at h
  by_cases hc : (y.toUInt32 % 65536).toInt32 = y
  · rw [if_pos hc] at h; exact ⟨hc, h⟩
  · rw [if_neg hc] at h; cases h
theorem nar_c {v : Int32} (h : (v.toUInt32 % 65536).toInt32 = v) : narrow .char (.int v) = .int v := by
  have := pk_nc v
  rwa [h] at this
theorem rf_in {n j x : Nat} (h : j < n) : va_rf (if j < n then some x else none) = .ref x := by rw [if_pos h]; rfl
theorem mH.perm {g : GG} {s : State} {w0 ws ws' : va_W} {H : Heap} {locs : List Loc} (hH : mH g s w0 ws H locs) (hp : ws.Perm ws') : mH g s w0 ws' H locs :=
  ⟨va_P.pm hp hH.1, va_D.pm hp hH.2.1, hH.2.2⟩
theorem pm_all (w : va_W) : w.Perm (w ++ []) := List.Perm.of_eq (List.append_nil w).symm
theorem pm_none (w : va_W) : w.Perm ([] ++ w) := List.Perm.refl _
theorem pm_0 (b r : va_W) : (b ++ r).Perm (b ++ r) := List.Perm.refl _
theorem pm_s {b x k r : va_W} (h : x.Perm (k ++ r)) : (b ++ x).Perm (k ++ (b ++ r)) := (List.Perm.append_left b h).trans (by
  rw [← List.append_assoc, ← List.append_assoc]
  exact List.Perm.append_right r List.perm_append_comm)
theorem pm_in {w k r t ws : va_W} (h : ws.Perm (w ++ t)) (hi : w.Perm (k ++ r)) : ws.Perm (k ++ (r ++ t)) := h.trans ((List.Perm.append_right t hi).trans (List.Perm.of_eq (List.append_assoc k r t)))
theorem pm_2 {ws k t k2 t2 : va_W} (h : ws.Perm (k ++ t)) (h2 : t.Perm (k2 ++ t2)) : ws.Perm ((k ++ k2) ++ t2) := h.trans ((List.Perm.append_left k h2).trans (List.Perm.of_eq (List.append_assoc k k2 t2).symm))
section CALLS2
variable {p : Program} {l : Launch} {e : Env} {R : Room} {s : State} {m : MethodId} {args : Array Value} {below : List Frame} {meth : Method} {c : Code} {H : Heap} {locs : List Loc} {cells slots : Nat} {Q : State → Prop}
variable {g : GG} {y y' : MethodName} {cc c' : ByteArray} {n n' nA index pc : Nat} {ret ret' : Option FieldType} {rm' : Room} {w0 ws ws1 wc wc' wr : va_W} {b : Nat} {As rest st0 st1 : List Value} {r' : Option Value} {ls : Array Slot}
theorem e_s {nm : String} (X : mX g y cc n (some (.object nm)) p s m args meth c w0) {w' : va_W} (hH : mH g s w0 w' H locs) {v : Nat} (hdg : decode cc pc = .ok (.areturn, 1)) : W p l e R s m args below meth c H locs 0 0 (mZ g below args s w0 w' (some (.ref v))) (F0 m pc ls [.ref v]) :=
  W.aret X.1 X.2.1 X.2.2.1 (Or.inl ⟨nm, rfl⟩) (Or.inr ⟨v, rfl⟩) (fun t ht hW => ⟨rfl, by rw [ht]; exact hH.1, hH.2.1, hH.2.2.F ht⟩) hH.2.2.2.2 hdg X.2.2.2.2.2.2.1
theorem e_c (X : mX g y cc n (some .char) p s m args meth c w0) {w' : va_W} (hH : mH g s w0 w' H locs) {v : Int32} (hv : (v.toUInt32 % 65536).toInt32 = v) (hdg : decode cc pc = .ok (.ireturn, 1)) : W p l e R s m args below meth c H locs 0 0 (mZ g below args s w0 w' (some (.int v))) (F0 m pc ls [.int v]) :=
  W.zret X.1 X.2.1 X.2.2.1 (nar_c hv) (fun t ht hW => ⟨rfl, by rw [ht]; exact hH.1, hH.2.1, hH.2.2.F ht⟩) hH.2.2.2.2 hdg X.2.2.2.2.2.2.1
theorem e_y (X : mX g y cc n (some .byte) p s m args meth c w0) {w' : va_W} (hH : mH g s w0 w' H locs) {v : Int32} (hv : narrow .byte (.int v) = .int v) (hdg : decode cc pc = .ok (.ireturn, 1)) : W p l e R s m args below meth c H locs 0 0 (mZ g below args s w0 w' (some (.int v))) (F0 m pc ls [.int v]) :=
  W.zret X.1 X.2.1 X.2.2.1 hv (fun t ht hW => ⟨rfl, by rw [ht]; exact hH.1, hH.2.1, hH.2.2.F ht⟩) hH.2.2.2.2 hdg X.2.2.2.2.2.2.1
/-- a text's fields and bytes -/
theorem t_coder (X : mX g y cc n ret p s m args meth c w0) (hH : mH g s w0 ws H locs) {k : Nat} (hk : k < 12) (hl : Cond.fieldLink y.cls index "java/lang/String" "coder" "B" ∈ wsG) (hdg : decode cc pc = .ok (.getfield index, 3))
    (kk : W p l e R s m args below meth c H locs cells slots Q (F0 m (pc + 3) ls (.int 0 :: rest))) : W p l e R s m args below meth c H locs cells slots Q (F0 m pc ls (.ref (g.2.2.1 (1 + k)) :: rest)) :=
  vk_getf X.1 X.2.1 ((X.2.2.2.2.2.2.2.1.2.2.2.2.2.2.2.1 k hk).2.1.narrow X.2.2.2.2.2.2.2.2) hH.2.2 X.2.2.2.2.1 (X.2.2.2.2.2.1 _ hl) (fun _ h => h) hdg kk
theorem t_value (X : mX g y cc n ret p s m args meth c w0) (hH : mH g s w0 ws H locs) {k : Nat} (hk : k < 12) (hl : Cond.fieldLink y.cls index "java/lang/String" "value" "[B" ∈ wsG) (hdg : decode cc pc = .ok (.getfield index, 3))
    (kk : W p l e R s m args below meth c H locs cells slots Q (F0 m (pc + 3) ls (.ref (g.2.2.1 (13 + k)) :: rest))) : W p l e R s m args below meth c H locs cells slots Q (F0 m pc ls (.ref (g.2.2.1 (1 + k)) :: rest)) :=
  vk_getf X.1 X.2.1 ((X.2.2.2.2.2.2.2.1.2.2.2.2.2.2.2.1 k hk).2.2.1.narrow X.2.2.2.2.2.2.2.2) hH.2.2 X.2.2.2.2.1 (X.2.2.2.2.2.1 _ hl) (fun _ h => h) hdg kk
theorem t_len (X : mX g y cc n ret p s m args meth c w0) (hH : mH g s w0 ws H locs) {k : Nat} (hk : k < 12) (hdg : decode cc pc = .ok (.arraylength, 1))
    (kk : W p l e R s m args below meth c H locs cells slots Q (F0 m (pc + 1) ls (.int (Int32.ofNat (gtl.getD k 0)) :: rest))) : W p l e R s m args below meth c H locs cells slots Q (F0 m pc ls (.ref (g.2.2.1 (13 + k)) :: rest)) :=
  va_tlen X.1 X.2.1 ((X.2.2.2.2.2.2.2.1.2.2.2.2.2.2.2.1 k hk).2.2.2.narrow X.2.2.2.2.2.2.2.2) hH.2.2 rfl hdg kk
theorem t_at (X : mX g y cc n ret p s m args meth c w0) (hH : mH g s w0 ws H locs) {k : Nat} (hk : k < 12) {i : Int32} (hin : vp_in i (gtl.getD k 0)) {j : Nat} (hj : j = i.toNatClampNeg) (hdg : decode cc pc = .ok (.baload, 1))
    (kk : W p l e R s m args below meth c H locs cells slots Q (F0 m (pc + 1) ls (.int ((gtb.getD k []).getD j 0) :: rest))) : W p l e R s m args below meth c H locs cells slots Q (F0 m pc ls (.int i :: .ref (g.2.2.1 (13 + k)) :: rest)) := by
  subst hj
  exact va_tb X.1 X.2.1 ((X.2.2.2.2.2.2.2.1.2.2.2.2.2.2.2.1 k hk).2.2.2.narrow X.2.2.2.2.2.2.2.2) hH.2.2 hin rfl hdg kk
/-- a call of a method of a text -/
theorem r_VS (X : mX g y cc n ret p s m args meth c w0) (hH : mH g s w0 ws H locs) {k : Nat} (hkk : k < 12) (hM : mC l g y' c' n' ret' rm' (.ref (g.2.2.1 (1 + k)) :: As) wc wc' r')
    (hk : Cond.code y' c' n' ret' ∈ wsG) (hl : Cond.methodLink y.cls index y' ∈ wsG) (hi : Cond.instanceMethod y' ∈ wsG) (hv : Cond.selects "java/lang/String" y' y' ∈ wsG) (hz : Cond.initialized y'.cls ∈ wsG) (hd : okM y' nA) (hR : rm'.frames + 1 ≤ R.frames ∧ 8 + (n' + 11) + rm'.locals ≤ R.locals) (hrc : rm'.cells = 0) (hrs : rm'.slots = 0)
    (hp : ws.Perm (wc ++ wr)) (hp1 : ws1.Perm (wc' ++ wr))
    (hAs : As.length = nA) (hsz : ls.size = n) (hst : st0 = As.reverse ++ .ref (g.2.2.1 (1 + k)) :: rest) (hroom : (rest.map fun v => v.category).sum ≤ 8) (hf : cells + 0 ≤ R.cells ∧ slots + 0 ≤ R.slots) (hst1 : r'.toList ++ rest = st1) (hdg : decode cc pc = .ok (.invokevirtual index, 3))
    (kk : ∀ (H1 : Heap) (locs1 : List Loc), mH g s w0 ws1 H1 locs1 → W p l e R s m args below meth c H1 locs1 cells slots Q (F0 m (pc + 3) ls st1)) : W p l e R s m args below meth c H locs cells slots Q (F0 m pc ls st0) := by
  obtain ⟨hx, hb, hr, hml, hown, hts, hlk, hE, hA⟩ := id X
  exact r_go hH hp hp1 (va_runV (As := As) (rest := rest) ⟨hx, hb, hml, hown, hts⟩ (hM H.size) ⟨callB_of nA hts (gG hk) rfl hrc hrs (hts _ hz) (hts _ hl) hd hR, hts _ hi, hts _ hv⟩ ⟨mBlind g _ wc H.size, vk_recv (hE.2.2.2.2.2.2.2.narrow hA) hkk hH.2.2, fun U hU hW => ⟨rfl, mPreOf X (mLo X) hH hp hU hW⟩⟩ rfl hAs hsz hst (lv_room hroom) hdg hf) hst1 kk
theorem dn_link : Cond.methodLink RJxe99ae 134 ⟨"java/lang/Double", "doubleToRawLongBits", "(D)J"⟩ ∈ wsG := gm6 132 rfl rfl
theorem dn_nat : Cond.native ⟨"java/lang/Double", "doubleToRawLongBits", "(D)J"⟩ ∈ wsG := gm6 134 rfl rfl
theorem dn_stat : Cond.static ⟨"java/lang/Double", "doubleToRawLongBits", "(D)J"⟩ ∈ wsG := gm6 133 rfl rfl
end CALLS2
