/-! CONSTRUCTORS: rows -/
theorem vin {i : Int32} {n : Nat} (h : ¬ (i < 0 ∨ n ≤ i.toNatClampNeg)) : vp_in i n := h
theorem ao_vm {t : FieldType} {A A' : Array Value} {u U : State} (hv : U.vm = u.vm) (h : (Cond.arrayOver t).before A u = true) : (Cond.arrayOver t).before A' U = true := by
  simp only [Cond.before, Cond.holds, Cond.value] at h ⊢
  rw [hv]
  exact h
def gAO (U : State) : Prop := va_Nw (.arrayOver (.array .long)) U ∧ va_Nw (.arrayOver (.array .int)) U
theorem gAO.same {u U : State} (hv : U.vm = u.vm) (h : gAO u) : gAO U := ⟨ao_vm hv h.1, ao_vm hv h.2⟩
theorem gAO.warm {s U : State} (hW : s.WarmedH U.vm) (h : gAO s) : gAO U :=
  ⟨ao_vm (A := #[]) (u := s.setVm U.vm) rfl (Cond.overAtom_setVm (args := #[]) hW.alike _ rfl h.1), ao_vm (A := #[]) (u := s.setVm U.vm) rfl (Cond.overAtom_setVm (args := #[]) hW.alike _ rfl h.2)⟩
theorem ob_inst : Cond.instanceMethod objectInit ∈ wsG := gm1 25 rfl rfl
theorem ob_code : Cond.code objectInit ⟨#[0xb1]⟩ 1 none ∈ wsG := gm1 26 rfl rfl
/-- a constructor's contract: cells and slots made, the world behind it over some addresses -/
def kPre (g : GG) (w : va_W) (sz : Nat) (U : State) : Prop := mPre g w sz U ∧ gAO U
def kQ (g : GG) (w : va_W) (w' : (Nat → Nat) → va_W) (sz h0 : Nat) : Array Value → State → Outcome → State → Prop := fun _ st oc t => oc = .returned none ∧ (∃ a : Nat → Nat, a 0 = h0 ∧ va_P g.1 vwCl (w' a) t.heap ∧ va_D (va_A w sz) (w' a)) ∧ va_F (va_A w sz) st t
def kC (l : Launch) (g : GG) (y : MethodName) (c : ByteArray) (n : Nat) (rm : Room) (h0 : Nat) (w : va_W) (w' : (Nat → Nat) → va_W) : Prop :=
  ∀ sz : Nat, Met l y (.code y c n none :: wsG) rm (va_Pc [.ref h0] (kPre g w sz)) (kQ g w w' sz h0) rm.cells rm.slots (va_A w sz)
abbrev kZ (g : GG) (below : List Frame) (args : Array Value) (s : State) (w0 : va_W) (w' : (Nat → Nat) → va_W) (h0 mc ms : Nat) : State → Prop := MQ below (kQ g w0 w' s.heap.size h0) args s mc ms (va_A w0 s.heap.size)
theorem kC.ofW {l : Launch} {g : GG} {y : MethodName} {cc : ByteArray} {n : Nat} {rm : Room} {h0 : Nat} {w : va_W} {w' : (Nat → Nat) → va_W} (hy : plainName y.cls = true) (hyn : y.name = "<init>")
    (body : ∀ (p : Program) (e : Env) (s : State) (m : MethodId) (below : List Frame) (meth : Method) (c : Code), mX g y cc n none p s m #[.ref h0] meth c w → gAO s → meth.name = "<init>" → mH g s w w s.heap [] → ∀ ls : Array Slot, lv_has ls n [(0, .ref h0)] →
      W p l e rm s m #[.ref h0] below meth c s.heap [] 0 0 (kZ g below #[.ref h0] s w w' h0 rm.cells rm.slots) (F0 m 0 ls [])) (hn : 1 ≤ n) : kC l g y cc n rm h0 w w' := by
  intro sz
  refine Met.ofW (cc := cc) (maxL := n) (ret := none) hy rfl ?_
  intro p e s m args below meth c s₁ B hml hv
  obtain ⟨rfl, ⟨hsz, hlo, hP, hD0, hE⟩, hAO⟩ := hv
  subst hsz
  have hts := atoms_spec (ws := .code y cc n none :: wsG) B.pre
  have hX : mX g y cc n none p s m #[.ref h0] meth c w := ⟨B.exec, B.bytes, B.returns, hml, findClass_of_methodNamed B.named, fun w h => hts w (List.mem_cons_of_mem _ h), B.notSynchronized, hE, fun q hq => by
    rcases hq with ⟨k, e, h⟩ | h
    · exact hD0.2 k (q, e) h
    · exact Nat.le_trans hlo h⟩
  have hl := lv_entry [.ref h0] (n := n) hn
  have hin : meth.name = "<init>" := ((name_of_methodNamed B.named B.method).1).trans hyn
  rw [lg_entry_eq]
  exact body p e s m below meth c hX hAO hin ⟨hP, hD0.self (sz := s.heap.size), va_S.rf⟩ _ hl
section KROWS
variable {p : Program} {l : Launch} {e : Env} {R : Room} {s : State} {m : MethodId} {args : Array Value} {below : List Frame} {meth : Method} {c : Code} {H : Heap} {locs : List Loc} {cells slots : Nat} {Q : State → Prop}
variable {g : GG} {y y' : MethodName} {cc c' : ByteArray} {n n' nA index pc : Nat} {ret ret' : Option FieldType} {rm' : Room} {w0 ws ws1 wc wr : va_W} {b h0 : Nat} {As rest st0 st1 : List Value} {ls : Array Slot}
theorem k_end (X : mX g y cc n none p s m args meth c w0) {w' : (Nat → Nat) → va_W} (a : Nat → Nat) (ha : a 0 = h0) (hH : mH g s w0 (w' a) H locs) (hdg : decode cc pc = .ok (.return_, 1)) : W p l e R s m args below meth c H locs cells slots (kZ g below args s w0 w' h0 cells slots) (F0 m pc ls []) :=
  W.vret X.1 X.2.1 X.2.2.1 (fun t ht hW => ⟨rfl, ⟨a, ha, by rw [ht]; exact hH.1, hH.2.1⟩, hH.2.2.F ht⟩) hH.2.2.2.2 hdg X.2.2.2.2.2.2.1
theorem k_obj (X : mX g y cc n none p s m args meth c w0) (hl : ls.size = n) {idx a : Nat} (hlink : Cond.methodLink y.cls idx objectInit ∈ wsG) (hd : decode cc pc = .ok (.invokespecial idx, 3)) (hframes : 1 ≤ R.frames) (hlocals : (rest.map fun v => v.category).sum + 12 ≤ R.locals)
    (kk : W p l e R s m args below meth c H locs cells slots Q (F0 m (pc + 3) ls rest)) : W p l e R s m args below meth c H locs cells slots Q (F0 m pc ls (.ref a :: rest)) :=
  W.objInit X.1 X.2.1 X.2.2.2.2.1 (X.2.2.2.2.2.1 _ hlink) (X.2.2.2.2.2.1 _ ob_inst) (X.2.2.2.2.2.1 _ ob_code) rfl (by rw [X.2.2.2.1]; exact hl) rfl hd hframes (by have : (F0 m pc ls (.ref a :: rest)).monitorRoom = 0 := rfl; rw [this]; omega) kk
theorem k_arr (X : mX g y cc n ret p s m args meth c w0) (hH : mH g s w0 ws H locs) {atype : ArrayType} {ty : FieldType} (hty : newarray.typeOf atype = ty) (hac : Cond.arrayClass (newarray.typeOf atype) ∈ wsG) (t0 : Nat) {cA0 : ClassId} (ht : (gT g)[t0]? = some (cA0, ty)) (huni : ∀ (U : State) (c1 c2 : ClassId), va_RA U c1 ty → va_RA U c2 ty → c1 = c2) {nn : Int32} {N' : Nat} {a0 : vp_A} (ha : ∀ cA : ClassId, vp_cell cA a0 = arrV cA N' (fun _ => defaultValue ty)) (hn : ¬ nn < 0) (hN : nn.toNatClampNeg = N') (hbytes : N' * componentBytes ty ≤ 536870912) (hcells : cells + 1 ≤ R.cells) (hslots : slots + N' ≤ R.slots) (hdg : decode cc pc = .ok (.newarray atype, 2))
    (kk : ∀ (q : Nat) (H1 : Heap), mH g s w0 (ws ++ [(q, .inl (cA0, a0))]) H1 locs → W p l e R s m args below meth c H1 locs (cells + 1) (slots + N') Q (F0 m (pc + 2) ls (.ref q :: rest))) : W p l e R s m args below meth c H locs cells slots Q (F0 m pc ls (.int nn :: rest)) := by
  refine va_newa (tys := gT g) X.1 X.2.1 (X.2.2.2.2.2.1 _ hac) hty X.2.2.2.2.2.2.2.1.1 hH.1 hH.2.1 hH.2.2 (fun _ h => Or.inr h) ha hn hN hbytes hcells hslots hdg (fun q cA H1 hK1 hP hD hS => ?_)
  have e : cA = cA0 := huni s _ _ (hK1.2 6 (cA, ty) rfl).2 (X.2.2.2.2.2.2.2.1.1.2 t0 _ ht).2
  subst e
  exact kk q H1 ⟨hP, hD, hS⟩
theorem u_int (U : State) (c1 c2 : ClassId) (h1 : va_RA U c1 .int) (h2 : va_RA U c2 .int) : c1 = c2 := Option.some.inj (h1.symm.trans h2)
theorem u_long (U : State) (c1 c2 : ClassId) (h1 : va_RA U c1 .long) (h2 : va_RA U c2 .long) : c1 = c2 := Option.some.inj (h1.symm.trans h2)
theorem u_double (U : State) (c1 c2 : ClassId) (h1 : va_RA U c1 .double) (h2 : va_RA U c2 .double) : c1 = c2 := Option.some.inj (h1.symm.trans h2)
theorem u_char (U : State) (c1 c2 : ClassId) (h1 : va_RA U c1 .char) (h2 : va_RA U c2 .char) : c1 = c2 := Option.some.inj (h1.symm.trans h2)
theorem f_putF (X : mX g y cc n ret p s m args meth c w0) (hname : meth.name = "<init>") (hH : mH g s w0 ws H locs) {C : String} {T : u_T} {N ci index a : Nat} {fs : List Value} {v : Value} (q0 : Nat) (he : ws[q0]? = some (a, .inr (ci, fs))) (hc : vwCl[ci]? = some (C, T, N)) (k : Nat) (hk : k < N) (hin : ∀ w ∈ u_ws C T N, w ∈ wsG) (ty0 : Nat → FieldType) (hty : ∀ k, k < N → parseFieldDescriptor (T k).2.2.1 = some (ty0 k)) (hnm : ∀ a, a < N → ∀ b, b < N → a ≠ b → (T a).2.1 ≠ (T b).2.1) (hl : Cond.fieldLink y.cls index (T k).1 (T k).2.1 (T k).2.2.1 ∈ wsG) (hfin : (T k).2.2.2 = true) (hdecl : (T k).1 = y.cls) (hn : narrow (ty0 k) v = v) (hfit : fits (ty0 k) v = true) (hlen : k < fs.length) (hws : ws.set q0 (a, .inr (ci, fs.set k v)) = ws1) (hdg : decode cc pc = .ok (.putfield index, 3))
    (kk : ∀ (H1 : Heap) (locs1 : List Loc), mH g s w0 ws1 H1 locs1 → W p l e R s m args below meth c H1 locs1 cells slots Q (F0 m (pc + 3) ls rest)) : W p l e R s m args below meth c H locs cells slots Q (F0 m pc ls (v :: .ref a :: rest)) :=
  va_putF X.1 X.2.1 X.2.2.2.2.2.1 hin ty0 hty hnm X.2.2.2.2.1 X.2.2.2.2.2.2.2.1.1 hH.1 hH.2.1 hH.2.2 q0 he hc k hk (X.2.2.2.2.2.1 _ hl) (fun _ h => h) hfin hname hdecl (hty k hk) hn hfit hlen hdg (fun H1 locs1 hP hD hS => kk H1 locs1 ⟨by rw [← hws]; exact hP, by rw [← hws]; exact hD, hS⟩)
theorem a_cs (X : mX g y cc n ret p s m args meth c w0) (hH : mH g s w0 ws H locs) {a N : Nat} {f : Nat → Int32} (q0 : Nat) (ha : ws[q0]? = some (a, .inl (g.2.1 3, N, .inl f))) {i x : Int32} (hin : vp_in i N) {j : Nat} (hj : j = i.toNatClampNeg) (hx : vp_nar .char x = x) (hws : ws.set q0 (a, .inl (g.2.1 3, N, .inl (upd f j x))) = ws1) (hdg : decode cc pc = .ok (.castore, 1))
    (kk : ∀ (H1 : Heap) (locs1 : List Loc), mH g s w0 ws1 H1 locs1 → W p l e R s m args below meth c H1 locs1 cells slots Q (F0 m (pc + 1) ls rest)) : W p l e R s m args below meth c H locs cells slots Q (F0 m pc ls (.int x :: .int i :: .ref a :: rest)) := by
  subst hj
  exact va_cast X.1 X.2.1 X.2.2.2.2.2.2.2.1.1 hH.1 hH.2.1 hH.2.2 q0 3 ha rfl hin hdg (fun H1 locs1 hP hD hS => kk H1 locs1 ⟨by rw [← hws, ← hx]; simpa [hx] using hP, by rw [← hws, ← hx]; simpa [hx] using hD, hS⟩)
theorem k_new (X : mX g y cc n ret p s m args meth c w0) (hH : mH g s w0 ws H locs) {C : String} {T : u_T} {N ci index : Nat} (hin : ∀ w ∈ u_ws C T N, w ∈ wsG) (ty : Nat → FieldType) (hty : ∀ k, k < N → parseFieldDescriptor (T k).2.2.1 = some (ty k)) (hcl : Cond.classLink y.cls index C ∈ wsG) (hinst : Cond.instantiable C N ∈ wsG) (hini : Cond.initialized C ∈ wsG) (hc : vwCl[ci]? = some (C, T, N)) {fs : List Value} (hfs : ∀ j, j < N → defaultValue (ty j) = vp_V fs j) (hcells : cells + 1 ≤ R.cells) (hslots : slots + N ≤ R.slots) (hdg : decode cc pc = .ok (.new index, 3))
    (kk : ∀ (q : Nat) (H1 : Heap), mH g s w0 (ws ++ [(q, .inr (ci, fs))]) H1 locs → W p l e R s m args below meth c H1 locs (cells + 1) (slots + N) Q (F0 m (pc + 3) ls (.ref q :: rest))) : W p l e R s m args below meth c H locs cells slots Q (F0 m pc ls rest) :=
  va_new X.1 X.2.1 X.2.2.2.2.2.1 hin ty hty X.2.2.2.2.1 (X.2.2.2.2.2.1 _ hcl) (X.2.2.2.2.2.1 _ hinst) (X.2.2.2.2.2.1 _ hini) X.2.2.2.2.2.2.2.1.1 hH.1 hH.2.1 hH.2.2 (fun _ h => Or.inr h) hc hfs hcells hslots hdg (fun q H1 hP hD hS => kk q H1 ⟨hP, hD, hS⟩)
/-- what a constructor's call comes to -/
theorem k_go (hH : mH g s w0 ws H locs) (hp : ws.Perm (wc ++ wr)) {w' : (Nat → Nat) → va_W} {mc ms : Nat} {a : Array Value}
    (hr : va_Run p l e R s m args below meth c H locs cells slots mc ms (F0 m pc ls st0) rest (kQ g wc w' H.size h0 a) (va_A wc H.size))
    (kk : ∀ (ad : Nat → Nat) (H1 : Heap) (locs1 : List Loc), ad 0 = h0 → mH g s w0 (wr ++ w' ad) H1 locs1 → W p l e R s m args below meth c H1 locs1 (cells + mc) (slots + ms) Q (F0 m (pc + 3) ls rest)) : W p l e R s m args below meth c H locs cells slots Q (F0 m pc ls st0) := by
  intro T hT X
  obtain ⟨v, st₀, t, T', L, h0', X', hL, e1, e2, ⟨hv, ⟨ad, ha0, hP1, hD1⟩, hz, hk⟩, st⟩ := hr T hT X
  have hv : v = none := by cases hv; rfl
  subst hv
  rw [h0'] at hz hk
  have hF := mFree hH hp
  obtain ⟨hP2, hD2⟩ := fr_ok (va_P.pm hp hH.1) (va_D.pm hp hH.2.1) (fun q h1 h2 => hk q h1 h2) hF hP1 hD1
  have hP2 := va_P.pm List.perm_append_comm hP2
  have hD2 := va_D.pm List.perm_append_comm hD2
  obtain ⟨t2, a1, b1⟩ := kk ad T'.heap (locs ++ L) ha0 ⟨by rw [e1]; exact hP2, hD2, Nat.le_trans hH.2.2.1 (by rw [e1]; exact hz), fun q h1 h2 => by
      rw [e1, hk q (Nat.lt_of_lt_of_le h1 hH.2.2.1) (fun z => h2 (hF q z))]; exact hH.2.2.2.1 q h1 h2, fun q hq => by
      rcases List.mem_append.mp hq with h | h
      · exact hH.2.2.2.2 q h
      · exact hF _ (hL q h)⟩ T' rfl X'
  exact ⟨t2, st t2 a1, b1⟩
theorem kBlind (g : GG) (av : List Value) (w : va_W) (sz : Nat) : FrameBlind (va_Pc av (kPre g w sz)) := fun a U f mk q => by
  obtain ⟨q0, ⟨q1, q2, qP, qD, qE⟩, qA⟩ := q
  exact ⟨q0, ⟨q1, q2, qP, qD, gE.same (u := U) (U := U.calling f mk a) rfl qE⟩, gAO.same (u := U) (U := U.calling f mk a) rfl qA⟩
/-- the call of a nest mate's private constructor on the object made last -/
theorem k_init (X : mX g y cc n ret p s m args meth c w0) (hAO : gAO s) {x : Nat × va_E} (hH : mH g s w0 (wr ++ [x]) H locs) {w' : (Nat → Nat) → va_W} (hM : kC l g y' c' n' rm' h0 [x] w') {host : String}
    (hk : Cond.code y' c' n' none ∈ wsG) (hl : (y.cls, index, y', host) ∈ nestL) (hi : Cond.instanceMethod y' ∈ wsG) (hyn : y'.name = "<init>") (hz : Cond.initialized y'.cls ∈ wsG) (hd : okM y' 0) (hR : rm'.frames + 1 ≤ R.frames ∧ 8 + (n' + 11) + rm'.locals ≤ R.locals)
    (hsz : ls.size = n) (hroom : (rest.map fun v => v.category).sum ≤ 8) (hf : cells + rm'.cells ≤ R.cells ∧ slots + rm'.slots ≤ R.slots) (hdg : decode cc pc = .ok (.invokespecial index, 3))
    (kk : ∀ (ad : Nat → Nat) (H1 : Heap) (locs1 : List Loc), ad 0 = h0 → mH g s w0 (wr ++ w' ad) H1 locs1 → W p l e R s m args below meth c H1 locs1 (cells + rm'.cells) (slots + rm'.slots) Q (F0 m (pc + 3) ls rest)) : W p l e R s m args below meth c H locs cells slots Q (F0 m pc ls (.ref h0 :: rest)) := by
  obtain ⟨hx, hb, hr, hml, hown, hts, hlk, hE, hA⟩ := id X
  exact k_go hH List.perm_append_comm (va_runIN (As := []) (rest := rest) ⟨hx, hb, hml, hown, hts⟩ (hM H.size) ⟨va_cnB 0 hts (gG hk) rfl rfl rfl (hE.2.1 _ hl) (hts _ hz) hd hR, hyn, hts _ hi⟩ ⟨kBlind g _ [x] H.size, fun U hU hW => ⟨rfl, mPreOf X (mLo X) hH List.perm_append_comm hU hW, gAO.warm hW hAO⟩⟩ rfl rfl hsz rfl (lv_room hroom) hdg hf) kk
/-- the call of a public constructor on the object made last -/
theorem k_initP (X : mX g y cc n ret p s m args meth c w0) (hAO : gAO s) {x : Nat × va_E} (hH : mH g s w0 (wr ++ [x]) H locs) {w' : (Nat → Nat) → va_W} (hM : kC l g y' c' n' rm' h0 [x] w')
    (hk : Cond.code y' c' n' none ∈ wsG) (hl : Cond.methodLink y.cls index y' ∈ wsG) (hi : Cond.instanceMethod y' ∈ wsG) (hyn : y'.name = "<init>") (hz : Cond.initialized y'.cls ∈ wsG) (hd : okM y' 0) (hR : rm'.frames + 1 ≤ R.frames ∧ 8 + (n' + 11) + rm'.locals ≤ R.locals)
    (hsz : ls.size = n) (hroom : (rest.map fun v => v.category).sum ≤ 8) (hf : cells + rm'.cells ≤ R.cells ∧ slots + rm'.slots ≤ R.slots) (hdg : decode cc pc = .ok (.invokespecial index, 3))
    (kk : ∀ (ad : Nat → Nat) (H1 : Heap) (locs1 : List Loc), ad 0 = h0 → mH g s w0 (wr ++ w' ad) H1 locs1 → W p l e R s m args below meth c H1 locs1 (cells + rm'.cells) (slots + rm'.slots) Q (F0 m (pc + 3) ls rest)) : W p l e R s m args below meth c H locs cells slots Q (F0 m pc ls (.ref h0 :: rest)) := by
  obtain ⟨hx, hb, hr, hml, hown, hts, hlk, hE, hA⟩ := id X
  exact k_go hH List.perm_append_comm (va_runI (As := []) (rest := rest) ⟨hx, hb, hml, hown, hts⟩ (hM H.size) (cwI 0 hts (gG hk) rfl rfl rfl (hts _ hz) (hts _ hl) (hts _ hi) hyn hd hR) ⟨kBlind g _ [x] H.size, fun U hU hW => ⟨rfl, mPreOf X (mLo X) hH List.perm_append_comm hU hW, gAO.warm hW hAO⟩⟩ rfl rfl hsz rfl (lv_room hroom) hdg hf) kk
theorem k_mna (X : mX g y cc n ret p s m args meth c w0) {ty : FieldType} (hover : va_Nw (.arrayOver (.array ty)) s) (hH : mH g s w0 ws H locs) (hac : Cond.arrayClass ty ∈ wsG) (hcl : Cond.classLink y.cls index ("[" ++ (FieldType.array ty).toString) ∈ wsG) (t1 t2 : Nat) {cA0 cy0 : ClassId} (ht1 : (gT g)[t1]? = some (cA0, .array ty)) (ht2 : (gT g)[t2]? = some (cy0, ty)) (hcy : s.vm.findClass (FieldType.array ty).toString = some cy0)
    {nn kk0 : Int32} {N' K' : Nat} {z : vp_A} (hn : ¬ nn < 0) (hk : ¬ kk0 < 0) (hN : nn.toNatClampNeg = N') (hM : kk0.toNatClampNeg = K') (hb1 : N' * 4 ≤ 536870912) (hb2 : K' * componentBytes ty ≤ 536870912) (hb3 : K' ≤ 536870912) (hdf : fits ty (defaultValue ty) = true) (hdd : (defaultValue ty).isDefault = true) (hcells : cells + (1 + N') ≤ R.cells) (hslots : slots + (N' + N' * K') ≤ R.slots) (hz : ∀ c : ClassId, Jvm.Free.Multi.innerC c K' (defaultValue ty) = vp_cell c z) (hdg : decode cc pc = .ok (.multianewarray index 2, 4))
    (kk : ∀ (q : Nat) (r : Nat → Nat) (H1 : Heap), mH g s w0 (ws ++ ([(q, .inl (cA0, N', .inr (.inr (.inr (.inr (fun i => if i < N' then some (r i) else none))))))] ++ (List.range N').map (fun i => (r i, .inl (cy0, z))))) H1 locs → W p l e R s m args below meth c H1 locs (cells + 1 + N') (slots + N' + N' * K') Q (F0 m (pc + 4) ls (.ref q :: rest))) : W p l e R s m args below meth c H locs cells slots Q (F0 m pc ls (.int kk0 :: .int nn :: rest)) := by
  have e0 : ws ++ va_pl [] (fun _ => (.inl (0, 0, .inl (fun _ => 0)) : va_E)) = ws := List.append_nil ws
  refine va_mna (tys := gT g) (X := ws) (L := []) (f := fun _ => .inl (0, 0, .inl (fun _ => 0))) (cy := cy0) X.1 X.2.1 X.2.2.2.2.1 (X.2.2.2.2.2.1 _ hcl) (ao_vm rfl hover) (X.2.2.2.2.2.1 _ hac) hcy X.2.2.2.2.2.2.2.1.1 (by rw [e0]; exact hH.1) (by rw [e0]; exact hH.2.1) hH.2.2 (fun _ h => Or.inr h) hn hk hN hM hb1 hb2 hb3 hdf hdd hcells hslots hz hdg (fun q r cA H1 _ _ hK1 hP hD hS => ?_)
  have e : cA = cA0 := Option.some.inj ((hK1.2 6 (cA, .array ty) rfl).2.symm.trans (X.2.2.2.2.2.2.2.1.1.2 t1 _ ht1).2)
  subst e
  have er : va_pl ([] ++ (List.range N').map r) (vr_up (fun _ => .inl (0, 0, .inl (fun _ => 0))) ((List.range N').map r) (.inl (cy0, z))) = (List.range N').map (fun i => (r i, .inl (cy0, z))) := by
    unfold va_pl
    rw [List.nil_append, List.map_map]
    apply List.map_congr_left
    intro i hi
    show (r i, vr_up _ _ _ (r i)) = _
    rw [vr_up_in (List.mem_map.mpr ⟨i, hi, rfl⟩)]
  rw [er, List.append_assoc] at hP hD
  exact kk q r H1 ⟨hP, hD, hS⟩
end KROWS
