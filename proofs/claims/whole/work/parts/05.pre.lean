/-! PRELUDE: words of decompiled functions, contracts, calls -/
def ltt {α β : Type} (a : α) (f : α → β) : β := f a
def ga {α : Type} (n : Nat) (i : Int32) (k : Nat → Option α) : Option α := if i < 0 ∨ n ≤ i.toNatClampNeg then none else k i.toNatClampNeg
def gz {α : Type} (y : Int32) (k : Option α) : Option α := if y = 0 then none else k
def gzl {α : Type} (y : Int64) (k : Option α) : Option α := if y = 0 then none else k
def gb {α : Type} (y : Int32) (k : Option α) : Option α := if y = 0 ∨ y = 1 then k else none
def gn {α : Type} (v : UInt64) (k : Option α) : Option α := if v &&& 0x7fffffffffffffff ≤ 0x7ff0000000000000 then k else none
theorem ltt_x {α β : Type} {a : α} {f : α → Option β} {o : β} (h : ltt a f = some o) : ∃ x, x = a ∧ f x = some o := ⟨a, rfl, h⟩
theorem ga_x {α : Type} {n : Nat} {i : Int32} {k : Nat → Option α} {o : α} (h : ga n i k = some o) : ∃ j, j = i.toNatClampNeg ∧ vp_in i n ∧ k j = some o := by
  unfold ga at h
  by_cases hc : i < 0 ∨ n ≤ i.toNatClampNeg
  · rw [if_pos hc] at h; cases h
  · rw [if_neg hc] at h; exact ⟨_, rfl, hc, h⟩
theorem gz_x {α : Type} {y : Int32} {k : Option α} {o : α} (h : gz y k = some o) : ¬ y = 0 ∧ k = some o := by
  unfold gz at h
  by_cases hc : y = 0
  · rw [if_pos hc] at h; cases h
  · rw [if_neg hc] at h; exact ⟨hc, h⟩
theorem gzl_x {α : Type} {y : Int64} {k : Option α} {o : α} (h : gzl y k = some o) : ¬ y = 0 ∧ k = some o := by
  unfold gzl at h
  by_cases hc : y = 0
  · rw [if_pos hc] at h; cases h
  · rw [if_neg hc] at h; exact ⟨hc, h⟩
theorem gb_x {α : Type} {y : Int32} {k : Option α} {o : α} (h : gb y k = some o) : (y = 0 ∨ y = 1) ∧ k = some o := by
  unfold gb at h
  by_cases hc : y = 0 ∨ y = 1
  · rw [if_pos hc] at h; exact ⟨hc, h⟩
  · rw [if_neg hc] at h; cases h
theorem gn_x {α : Type} {v : UInt64} {k : Option α} {o : α} (h : gn v k = some o) : vf_n64 v ∧ k = some o := by
  unfold gn at h
  by_cases hc : v &&& 0x7fffffffffffffff ≤ 0x7ff0000000000000
  · rw [if_pos hc] at h; exact ⟨hc, h⟩
  · rw [if_neg hc] at h; cases h
theorem bd_x {α β : Type} {x : Option α} {f : α → Option β} {o : β} (h : x.bind f = some o) : ∃ a, x = some a ∧ f a = some o := Option.bind_eq_some_iff.mp h
theorem it_x {α : Type} {c : Prop} [Decidable c] {A B : Option α} {o : α} (h : ite c A B = some o) (hc : c) : A = some o := by rwa [if_pos hc] at h
theorem ie_x {α : Type} {c : Prop} [Decidable c] {A B : Option α} {o : α} (h : ite c A B = some o) (hc : ¬ c) : B = some o := by rwa [if_neg hc] at h
theorem co_n {P : Nat → Prop} (n : Nat) (h : ∀ j, j < n → P j) {i : Nat} (hi : i < n) : P i := h i hi
theorem vp_lt {i : Int32} {n : Nat} (h : vp_in i n) : i.toNatClampNeg < n := Nat.not_le.mp fun q => h (Or.inr q)
theorem nar_b {v : Int32} (h : v = 0 ∨ v = 1) : narrow .boolean (.int v) = .int v := by rcases h with rfl | rfl <;> rfl

theorem gG {w : Cond} (h : w ∈ wsG) : GoodIn wsG (w :: wsG) := by
  intro v hv
  have hv' : v ∈ wsG := by
    rcases List.mem_cons.mp hv with q | q
    · rw [q]; exact h
    · exact q
  exact ⟨hv', good_of_word (List.mem_filter.mp hv').2⟩

abbrev GG : Type := va_G × (Nat → ClassId) × (Nat → Nat) × Nat
abbrev gA (g : GG) : Nat → Prop := fun q => g.2.2.2 ≤ q
abbrev gT (g : GG) : List (ClassId × FieldType) := [(g.2.1 0, .int), (g.2.1 1, .long), (g.2.1 2, .double), (g.2.1 3, .char), (g.2.1 4, .array .long), (g.2.1 5, .array .int)]
abbrev rM (d k : Nat) : Room := { frames := d, cells := 0, slots := 0, locals := k }
/-- the texts: owner, entry, text -/
def gtx : List (String × Nat × String) := [(RX7, 101, "way"), (RX7, 103, "kind"), (RX7, 105, "load"), (RX7, 107, "long"), (RX7, 109, "lose"), (RX7, 111, "points"), (RX8, 338, " to "), (RX8, 344, ": "), (RX8, 346, "never"), (RX8, 355, "/"), (RX8, 351, " there, "), (RX8, 353, " both ways")]
def gtb : List (List Int32) := [[119, 97, 121], [107, 105, 110, 100], [108, 111, 97, 100], [108, 111, 110, 103], [108, 111, 115, 101], [112, 111, 105, 110, 116, 115], [32, 116, 111, 32], [58, 32], [110, 101, 118, 101, 114], [47], [32, 116, 104, 101, 114, 101, 44, 32], [32, 98, 111, 116, 104, 32, 119, 97, 121, 115]]
def gtl : List Nat := [3, 4, 4, 4, 4, 6, 4, 2, 5, 1, 8, 10]
def gund : List Int32 := [-1, 0, 0, 2, 1, 0]
def gC (g : GG) (U : State) (H : Heap) : Prop :=
  va_Z RX8 "UNDER" "[I" (.ref (g.2.2.1 0)) (gA g) U H ∧ va_T .int (g.2.2.1 0) 6 (fun j => .int (gund.getD j 0)) (gA g) U H ∧
  va_Z "java/lang/String" "COMPACT_STRINGS" "Z" (.int 1) (gA g) U H ∧ (∃ v : Value, va_Z "jdk/internal/util/Preconditions" "SIOOBE_FORMATTER" "Ljava/util/function/BiFunction;" v (gA g) U H ∧ (v = .null ∨ ∃ a, v = .ref a)) ∧
  (∀ i : Nat, i < 12 → vk_R (gtx.getD i ("", 0, "")).1 (gtx.getD i ("", 0, "")).2.1 (gtx.getD i ("", 0, "")).2.2 (g.2.2.1 (1 + i)) U) ∧
  vk_S 12 gtl gtb (fun i => g.2.2.1 (1 + i)) (fun i => g.2.2.1 (13 + i)) (gA g) U H
def nestL : List (String × Nat × MethodName × String) := [(RX8, 9, yX3_init, RX8), (RX8, 28, yX0_init, RX8), (RX8, 39, yX7_init, RX8), (RX8, 46, yX6_init, RX8), (RX8, 53, yX2_init, RX8), (RX8, 60, yX4_init, RX8), (RX8, 75, yX1_init, RX8), (RX8, 82, yX5_init, RX8), (RX7, 19, yX8_refusalOfNumber, RX8), (RX3, 87, yX8_isKind, RX8), (RX3, 70, yX8_refusalOfNumber, RX8), (RX3, 37, yX8_weightOf, RX8), (RX3, 41, yX8_minutesOf, RX8), (RX3, 55, yX8_has, RX8), (RX0, 43, yX8_has, RX8), (RX0, 86, yX8_over, RX8), (RX5, 30, yX8_isKind, RX8), (RX5, 37, yX8_isOfKind, RX8), (RX5, 41, yX8_refusalOfNumber, RX8), (RX5, 45, yX8_weightOf, RX8)]
def gE (g : GG) (U : State) (H : Heap) : Prop := va_K g.1 vwCl (gT g) U ∧ (∀ q ∈ nestL, va_Nw (.methodLinkNest q.1 q.2.1 q.2.2.1 q.2.2.2) U) ∧ gC g U H
theorem gE.same {g : GG} {u U : State} {H : Heap} (hv : U.vm = u.vm) (h : gE g u H) : gE g U H := by
  have ha : u.vm.Alike U.vm := hv ▸ Vm.Alike.refl u.vm
  obtain ⟨h1, h2, c1, c2, c3, ⟨v, c4, c4'⟩, c5, c6⟩ := h
  exact ⟨va_K.moved ha h1, fun q hq => va_Nw.same rfl hv.symm (h2 q hq), va_Z.moved ha c1, va_T.moved ha c2, va_Z.moved ha c3, ⟨v, va_Z.moved ha c4, c4'⟩, fun i hi => vk_R.same hv (c5 i hi), vk_S.moved ha c6⟩
theorem gE.go {g : GG} {s U : State} {H : Heap} {A : Nat → Prop} {locs : List Loc} (hW : s.WarmedH U.vm) (hS : va_S A s.heap H locs) (hA : ∀ q, A q → g.2.2.2 ≤ q) (h : gE g s s.heap) : gE g U H := by
  have ha := hW.alike
  have hq : ∀ a : Nat, a < s.heap.size → ¬ gA g a → H[a]? = s.heap[a]? := fun a h1 h2 => hS.2.1 a h1 (fun z => h2 (hA a z))
  obtain ⟨h1, h2, c1, c2, c3, ⟨v, c4, c4'⟩, c5, c6⟩ := h
  exact ⟨va_K.moved ha h1, fun q hq => va_Nw.warmM hW (h2 q hq), va_Z.moved ha (c1.kept hq), va_T.moved ha (c2.kept hq), va_Z.moved ha (c3.kept hq), ⟨v, va_Z.moved ha (c4.kept hq), c4'⟩, fun i hi => vk_R.warm hW (c5 i hi), vk_S.moved ha (c6.kept hq)⟩

def mPre (g : GG) (w : va_W) (sz : Nat) (U : State) : Prop := U.heap.size = sz ∧ g.2.2.2 ≤ sz ∧ va_P g.1 vwCl w U.heap ∧ va_D (gA g) w ∧ gE g U U.heap
def mQ (g : GG) (w w' : va_W) (sz : Nat) (r : Option Value) : Array Value → State → Outcome → State → Prop := fun _ st oc t => oc = .returned r ∧ va_P g.1 vwCl w' t.heap ∧ va_D (va_A w sz) w' ∧ va_F (va_A w sz) st t
def mC (l : Launch) (g : GG) (y : MethodName) (c : ByteArray) (n : Nat) (ret : Option FieldType) (rm : Room) (av : List Value) (w w' : va_W) (r : Option Value) : Prop :=
  ∀ sz : Nat, Met l y (.code y c n ret :: wsG) rm (va_Pc av (mPre g w sz)) (mQ g w w' sz r) 0 0 (va_A w sz)
/-- what a method's body stands on -/
def mX (g : GG) (y : MethodName) (cc : ByteArray) (n : Nat) (ret : Option FieldType) (p : Program) (s : State) (m : MethodId) (args : Array Value) (meth : Method) (c : Code) (w0 : va_W) : Prop :=
  p.tables.exec = Jvm.exec ∧ c.code = cc ∧ meth.sig.returnType = ret ∧ c.maxLocals = n ∧ s.vm.findClass y.cls = some m.cls ∧ (∀ w ∈ wsG, w.before args s = true) ∧ meth.locks = false ∧ gE g s s.heap ∧ (∀ q, va_A w0 s.heap.size q → g.2.2.2 ≤ q)
def mH (g : GG) (s : State) (w0 ws : va_W) (H : Heap) (locs : List Loc) : Prop := va_P g.1 vwCl ws H ∧ va_D (va_A w0 s.heap.size) ws ∧ va_S (va_A w0 s.heap.size) s.heap H locs
abbrev mZ (g : GG) (below : List Frame) (args : Array Value) (s : State) (w0 w' : va_W) (r : Option Value) : State → Prop := MQ below (mQ g w0 w' s.heap.size r) args s 0 0 (va_A w0 s.heap.size)
theorem mC.ofW {l : Launch} {g : GG} {y : MethodName} {cc : ByteArray} {n : Nat} {ret : Option FieldType} {rm : Room} {av : List Value} {w w' : va_W} {r : Option Value} (hy : plainName y.cls = true)
    (body : ∀ (p : Program) (e : Env) (s : State) (m : MethodId) (below : List Frame) (meth : Method) (c : Code), mX g y cc n ret p s m av.toArray meth c w → mH g s w w s.heap [] → ∀ ls : Array Slot, (lg_sl av).length ≤ n → lv_has ls n (lv_args 0 av) →
      W p l e rm s m av.toArray below meth c s.heap [] 0 0 (mZ g below av.toArray s w w' r) (F0 m 0 ls [])) (hn : (lg_sl av).length ≤ n) : mC l g y cc n ret rm av w w' r := by
  intro sz
  refine Met.ofW (cc := cc) (maxL := n) (ret := ret) hy rfl ?_
  intro p e s m args below meth c s₁ B hml hv
  obtain ⟨rfl, hsz, hlo, hP, hD0, hE⟩ := hv
  subst hsz
  have hts := atoms_spec (ws := .code y cc n ret :: wsG) B.pre
  have hX : mX g y cc n ret p s m av.toArray meth c w := ⟨B.exec, B.bytes, B.returns, hml, findClass_of_methodNamed B.named, fun w h => hts w (List.mem_cons_of_mem _ h), B.notSynchronized, hE, fun q hq => by
    rcases hq with ⟨k, e, h⟩ | h
    · exact hD0.2 k (q, e) h
    · exact Nat.le_trans hlo h⟩
  have hl := lv_entry av (n := n) hn
  rw [lg_entry_eq]
  exact body p e s m below meth c hX ⟨hP, hD0.self (sz := s.heap.size), va_S.rf⟩ _ hn hl

theorem va_P_iff {D : va_G} {ws : va_W} {H : Heap} : va_P D vwCl ws H ↔ ∀ q ∈ ws, va_at D vwCl q H :=
  ⟨fun h q hq => by obtain ⟨k, hk⟩ := List.mem_iff_getElem?.mp hq; exact h k q hk, fun h k q hk => h q (List.mem_of_getElem? hk)⟩
theorem va_D_iff {A : Nat → Prop} {ws : va_W} : va_D A ws ↔ (ws.map Prod.fst).Nodup ∧ ∀ q ∈ ws, A q.1 := by
  constructor
  · intro h
    refine ⟨?_, fun q hq => by obtain ⟨k, hk⟩ := List.mem_iff_getElem?.mp hq; exact h.2 k q hk⟩
    unfold List.Nodup
    rw [List.pairwise_iff_getElem]
    intro i j hi hj hij he
    rw [List.getElem_map, List.getElem_map] at he
    have hi' : i < ws.length := by rwa [List.length_map] at hi
    have hj' : j < ws.length := by rwa [List.length_map] at hj
    have := h.1 i j ws[i] ws[j] (List.getElem?_eq_getElem hi') (List.getElem?_eq_getElem hj') he
    omega
  · intro h
    obtain ⟨h1, h2⟩ := h
    unfold List.Nodup at h1
    rw [List.pairwise_iff_getElem] at h1
    refine ⟨fun i j x z hi hj hxz => ?_, fun k q hk => h2 q (List.mem_of_getElem? hk)⟩
    obtain ⟨hi1, hi2⟩ := List.getElem?_eq_some_iff.mp hi
    obtain ⟨hj1, hj2⟩ := List.getElem?_eq_some_iff.mp hj
    rcases Nat.lt_trichotomy i j with q | q | q
    · exact absurd (by rw [List.getElem_map, List.getElem_map, hi2, hj2]; exact hxz) (h1 i j (by rw [List.length_map]; exact hi1) (by rw [List.length_map]; exact hj1) q)
    · exact q
    · exact absurd (by rw [List.getElem_map, List.getElem_map, hi2, hj2]; exact hxz.symm) (h1 j i (by rw [List.length_map]; exact hj1) (by rw [List.length_map]; exact hi1) q)
theorem va_P.pm {D : va_G} {ws ws' : va_W} {H : Heap} (hp : ws.Perm ws') (h : va_P D vwCl ws H) : va_P D vwCl ws' H := va_P_iff.mpr fun q hq => va_P_iff.mp h q (hp.mem_iff.mpr hq)
theorem va_D.pm {A : Nat → Prop} {ws ws' : va_W} (hp : ws.Perm ws') (h : va_D A ws) : va_D A ws' :=
  va_D_iff.mpr ⟨(hp.map Prod.fst).nodup_iff.mp (va_D_iff.mp h).1, fun q hq => (va_D_iff.mp h).2 q (hp.mem_iff.mpr hq)⟩
theorem va_A_mem {wc : va_W} {sz x : Nat} : va_A wc sz x ↔ (∃ q ∈ wc, q.1 = x) ∨ sz ≤ x := by
  constructor
  · rintro (⟨k, e, h⟩ | h)
    · exact Or.inl ⟨_, List.mem_of_getElem? h, rfl⟩
    · exact Or.inr h
  · rintro (⟨q, h, rfl⟩ | h)
    · obtain ⟨k, hk⟩ := List.mem_iff_getElem?.mp h
      exact Or.inl ⟨k, q.2, hk⟩
    · exact Or.inr h
theorem fr_ok {D : va_G} {A0 : Nat → Prop} {wr wc w1 : va_W} {H H1 : Heap} (hP : va_P D vwCl (wc ++ wr) H) (hD : va_D A0 (wc ++ wr))
    (hk : ∀ q : Nat, q < H.size → ¬ va_A wc H.size q → H1[q]? = H[q]?) (hF : ∀ q, va_A wc H.size q → A0 q) (hP1 : va_P D vwCl w1 H1) (hD1 : va_D (va_A wc H.size) w1) : va_P D vwCl (w1 ++ wr) H1 ∧ va_D A0 (w1 ++ wr) := by
  have hP' := va_P_iff.mp hP
  obtain ⟨hn, hA⟩ := va_D_iff.mp hD
  rw [List.map_append, List.nodup_append] at hn
  obtain ⟨n1, n2, n3⟩ := hn
  have apart : ∀ q ∈ wr, q.1 < H.size ∧ ¬ va_A wc H.size q.1 := by
    intro q hq
    have hl := (hP' q (List.mem_append_right _ hq)).lt
    refine ⟨hl, fun h => ?_⟩
    rcases va_A_mem.mp h with ⟨z, hz, e⟩ | h
    · exact n3 z.1 (List.mem_map.mpr ⟨z, hz, rfl⟩) q.1 (List.mem_map.mpr ⟨q, hq, rfl⟩) e
    · exact absurd h (Nat.not_le.mpr hl)
  obtain ⟨m1, m2⟩ := va_D_iff.mp hD1
  refine ⟨va_P_iff.mpr fun q hq => ?_, va_D_iff.mpr ⟨?_, fun q hq => ?_⟩⟩
  · rcases List.mem_append.mp hq with h | h
    · exact va_P_iff.mp hP1 q h
    · obtain ⟨a1, a2⟩ := apart q h
      exact (hP' q (List.mem_append_right _ h)).kept (hk q.1 a1 a2)
  · rw [List.map_append, List.nodup_append]
    refine ⟨m1, n2, fun x hx z hz e => ?_⟩
    obtain ⟨q, hq, rfl⟩ := List.mem_map.mp hx
    obtain ⟨q2, hq2, rfl⟩ := List.mem_map.mp hz
    exact (apart q2 hq2).2 (e ▸ m2 q hq)
  · rcases List.mem_append.mp hq with h | h
    · exact hF _ (m2 q h)
    · exact hA q (List.mem_append_right _ h)
section CALLS
variable {p : Program} {l : Launch} {e : Env} {R : Room} {s : State} {m : MethodId} {args : Array Value} {below : List Frame} {meth : Method} {c : Code} {H : Heap} {locs : List Loc} {cells slots : Nat} {Q : State → Prop}
variable {g : GG} {y y' : MethodName} {cc c' : ByteArray} {n n' nA index pc : Nat} {ret ret' : Option FieldType} {rm' : Room} {w0 ws ws1 wc wc' wr : va_W} {b : Nat} {As rest st0 st1 : List Value} {r' : Option Value} {ls : Array Slot}
theorem mFree (hH : mH g s w0 ws H locs) (hp : ws.Perm (wc ++ wr)) : ∀ q, va_A wc H.size q → va_A w0 s.heap.size q := fun q h => by
  rcases va_A_mem.mp h with ⟨z, hz, rfl⟩ | h
  · exact (va_D_iff.mp hH.2.1).2 z (hp.mem_iff.mpr (List.mem_append_left _ hz))
  · exact Or.inr (Nat.le_trans hH.2.2.1 h)
theorem r_go (hH : mH g s w0 ws H locs) (hp : ws.Perm (wc ++ wr)) (hp1 : ws1.Perm (wc' ++ wr)) {a : Array Value}
    (hr : va_Run p l e R s m args below meth c H locs cells slots 0 0 (F0 m pc ls st0) rest (mQ g wc wc' H.size r' a) (va_A wc H.size)) (hst1 : r'.toList ++ rest = st1)
    (kk : ∀ (H1 : Heap) (locs1 : List Loc), mH g s w0 ws1 H1 locs1 → W p l e R s m args below meth c H1 locs1 cells slots Q (F0 m (pc + 3) ls st1)) : W p l e R s m args below meth c H locs cells slots Q (F0 m pc ls st0) := by
  subst hst1
  intro T hT X
  obtain ⟨v, st₀, t, T', L, h0, X', hL, e1, e2, ⟨hv, hP1, hD1, hz, hk⟩, st⟩ := hr T hT X
  have hv : v = r' := by cases hv; rfl
  subst hv
  rw [h0] at hz hk
  have hF := mFree hH hp
  obtain ⟨hP2, hD2⟩ := fr_ok (va_P.pm hp hH.1) (va_D.pm hp hH.2.1) (fun q h1 h2 => hk q h1 h2) hF hP1 hD1
  have hP2 := va_P.pm hp1.symm hP2
  have hD2 := va_D.pm hp1.symm hD2
  obtain ⟨t2, a1, b1⟩ := kk T'.heap (locs ++ L) ⟨by rw [e1]; exact hP2, hD2, Nat.le_trans hH.2.2.1 (by rw [e1]; exact hz), fun q h1 h2 => by
      rw [e1, hk q (Nat.lt_of_lt_of_le h1 hH.2.2.1) (fun z => h2 (hF q z))]; exact hH.2.2.2.1 q h1 h2, fun q hq => by
      rcases List.mem_append.mp hq with h | h
      · exact hH.2.2.2.2 q h
      · exact hF _ (hL q h)⟩ T' rfl X'
  exact ⟨t2, st t2 a1, b1⟩
theorem mBlind (g : GG) (av : List Value) (w : va_W) (sz : Nat) : FrameBlind (va_Pc av (mPre g w sz)) := fun a U f mk q => by
  obtain ⟨q0, q1, q2, qP, qD, qE⟩ := q
  exact ⟨q0, q1, q2, qP, qD, gE.same (u := U) (U := U.calling f mk a) rfl qE⟩
theorem mPreOf (X : mX g y cc n ret p s m args meth c w0) (hlo : g.2.2.2 ≤ s.heap.size) (hH : mH g s w0 ws H locs) (hp : ws.Perm (wc ++ wr)) {U : State} (hU : U.heap = H) (hW : s.WarmedH U.vm) : mPre g wc H.size U := by
  have h1 := va_P.pm hp hH.1
  have h2 := va_D_iff.mp (va_D.pm hp hH.2.1)
  refine ⟨by rw [hU], Nat.le_trans hlo hH.2.2.1, by rw [hU]; exact va_P_iff.mpr fun q hq => va_P_iff.mp h1 q (List.mem_append_left _ hq), va_D_iff.mpr ⟨?_, fun q hq => X.2.2.2.2.2.2.2.2 _ (h2.2 q (List.mem_append_left _ hq))⟩, ?_⟩
  · have h3 := h2.1
    rw [List.map_append, List.nodup_append] at h3
    exact h3.1
  rw [hU]
  exact gE.go hW hH.2.2 X.2.2.2.2.2.2.2.2 X.2.2.2.2.2.2.2.1
theorem mLo (X : mX g y cc n ret p s m args meth c w0) : g.2.2.2 ≤ s.heap.size := X.2.2.2.2.2.2.2.2 _ (Or.inr (Nat.le_refl _))
abbrev okM (y : MethodName) (n : Nat) : Prop := y.cls ≠ "java/lang/invoke/MethodHandle" ∧ y.cls ≠ "java/lang/invoke/VarHandle" ∧ (parseMethodDescriptor y.desc).map (fun d => d.parameters.length) = some n
/-- a call of a method of an object in the world -/
theorem r_V (X : mX g y cc n ret p s m args meth c w0) (hH : mH g s w0 ws H locs) (hM : mC l g y' c' n' ret' rm' (.ref b :: As) wc wc' r')
    (hk : Cond.code y' c' n' ret' ∈ wsG) (hl : Cond.methodLink y.cls index y' ∈ wsG) (hi : Cond.instanceMethod y' ∈ wsG) {C : String} {Tc : u_T} {Nc ci q0 : Nat} {fs : List Value} (hv : Cond.selects C y' y' ∈ wsG) (hz : Cond.initialized y'.cls ∈ wsG) (hd : okM y' nA) (hR : rm'.frames + 1 ≤ R.frames ∧ 8 + (n' + 11) + rm'.locals ≤ R.locals) (hrc : rm'.cells = 0) (hrs : rm'.slots = 0)
    (he : ws[q0]? = some (b, .inr (ci, fs))) (hc : vwCl[ci]? = some (C, Tc, Nc)) (hp : ws.Perm (wc ++ wr)) (hp1 : ws1.Perm (wc' ++ wr))
    (hAs : As.length = nA) (hsz : ls.size = n) (hst : st0 = As.reverse ++ .ref b :: rest) (hroom : (rest.map fun v => v.category).sum ≤ 8) (hf : cells + 0 ≤ R.cells ∧ slots + 0 ≤ R.slots) (hst1 : r'.toList ++ rest = st1) (hdg : decode cc pc = .ok (.invokevirtual index, 3))
    (kk : ∀ (H1 : Heap) (locs1 : List Loc), mH g s w0 ws1 H1 locs1 → W p l e R s m args below meth c H1 locs1 cells slots Q (F0 m (pc + 3) ls st1)) : W p l e R s m args below meth c H locs cells slots Q (F0 m pc ls st0) := by
  obtain ⟨hx, hb, hr, hml, hown, hts, hlk, hE, hA⟩ := id X
  exact r_go hH hp hp1 (va_runV (As := As) (rest := rest) ⟨hx, hb, hml, hown, hts⟩ (hM H.size) ⟨callB_of nA hts (gG hk) rfl hrc hrs (hts _ hz) (hts _ hl) hd hR, hts _ hi, hts _ hv⟩ ⟨mBlind g _ wc H.size, va_recv hE.1 hH.1 hc he, fun U hU hW => ⟨rfl, mPreOf X (mLo X) hH hp hU hW⟩⟩ rfl hAs hsz hst (lv_room hroom) hdg hf) hst1 kk
/-- a call of a static method of the own class -/
theorem r_S (X : mX g y cc n ret p s m args meth c w0) (hH : mH g s w0 ws H locs) (hM : mC l g y' c' n' ret' rm' As wc wc' r')
    (hk : Cond.code y' c' n' ret' ∈ wsG) (hl : Cond.methodLink y.cls index y' ∈ wsG) (hi : Cond.static y' ∈ wsG) (hz : Cond.initialized y'.cls ∈ wsG) (hd : okM y' nA) (hR : rm'.frames + 1 ≤ R.frames ∧ 8 + (n' + 11) + rm'.locals ≤ R.locals) (hrc : rm'.cells = 0) (hrs : rm'.slots = 0)
    (hp : ws.Perm (wc ++ wr)) (hp1 : ws1.Perm (wc' ++ wr))
    (hAs : As.length = nA) (hsz : ls.size = n) (hst : st0 = As.reverse ++ rest) (hroom : (rest.map fun v => v.category).sum ≤ 8) (hf : cells + 0 ≤ R.cells ∧ slots + 0 ≤ R.slots) (hst1 : r'.toList ++ rest = st1) (hdg : decode cc pc = .ok (.invokestatic index, 3))
    (kk : ∀ (H1 : Heap) (locs1 : List Loc), mH g s w0 ws1 H1 locs1 → W p l e R s m args below meth c H1 locs1 cells slots Q (F0 m (pc + 3) ls st1)) : W p l e R s m args below meth c H locs cells slots Q (F0 m pc ls st0) := by
  obtain ⟨hx, hb, hr, hml, hown, hts, hlk, hE, hA⟩ := id X
  exact r_go hH hp hp1 (va_runS (As := As) (rest := rest) ⟨hx, hb, hml, hown, hts⟩ (hM H.size) ⟨callB_of nA hts (gG hk) rfl hrc hrs (hts _ hz) (hts _ hl) hd hR, hts _ hi⟩ ⟨mBlind g _ wc H.size, fun U hU hW => ⟨rfl, mPreOf X (mLo X) hH hp hU hW⟩⟩ rfl hAs hsz hst (lv_room hroom) hdg hf) hst1 kk
/-- a call of a private static method of a nest mate -/
theorem r_SN (X : mX g y cc n ret p s m args meth c w0) (hH : mH g s w0 ws H locs) (hM : mC l g y' c' n' ret' rm' As wc wc' r') {host : String}
    (hk : Cond.code y' c' n' ret' ∈ wsG) (hl : (y.cls, index, y', host) ∈ nestL) (hi : Cond.static y' ∈ wsG) (hz : Cond.initialized y'.cls ∈ wsG) (hd : okM y' nA) (hR : rm'.frames + 1 ≤ R.frames ∧ 8 + (n' + 11) + rm'.locals ≤ R.locals) (hrc : rm'.cells = 0) (hrs : rm'.slots = 0)
    (hp : ws.Perm (wc ++ wr)) (hp1 : ws1.Perm (wc' ++ wr))
    (hAs : As.length = nA) (hsz : ls.size = n) (hst : st0 = As.reverse ++ rest) (hroom : (rest.map fun v => v.category).sum ≤ 8) (hf : cells + 0 ≤ R.cells ∧ slots + 0 ≤ R.slots) (hst1 : r'.toList ++ rest = st1) (hdg : decode cc pc = .ok (.invokestatic index, 3))
    (kk : ∀ (H1 : Heap) (locs1 : List Loc), mH g s w0 ws1 H1 locs1 → W p l e R s m args below meth c H1 locs1 cells slots Q (F0 m (pc + 3) ls st1)) : W p l e R s m args below meth c H locs cells slots Q (F0 m pc ls st0) := by
  obtain ⟨hx, hb, hr, hml, hown, hts, hlk, hE, hA⟩ := id X
  exact r_go hH hp hp1 (va_runSN (As := As) (rest := rest) ⟨hx, hb, hml, hown, hts⟩ (hM H.size) ⟨va_cnB nA hts (gG hk) rfl hrc hrs (hE.2.1 _ hl) (hts _ hz) hd hR, hts _ hi, trivial⟩ ⟨mBlind g _ wc H.size, fun U hU hW => ⟨rfl, mPreOf X (mLo X) hH hp hU hW⟩⟩ rfl hAs hsz hst (lv_room hroom) hdg hf) hst1 kk
/-- ends -/
theorem e_i (X : mX g y cc n (some .int) p s m args meth c w0) {w' : va_W} (hH : mH g s w0 w' H locs) {v : Int32} (hdg : decode cc pc = .ok (.ireturn, 1)) : W p l e R s m args below meth c H locs 0 0 (mZ g below args s w0 w' (some (.int v))) (F0 m pc ls [.int v]) :=
  W.iret X.1 X.2.1 X.2.2.1 (fun t ht hW => ⟨rfl, by rw [ht]; exact hH.1, hH.2.1, hH.2.2.F ht⟩) hH.2.2.2.2 hdg X.2.2.2.2.2.2.1
theorem e_z (X : mX g y cc n (some .boolean) p s m args meth c w0) {w' : va_W} (hH : mH g s w0 w' H locs) {v : Int32} (hv : v = 0 ∨ v = 1) (hdg : decode cc pc = .ok (.ireturn, 1)) : W p l e R s m args below meth c H locs 0 0 (mZ g below args s w0 w' (some (.int v))) (F0 m pc ls [.int v]) :=
  W.zret X.1 X.2.1 X.2.2.1 (nar_b hv) (fun t ht hW => ⟨rfl, by rw [ht]; exact hH.1, hH.2.1, hH.2.2.F ht⟩) hH.2.2.2.2 hdg X.2.2.2.2.2.2.1
theorem e_l (X : mX g y cc n (some .long) p s m args meth c w0) {w' : va_W} (hH : mH g s w0 w' H locs) {v : Int64} (hdg : decode cc pc = .ok (.lreturn, 1)) : W p l e R s m args below meth c H locs 0 0 (mZ g below args s w0 w' (some (.long v))) (F0 m pc ls [.long v]) :=
  W.lret X.1 X.2.1 X.2.2.1 (fun t ht hW => ⟨rfl, by rw [ht]; exact hH.1, hH.2.1, hH.2.2.F ht⟩) hH.2.2.2.2 hdg X.2.2.2.2.2.2.1
theorem e_v (X : mX g y cc n none p s m args meth c w0) {w' : va_W} (hH : mH g s w0 w' H locs) (hdg : decode cc pc = .ok (.return_, 1)) : W p l e R s m args below meth c H locs 0 0 (mZ g below args s w0 w' none) (F0 m pc ls []) :=
  W.vret X.1 X.2.1 X.2.2.1 (fun t ht hW => ⟨rfl, by rw [ht]; exact hH.1, hH.2.1, hH.2.2.F ht⟩) hH.2.2.2.2 hdg X.2.2.2.2.2.2.1
/-- fields -/
theorem f_get (X : mX g y cc n ret p s m args meth c w0) (hH : mH g s w0 ws H locs) {C : String} {T : u_T} {N ci index a : Nat} {fs : List Value} {v : Value} (q0 : Nat) (he : ws[q0]? = some (a, .inr (ci, fs))) (hc : vwCl[ci]? = some (C, T, N)) (k : Nat) (hk : k < N) (hin : ∀ w ∈ u_ws C T N, w ∈ wsG) (hl : Cond.fieldLink y.cls index (T k).1 (T k).2.1 (T k).2.2.1 ∈ wsG) (hv : fs[k]? = some v) (hdg : decode cc pc = .ok (.getfield index, 3))
    (kk : W p l e R s m args below meth c H locs cells slots Q (F0 m (pc + 3) ls (v :: rest))) : W p l e R s m args below meth c H locs cells slots Q (F0 m pc ls (.ref a :: rest)) :=
  va_get X.1 X.2.1 X.2.2.2.2.2.1 hin X.2.2.2.2.1 X.2.2.2.2.2.2.2.1.1 hH.1 q0 he hc k hk (X.2.2.2.2.2.1 _ hl) (fun _ h => h) hv hdg kk
theorem f_put (X : mX g y cc n ret p s m args meth c w0) (hH : mH g s w0 ws H locs) {C : String} {T : u_T} {N ci index a : Nat} {fs : List Value} {v : Value} (q0 : Nat) (he : ws[q0]? = some (a, .inr (ci, fs))) (hc : vwCl[ci]? = some (C, T, N)) (k : Nat) (hk : k < N) (hin : ∀ w ∈ u_ws C T N, w ∈ wsG) (ty0 : Nat → FieldType) (hty : ∀ k, k < N → parseFieldDescriptor (T k).2.2.1 = some (ty0 k)) (hnm : ∀ a, a < N → ∀ b, b < N → a ≠ b → (T a).2.1 ≠ (T b).2.1) (hl : Cond.fieldLink y.cls index (T k).1 (T k).2.1 (T k).2.2.1 ∈ wsG) (hfin : (T k).2.2.2 = false) (hn : narrow (ty0 k) v = v) (hfit : fits (ty0 k) v = true) (hlen : k < fs.length) (hws : ws.set q0 (a, .inr (ci, fs.set k v)) = ws1) (hdg : decode cc pc = .ok (.putfield index, 3))
    (kk : ∀ (H1 : Heap) (locs1 : List Loc), mH g s w0 ws1 H1 locs1 → W p l e R s m args below meth c H1 locs1 cells slots Q (F0 m (pc + 3) ls rest)) : W p l e R s m args below meth c H locs cells slots Q (F0 m pc ls (v :: .ref a :: rest)) :=
  va_put X.1 X.2.1 X.2.2.2.2.2.1 hin ty0 hty hnm X.2.2.2.2.1 X.2.2.2.2.2.2.2.1.1 hH.1 hH.2.1 hH.2.2 q0 he hc k hk (X.2.2.2.2.2.1 _ hl) (fun _ h => h) hfin (hty k hk) hn hfit hlen hdg (fun H1 locs1 hP hD hS => kk H1 locs1 ⟨by rw [← hws]; exact hP, by rw [← hws]; exact hD, hS⟩)
/-- arrays -/
theorem a_il (X : mX g y cc n ret p s m args meth c w0) (hH : mH g s w0 ws H locs) {a N : Nat} {f : Nat → Int32} (q0 : Nat) (ha : ws[q0]? = some (a, .inl (g.2.1 0, N, .inl f))) {i : Int32} (hin : vp_in i N) {j : Nat} (hj : j = i.toNatClampNeg) (hdg : decode cc pc = .ok (.iaload, 1))
    (kk : W p l e R s m args below meth c H locs cells slots Q (F0 m (pc + 1) ls (.int (f j) :: rest))) : W p l e R s m args below meth c H locs cells slots Q (F0 m pc ls (.int i :: .ref a :: rest)) := by
  subst hj
  exact va_iald X.1 X.2.1 X.2.2.2.2.2.2.2.1.1 hH.1 q0 0 ha rfl hin hdg kk
theorem a_cl (X : mX g y cc n ret p s m args meth c w0) (hH : mH g s w0 ws H locs) {a N : Nat} {f : Nat → Int32} (q0 : Nat) (ha : ws[q0]? = some (a, .inl (g.2.1 3, N, .inl f))) {i : Int32} (hin : vp_in i N) {j : Nat} (hj : j = i.toNatClampNeg) (hdg : decode cc pc = .ok (.caload, 1))
    (kk : W p l e R s m args below meth c H locs cells slots Q (F0 m (pc + 1) ls (.int (f j) :: rest))) : W p l e R s m args below meth c H locs cells slots Q (F0 m pc ls (.int i :: .ref a :: rest)) := by
  subst hj
  exact va_cald X.1 X.2.1 X.2.2.2.2.2.2.2.1.1 hH.1 q0 3 ha rfl hin hdg kk
theorem a_ll (X : mX g y cc n ret p s m args meth c w0) (hH : mH g s w0 ws H locs) {a N : Nat} {f : Nat → Int64} (q0 : Nat) (ha : ws[q0]? = some (a, .inl (g.2.1 1, N, .inr (.inl f)))) {i : Int32} (hin : vp_in i N) {j : Nat} (hj : j = i.toNatClampNeg) (hdg : decode cc pc = .ok (.laload, 1))
    (kk : W p l e R s m args below meth c H locs cells slots Q (F0 m (pc + 1) ls (.long (f j) :: rest))) : W p l e R s m args below meth c H locs cells slots Q (F0 m pc ls (.int i :: .ref a :: rest)) := by
  subst hj
  exact va_lald X.1 X.2.1 X.2.2.2.2.2.2.2.1.1 hH.1 q0 1 ha rfl hin hdg kk
theorem a_dl (X : mX g y cc n ret p s m args meth c w0) (hH : mH g s w0 ws H locs) {a N : Nat} {f : Nat → UInt64} (q0 : Nat) (ha : ws[q0]? = some (a, .inl (g.2.1 2, N, .inr (.inr (.inr (.inl f)))))) {i : Int32} (hin : vp_in i N) {j : Nat} (hj : j = i.toNatClampNeg) (hdg : decode cc pc = .ok (.daload, 1))
    (kk : W p l e R s m args below meth c H locs cells slots Q (F0 m (pc + 1) ls (.double (f j) :: rest))) : W p l e R s m args below meth c H locs cells slots Q (F0 m pc ls (.int i :: .ref a :: rest)) := by
  subst hj
  exact va_dald X.1 X.2.1 X.2.2.2.2.2.2.2.1.1 hH.1 q0 2 ha rfl hin hdg kk
theorem a_is (X : mX g y cc n ret p s m args meth c w0) (hH : mH g s w0 ws H locs) {a N : Nat} {f : Nat → Int32} (q0 : Nat) (ha : ws[q0]? = some (a, .inl (g.2.1 0, N, .inl f))) {i x : Int32} (hin : vp_in i N) {j : Nat} (hj : j = i.toNatClampNeg) (hws : ws.set q0 (a, .inl (g.2.1 0, N, .inl (upd f j x))) = ws1) (hdg : decode cc pc = .ok (.iastore, 1))
    (kk : ∀ (H1 : Heap) (locs1 : List Loc), mH g s w0 ws1 H1 locs1 → W p l e R s m args below meth c H1 locs1 cells slots Q (F0 m (pc + 1) ls rest)) : W p l e R s m args below meth c H locs cells slots Q (F0 m pc ls (.int x :: .int i :: .ref a :: rest)) := by
  subst hj
  exact va_iast X.1 X.2.1 X.2.2.2.2.2.2.2.1.1 hH.1 hH.2.1 hH.2.2 q0 0 ha rfl hin hdg (fun H1 locs1 hP hD hS => kk H1 locs1 ⟨by rw [← hws]; exact hP, by rw [← hws]; exact hD, hS⟩)
theorem a_ls (X : mX g y cc n ret p s m args meth c w0) (hH : mH g s w0 ws H locs) {a N : Nat} {f : Nat → Int64} (q0 : Nat) (ha : ws[q0]? = some (a, .inl (g.2.1 1, N, .inr (.inl f)))) {i : Int32} {x : Int64} (hin : vp_in i N) {j : Nat} (hj : j = i.toNatClampNeg) (hws : ws.set q0 (a, .inl (g.2.1 1, N, .inr (.inl (vp_updL f j x)))) = ws1) (hdg : decode cc pc = .ok (.lastore, 1))
    (kk : ∀ (H1 : Heap) (locs1 : List Loc), mH g s w0 ws1 H1 locs1 → W p l e R s m args below meth c H1 locs1 cells slots Q (F0 m (pc + 1) ls rest)) : W p l e R s m args below meth c H locs cells slots Q (F0 m pc ls (.long x :: .int i :: .ref a :: rest)) := by
  subst hj
  exact va_last X.1 X.2.1 X.2.2.2.2.2.2.2.1.1 hH.1 hH.2.1 hH.2.2 q0 1 ha rfl hin hdg (fun H1 locs1 hP hD hS => kk H1 locs1 ⟨by rw [← hws]; exact hP, by rw [← hws]; exact hD, hS⟩)
theorem a_ds (X : mX g y cc n ret p s m args meth c w0) (hH : mH g s w0 ws H locs) {a N : Nat} {f : Nat → UInt64} (q0 : Nat) (ha : ws[q0]? = some (a, .inl (g.2.1 2, N, .inr (.inr (.inr (.inl f)))))) {i : Int32} {x : UInt64} (hin : vp_in i N) {j : Nat} (hj : j = i.toNatClampNeg) (hws : ws.set q0 (a, .inl (g.2.1 2, N, .inr (.inr (.inr (.inl (vf_upd f j x)))))) = ws1) (hdg : decode cc pc = .ok (.dastore, 1))
    (kk : ∀ (H1 : Heap) (locs1 : List Loc), mH g s w0 ws1 H1 locs1 → W p l e R s m args below meth c H1 locs1 cells slots Q (F0 m (pc + 1) ls rest)) : W p l e R s m args below meth c H locs cells slots Q (F0 m pc ls (.double x :: .int i :: .ref a :: rest)) := by
  subst hj
  exact va_dast X.1 X.2.1 X.2.2.2.2.2.2.2.1.1 hH.1 hH.2.1 hH.2.2 q0 2 ha rfl hin hdg (fun H1 locs1 hP hD hS => kk H1 locs1 ⟨by rw [← hws]; exact hP, by rw [← hws]; exact hD, hS⟩)
theorem a_len (X : mX g y cc n ret p s m args meth c w0) (hH : mH g s w0 ws H locs) {a : Nat} {cA : ClassId} {x : vp_A} (q0 t0 : Nat) (ha : ws[q0]? = some (a, .inl (cA, x))) {ty : FieldType} (ht : (gT g)[t0]? = some (cA, ty)) {v : Int32} (hv : Int32.ofNat x.1 = v) (hdg : decode cc pc = .ok (.arraylength, 1))
    (kk : W p l e R s m args below meth c H locs cells slots Q (F0 m (pc + 1) ls (.int v :: rest))) : W p l e R s m args below meth c H locs cells slots Q (F0 m pc ls (.ref a :: rest)) :=
  va_alen X.1 X.2.1 X.2.2.2.2.2.2.2.1.1 hH.1 q0 t0 ha ht hv hdg kk
/-- a row of a grid -/
theorem a_al (X : mX g y cc n ret p s m args meth c w0) (hH : mH g s w0 ws H locs) {a N : Nat} {cA : ClassId} {ty : FieldType} {f : Nat → Option Nat} (q0 t0 : Nat) (ha : ws[q0]? = some (a, .inl (cA, N, .inr (.inr (.inr (.inr f)))))) (ht : (gT g)[t0]? = some (cA, .array ty)) {i : Int32} (hin : vp_in i N) {j : Nat} (hj : j = i.toNatClampNeg) {v : Value} (hv : va_rf (f j) = v) (hdg : decode cc pc = .ok (.aaload, 1))
    (kk : W p l e R s m args below meth c H locs cells slots Q (F0 m (pc + 1) ls (v :: rest))) : W p l e R s m args below meth c H locs cells slots Q (F0 m pc ls (.int i :: .ref a :: rest)) := by
  subst hv
  subst hj
  have hlt : i.toNatClampNeg < N := vp_lt hin
  exact W.aald (v := va_rf (f i.toNatClampNeg)) (ty := .array ty) X.1 X.2.1 (hH.1 q0 _ ha) ((X.2.2.2.2.2.2.2.1.1.2 t0 _ ht).1 N (fun j => va_rf (f j))) rfl (fun q => by cases q) (by show ¬ (i < 0 ∨ (arrV _ _ _).slots.size ≤ _); rw [arrV_size]; exact hin) (by show (arrV _ _ _).slots[_]? = _; rw [arrV_read _ _ hlt]) rfl rfl hdg kk
/-- stores into locals, the value under its name -/
theorem s_i (X : mX g y cc n ret p s m args meth c w0) {i : Nat} {x v : Int32} {lv lv' : List (Nat × Value)} (hl : lv_has ls n lv) (hv : v = x) (hdg : decode cc pc = .ok (.istore i, 2)) (hn : i < n) (hlv : (i, Value.int v) :: lv.filter (fun q => !(q.1 == i) && !(q.1 + 1 == i && q.2.category == 2)) = lv')
    (kk : ∀ ls' : Array Slot, lv_has ls' n lv' → W p l e R s m args below meth c H locs cells slots Q (F0 m (pc + 2) ls' rest)) : W p l e R s m args below meth c H locs cells slots Q (F0 m pc ls (.int x :: rest)) := by
  subst hv
  exact lv_istore X.1 X.2.1 hdg hl hn hlv kk
theorem s_in (X : mX g y cc n ret p s m args meth c w0) {i : Nat} {k : Fin 4} {x v : Int32} {lv lv' : List (Nat × Value)} (hl : lv_has ls n lv) (hv : v = x) (hdg : decode cc pc = .ok (.istore_n k, 1)) (hi : (k : Nat) = i) (hn : i < n) (hlv : (i, Value.int v) :: lv.filter (fun q => !(q.1 == i) && !(q.1 + 1 == i && q.2.category == 2)) = lv')
    (kk : ∀ ls' : Array Slot, lv_has ls' n lv' → W p l e R s m args below meth c H locs cells slots Q (F0 m (pc + 1) ls' rest)) : W p l e R s m args below meth c H locs cells slots Q (F0 m pc ls (.int x :: rest)) := by
  subst hv
  exact lv_istore_n X.1 X.2.1 hdg hi hl hn hlv kk
theorem s_l (X : mX g y cc n ret p s m args meth c w0) {i : Nat} {x v : Int64} {lv lv' : List (Nat × Value)} (hl : lv_has ls n lv) (hv : v = x) (hdg : decode cc pc = .ok (.lstore i, 2)) (hn : i + 1 < n) (hlv : (i, Value.long v) :: lv.filter (fun q => !(q.1 == i) && (!(q.1 == i + 1) && !(q.1 + 1 == i && q.2.category == 2))) = lv')
    (kk : ∀ ls' : Array Slot, lv_has ls' n lv' → W p l e R s m args below meth c H locs cells slots Q (F0 m (pc + 2) ls' rest)) : W p l e R s m args below meth c H locs cells slots Q (F0 m pc ls (.long x :: rest)) := by
  subst hv
  exact lv_lstore X.1 X.2.1 hdg hl hn hlv kk
theorem s_ln (X : mX g y cc n ret p s m args meth c w0) {i : Nat} {k : Fin 4} {x v : Int64} {lv lv' : List (Nat × Value)} (hl : lv_has ls n lv) (hv : v = x) (hdg : decode cc pc = .ok (.lstore_n k, 1)) (hi : (k : Nat) = i) (hn : i + 1 < n) (hlv : (i, Value.long v) :: lv.filter (fun q => !(q.1 == i) && (!(q.1 == i + 1) && !(q.1 + 1 == i && q.2.category == 2))) = lv')
    (kk : ∀ ls' : Array Slot, lv_has ls' n lv' → W p l e R s m args below meth c H locs cells slots Q (F0 m (pc + 1) ls' rest)) : W p l e R s m args below meth c H locs cells slots Q (F0 m pc ls (.long x :: rest)) := by
  subst hv
  exact lv_lstore_n X.1 X.2.1 hdg hi hl hn hlv kk
theorem s_d (X : mX g y cc n ret p s m args meth c w0) {i : Nat} {x v : UInt64} {lv lv' : List (Nat × Value)} (hl : lv_has ls n lv) (hv : v = x) (hdg : decode cc pc = .ok (.dstore i, 2)) (hn : i + 1 < n) (hlv : (i, Value.double v) :: lv.filter (fun q => !(q.1 == i) && (!(q.1 == i + 1) && !(q.1 + 1 == i && q.2.category == 2))) = lv')
    (kk : ∀ ls' : Array Slot, lv_has ls' n lv' → W p l e R s m args below meth c H locs cells slots Q (F0 m (pc + 2) ls' rest)) : W p l e R s m args below meth c H locs cells slots Q (F0 m pc ls (.double x :: rest)) := by
  subst hv
  exact lv_dstore X.1 X.2.1 hdg hl hn hlv kk
theorem s_dn (X : mX g y cc n ret p s m args meth c w0) {i : Nat} {k : Fin 4} {x v : UInt64} {lv lv' : List (Nat × Value)} (hl : lv_has ls n lv) (hv : v = x) (hdg : decode cc pc = .ok (.dstore_n k, 1)) (hi : (k : Nat) = i) (hn : i + 1 < n) (hlv : (i, Value.double v) :: lv.filter (fun q => !(q.1 == i) && (!(q.1 == i + 1) && !(q.1 + 1 == i && q.2.category == 2))) = lv')
    (kk : ∀ ls' : Array Slot, lv_has ls' n lv' → W p l e R s m args below meth c H locs cells slots Q (F0 m (pc + 1) ls' rest)) : W p l e R s m args below meth c H locs cells slots Q (F0 m pc ls (.double x :: rest)) := by
  subst hv
  exact lv_dstore_n X.1 X.2.1 hdg hi hl hn hlv kk
theorem s_inc (X : mX g y cc n ret p s m args meth c w0) {i k : Nat} {d : Int} {x v : Int32} {lv lv' : List (Nat × Value)} (hl : lv_has ls n lv) (hk : lv[k]? = some (i, .int x)) (hv : v = x + Int32.ofInt d) (hdg : decode cc pc = .ok (.iinc i d, 3)) (hn : i < n) (hlv : (i, Value.int v) :: lv.filter (fun q => !(q.1 == i) && !(q.1 + 1 == i && q.2.category == 2)) = lv')
    (kk : ∀ ls' : Array Slot, lv_has ls' n lv' → W p l e R s m args below meth c H locs cells slots Q (F0 m (pc + 3) ls' rest)) : W p l e R s m args below meth c H locs cells slots Q (F0 m pc ls rest) :=
  lv_iinc X.1 X.2.1 hdg hl hk hv.symm hn hlv kk
end CALLS
