/-! ===== BEGIN words of one list among another's, by their places ===== -/
theorem goodIn_r {big : List Cond} (ws : List Cond) (ps : List Nat) (hp : ws = ps.filterMap (fun i => big[i]?)) (h : ws.all goodWord = true) : GoodIn big ws := by
  intro w hw
  have h1 := List.all_eq_true.mp h w hw
  rw [hp] at hw
  obtain ⟨i, -, hi⟩ := List.mem_filterMap.mp hw
  have hm : w ∈ big := by first | exact List.mem_of_getElem? hi | exact List.getElem?_mem hi
  exact ⟨hm, good_of_word h1⟩
theorem goodIn_app {big a b : List Cond} (ha : GoodIn big a) (hb : GoodIn big b) : GoodIn big (a ++ b) := fun w h => (List.mem_append.mp h).elim (ha w) (hb w)
theorem goodIn_ca {big a b : List Cond} {c : Cond} (ha : GoodIn big (c :: a)) (hb : GoodIn big b) : GoodIn big (c :: (a ++ b)) := fun w h => (List.mem_cons.mp h).elim (fun e => ha w (List.mem_cons.mpr (Or.inl e))) (fun h => (List.mem_append.mp h).elim (fun h => ha w (List.mem_cons.mpr (Or.inr h))) (hb w))
theorem goodIn_sub {big ws : List Cond} (hm : ∀ w ∈ ws, w ∈ big) (h : ws.all goodWord = true) : GoodIn big ws := fun w hw => ⟨hm w hw, good_of_word (List.all_eq_true.mp h w hw)⟩
/-! ===== END ===== -/

/-! ===== BEGIN new T[n][m]: the outer array a place, the inner ones among the pooled ===== -/
/-- f, but v at every address of l -/
def vr_up {α : Type} (f : Nat → α) (l : List Nat) (v : α) : Nat → α := fun a => if a ∈ l then v else f a
theorem vr_up_in {α : Type} {f : Nat → α} {l : List Nat} {v : α} {a : Nat} (h : a ∈ l) : vr_up f l v a = v := if_pos h
theorem vr_up_ne {α : Type} {f : Nat → α} {l : List Nat} {v : α} {a : Nat} (h : a ∉ l) : vr_up f l v a = f a := if_neg h
theorem vr_rows {L l : List Nat} {f : Nat → va_E} {e : va_E} (h : ∀ a, a ∈ l → a ∉ L) : va_pl L f ++ l.map (fun a => (a, e)) = va_pl (L ++ l) (vr_up f l e) := by
  unfold va_pl
  rw [List.map_append]
  congr 1
  · apply List.map_congr_left
    intro a ha
    rw [vr_up_ne (fun q => h a q ha)]
  · apply List.map_congr_left
    intro a ha
    rw [vr_up_in ha]
theorem vr_lay {X rows : va_W} {x : Nat × va_E} {pl : va_W} {D : va_G} {cl : List vw_C} {H : Heap} (hP : va_P D cl (((X ++ pl) ++ [x]) ++ rows) H) : va_P D cl ((X ++ [x]) ++ (pl ++ rows)) H := by
  rw [List.append_assoc (X ++ pl)] at hP
  have h := va_P.swap hP
  rw [← List.append_assoc X] at h
  have h2 := va_P.swap h
  rw [List.append_assoc (X ++ [x])] at h2
  exact h2
theorem vr_layD {X rows : va_W} {x : Nat × va_E} {pl : va_W} {A : Nat → Prop} (hD : va_D A (((X ++ pl) ++ [x]) ++ rows)) : va_D A ((X ++ [x]) ++ (pl ++ rows)) := by
  rw [List.append_assoc (X ++ pl)] at hD
  have h := va_D.swap hD
  rw [← List.append_assoc X] at h
  have h2 := va_D.swap h
  rw [List.append_assoc (X ++ [x])] at h2
  exact h2
theorem vr_outer (c : ClassId) (N h0 : Nat) : ∀ i : Nat, Jvm.Free.Multi.outerC c N h0 i = arrV c N (fun j => va_rf (if j < i then some (h0 + 1 + j) else none))
  | 0 => by
    show ({ cls := c, slots := Array.replicate N .null, vm := .none } : Cell) = _
    rw [arrV_new]
    refine congrArg (arrV c N) (funext fun j => ?_)
    simp [va_rf]
  | i + 1 => by
    show (Jvm.Free.Multi.outerC c N h0 i).setSlot i (.ref (h0 + 1 + i)) = _
    rw [vr_outer c N h0 i, arrV_store]
    refine congrArg (arrV c N) (funext fun j => ?_)
    by_cases e : j = i
    · subst e
      simp [updV, va_rf]
    · by_cases h : j < i
      · simp [updV, e, h, Nat.lt_succ_of_lt h]
      · simp [updV, e, h, show ¬ j < i + 1 by omega]
section VGM
variable {p : Program} {l : Launch} {e : Env} {R : Room} {s : State} {m : MethodId} {args : Array Value} {below : List Frame} {meth : Method} {c : Code} {H : Heap} {locs : List Loc} {cells slots : Nat} {Q : State → Prop}
variable {cc : ByteArray} {pc : Nat} {ls : Array Slot} {rest : List Value} {D : va_G} {cl : List vw_C} {A : Nat → Prop} {a : Nat} {tys : List (ClassId × FieldType)} {ws : va_W} {H0 : Heap}
theorem va_mna {X : va_W} {L : List Nat} {f : Nat → va_E} {cc : ByteArray} (hexec : p.tables.exec = Jvm.exec) (hb : c.code = cc) {own : String} {index : Nat} {ty : FieldType} {cy : ClassId} (hown : s.vm.findClass own = some m.cls) (hclink : (Cond.classLink own index ("[" ++ (FieldType.array ty).toString)).before args s = true) (hover : va_AOA ty s) (harr : (Cond.arrayClass ty).before args s = true) (hcy : s.vm.findClass (FieldType.array ty).toString = some cy)
    (hK : va_K D cl tys s) (hP : va_P D cl (X ++ va_pl L f) H) (hD : va_D A (X ++ va_pl L f)) (hS : va_S A H0 H locs) (hA : ∀ q, H0.size ≤ q → A q) {n k : Int32} {N' K' : Nat} {z : vp_A} (hn : ¬ n < 0) (hk : ¬ k < 0) (hN : n.toNatClampNeg = N') (hM : k.toNatClampNeg = K')
    (hb1 : N' * 4 ≤ 536870912) (hb2 : K' * componentBytes ty ≤ 536870912) (hb3 : K' ≤ 536870912) (hdf : fits ty (defaultValue ty) = true) (hdd : (defaultValue ty).isDefault = true) (hcells : cells + (1 + N') ≤ R.cells) (hslots : slots + (N' + N' * K') ≤ R.slots) (hz : ∀ c : ClassId, Jvm.Free.Multi.innerC c K' (defaultValue ty) = vp_cell c z) (hdg : decode cc pc = .ok (.multianewarray index 2, 4))
    (kk : ∀ (q : Nat) (r : Nat → Nat) (cA : ClassId) (H1 : Heap), (∀ i j : Nat, i < N' → j < N' → r i = r j → i = j) → (∀ i : Nat, i < N' → r i ∉ L) → va_K D cl (tys ++ [(cA, .array ty)]) s →
      va_P D cl ((X ++ [(q, .inl (cA, N', .inr (.inr (.inr (.inr (fun i => if i < N' then some (r i) else none))))))]) ++ va_pl (L ++ (List.range N').map r) (vr_up f ((List.range N').map r) (.inl (cy, z)))) H1 → va_D A ((X ++ [(q, .inl (cA, N', .inr (.inr (.inr (.inr (fun i => if i < N' then some (r i) else none))))))]) ++ va_pl (L ++ (List.range N').map r) (vr_up f ((List.range N').map r) (.inl (cy, z)))) → va_S A H0 H1 locs →
      W p l e R s m args below meth c H1 locs (cells + 1 + N') (slots + N' + N' * K') Q (F0 m (pc + 4) ls (.ref q :: rest))) : W p l e R s m args below meth c H locs cells slots Q (F0 m pc ls (.int k :: .int n :: rest)) := by
  subst hN
  subst hM
  intro T hT Xs
  obtain ⟨vm₁, cA, comp, -, fA, fC, hO, -, X', step⟩ := Xs.multianewarray2F hexec hown hclink (va_AOA.use hover) harr (g := F0 m pc ls (.int k :: .int n :: rest)) rfl (by rw [hb]; exact hdg) rfl hn hk hb1 hb2 hb3 hdf hdd hcells hslots
  have ec : some cy = some comp := hcy.symm.trans fC
  cases ec
  generalize hF : Jvm.Free.Multi.fill (T.setVm vm₁) cA cy n.toNatClampNeg k.toNatClampNeg (defaultValue ty) n.toNatClampNeg = F at X' step
  have hTh : (T.setVm vm₁).heap = H := hT
  obtain ⟨f1, f2, -, -⟩ := Jvm.Free.Multi.fill_facts (T.setVm vm₁) cA cy n.toNatClampNeg k.toNatClampNeg (defaultValue ty) n.toNatClampNeg
  rw [hF, hTh] at f1 f2
  have hold : ∀ x : Nat, x < H.size → F.heap[x]? = H[x]? := fun x hx => by
    have := Jvm.Free.Multi.fill_old (T.setVm vm₁) cA cy n.toNatClampNeg k.toNatClampNeg (defaultValue ty) (a := x) (by rw [hTh]; exact hx) n.toNatClampNeg
    rw [hF, hTh] at this
    exact this
  have hrow : ∀ j : Nat, j < n.toNatClampNeg → F.heap[H.size + 1 + j]? = some (vp_cell cy z) := fun j hj => by
    have := Jvm.Free.Multi.fill_inner (T.setVm vm₁) cA cy n.toNatClampNeg k.toNatClampNeg (defaultValue ty) n.toNatClampNeg j hj
    rw [hF, hTh, hz] at this
    exact this
  have hout : Jvm.Free.Multi.outerC cA n.toNatClampNeg H.size n.toNatClampNeg = vp_cell cA (n.toNatClampNeg, .inr (.inr (.inr (.inr (fun i => if i < n.toNatClampNeg then some (H.size + 1 + i) else none))))) := by
    rw [vp_cell_q]
    exact vr_outer cA n.toNatClampNeg H.size n.toNatClampNeg
  rw [hout] at f2
  have hlt : ∀ a, a ∈ L → a < H.size := fun a ha => by
    obtain ⟨k9, hk9⟩ := va_pl_get (X := X) (f := f) ha
    exact (hP k9 _ hk9).lt
  have hnl : ∀ i : Nat, i < n.toNatClampNeg → H.size + 1 + i ∉ L := fun i _ h => by
    have := hlt _ h
    omega
  have hnm : ∀ a, a ∈ (List.range n.toNatClampNeg).map (fun i => H.size + 1 + i) → a ∉ L := fun a ha h => by
    obtain ⟨i, -, rfl⟩ := List.mem_map.mp ha
    have := hlt _ h
    omega
  have hP0 : va_P D cl (X ++ va_pl L f) F.heap := hP.kept (fun k9 x hx => hold x.1 ((hP k9 x hx).lt))
  have hP1 : va_P D cl ((X ++ va_pl L f) ++ [(H.size, .inl (cA, n.toNatClampNeg, .inr (.inr (.inr (.inr (fun i => if i < n.toNatClampNeg then some (H.size + 1 + i) else none))))))]) F.heap := hP0.app (fun k9 x hx => by
    have h0 : k9 < 1 := (List.getElem?_eq_some_iff.mp hx).1
    rw [show k9 = 0 by omega] at hx
    cases hx
    exact f2)
  have hP2 : va_P D cl (((X ++ va_pl L f) ++ [(H.size, .inl (cA, n.toNatClampNeg, .inr (.inr (.inr (.inr (fun i => if i < n.toNatClampNeg then some (H.size + 1 + i) else none))))))]) ++ ((List.range n.toNatClampNeg).map (fun i => H.size + 1 + i)).map (fun a => (a, .inl (cy, z)))) F.heap := hP1.app (fun k9 x hx => by
    obtain ⟨a, ha, rfl⟩ := List.mem_map.mp (List.mem_of_getElem? hx)
    obtain ⟨i, hi, rfl⟩ := List.mem_map.mp ha
    exact hrow i (List.mem_range.mp hi))
  have hD2 : va_D A (((X ++ va_pl L f) ++ [(H.size, .inl (cA, n.toNatClampNeg, .inr (.inr (.inr (.inr (fun i => if i < n.toNatClampNeg then some (H.size + 1 + i) else none))))))]) ++ ((List.range n.toNatClampNeg).map (fun i => H.size + 1 + i)).map (fun a => (a, .inl (cy, z)))) := by
    have hD1 := hD.push (e := .inl (cA, n.toNatClampNeg, .inr (.inr (.inr (.inr (fun i => if i < n.toNatClampNeg then some (H.size + 1 + i) else none)))))) hP rfl (hA _ hS.1)
    generalize hW1 : (X ++ va_pl L f) ++ [(H.size, .inl (cA, n.toNatClampNeg, .inr (.inr (.inr (.inr (fun i => if i < n.toNatClampNeg then some (H.size + 1 + i) else none))))))] = W1 at hD1 hP1 ⊢
    have hle : ∀ (k9 : Nat) (x : Nat × va_E), W1[k9]? = some x → x.1 ≤ H.size := fun k9 x hx => by
      rw [← hW1] at hx
      by_cases hl : k9 < (X ++ va_pl L f).length
      · rw [List.getElem?_append_left hl] at hx
        exact Nat.le_of_lt ((hP k9 x hx).lt)
      · rw [List.getElem?_append_right (by omega)] at hx
        have h0 : k9 - (X ++ va_pl L f).length < 1 := (List.getElem?_eq_some_iff.mp hx).1
        rw [show k9 - (X ++ va_pl L f).length = 0 by omega] at hx
        cases hx
        exact Nat.le_refl _
    have hr : ∀ (k9 : Nat) (x : Nat × va_E), (((List.range n.toNatClampNeg).map (fun i => H.size + 1 + i)).map (fun a => ((a, .inl (cy, z)) : Nat × va_E)))[k9]? = some x → x.1 = H.size + 1 + k9 := fun k9 x hx => by
      rw [List.getElem?_map, List.getElem?_map] at hx
      by_cases h9 : k9 < n.toNatClampNeg
      · rw [List.getElem?_range h9] at hx
        cases hx
        rfl
      · have hn0 : (List.range n.toNatClampNeg)[k9]? = none := List.getElem?_eq_none (by rw [List.length_range]; omega)
        rw [hn0] at hx
        cases hx
    refine ⟨fun i j x y hi hj hxy => ?_, fun k9 x hx => ?_⟩
    · by_cases h1 : i < W1.length <;> by_cases h2 : j < W1.length
      · rw [List.getElem?_append_left h1] at hi
        rw [List.getElem?_append_left h2] at hj
        exact hD1.1 i j x y hi hj hxy
      · rw [List.getElem?_append_left h1] at hi
        rw [List.getElem?_append_right (by omega)] at hj
        have := hle _ _ hi
        have := hr _ _ hj
        omega
      · rw [List.getElem?_append_right (by omega)] at hi
        rw [List.getElem?_append_left h2] at hj
        have := hle _ _ hj
        have := hr _ _ hi
        omega
      · rw [List.getElem?_append_right (by omega)] at hi hj
        have := hr _ _ hi
        have := hr _ _ hj
        omega
    · by_cases h1 : k9 < W1.length
      · rw [List.getElem?_append_left h1] at hx
        exact hD1.2 k9 x hx
      · rw [List.getElem?_append_right (by omega)] at hx
        have := hr _ _ hx
        exact hA _ (by have := hS.1; omega)
  have hAr : ArrOfT s cA (.array ty) := fun N9 z9 => by
    obtain ⟨-, k9, hk9, cm9, hkk9⟩ := (hO 0 0 0).1
    exact ⟨(fun q hq => by cases hq), k9, hk9, cm9, hkk9⟩
  have hK2 : va_K D cl (tys ++ [(cA, .array ty)]) s := ⟨hK.1, fun k9 x hx => by
    by_cases hl : k9 < tys.length
    · rw [List.getElem?_append_left hl] at hx
      exact hK.2 k9 x hx
    · rw [List.getElem?_append_right (by omega)] at hx
      have h0 : k9 - tys.length < 1 := (List.getElem?_eq_some_iff.mp hx).1
      rw [show k9 - tys.length = 0 by omega] at hx
      cases hx
      exact ⟨hAr, fA⟩⟩
  obtain ⟨t, a1, b1⟩ := kk H.size (fun i => H.size + 1 + i) cA F.heap (fun i j _ _ h => by have h9 : H.size + 1 + i = H.size + 1 + j := h; omega) hnl hK2 (by rw [← vr_rows hnm]; exact vr_lay hP2) (by rw [← vr_rows hnm]; exact vr_layD hD2) ⟨by rw [f1]; have := hS.1; omega, fun x h1 h2 => (hold x (Nat.lt_of_lt_of_le h1 hS.1)).trans (hS.2.1 x h1 h2), hS.2.2⟩ F rfl X'
  refine ⟨t, step t ?_, b1⟩
  have e : T.heap.size = H.size := by rw [hT]
  rw [e]
  exact a1
end VGM
/-! ===== END ===== -/

def RX0 : String := "WalkTimes$Equations"
def TX0 : u_T := fun k => match k with
  | 0 => ("WalkTimes$Equations", "above", "[J", true)
  | 1 => ("WalkTimes$Equations", "below", "J", false)
  | 2 => ("WalkTimes$Equations", "rows", "[[J", true)
  | 3 => ("WalkTimes$Equations", "rowOf", "[I", true)
  | 4 => ("WalkTimes$Equations", "due", "[J", true)
  | _ => ("WalkTimes$Equations", "size", "I", false)
def tyX0 : Nat → FieldType := fun k => match k with
  | 0 => .array .long
  | 1 => .long
  | 2 => .array (.array .long)
  | 3 => .array .int
  | 4 => .array .long
  | _ => .int
abbrev wsX00 : List Cond := u_ws RX0 TX0 6
theorem nmX0 : ∀ a, a < 6 → ∀ b, b < 6 → a ≠ b → (TX0 a).2.1 ≠ (TX0 b).2.1 := by decide +kernel
theorem tyX0_ok : ∀ k, k < 6 → parseFieldDescriptor (TX0 k).2.2.1 = some (tyX0 k) := by decide +kernel
abbrev cX0_init : ByteArray := prog_2_method_1_code
def yX0_init : MethodName := ⟨RX0, "<init>", "()V"⟩
abbrev cX0_timesTo : ByteArray := prog_2_method_2_code
def yX0_timesTo : MethodName := ⟨RX0, "timesTo", "(LWalkTimes$Net;II)V"⟩
abbrev cX0_stepsTo : ByteArray := prog_2_method_3_code
def yX0_stepsTo : MethodName := ⟨RX0, "stepsTo", "(LWalkTimes$Net;II)V"⟩
abbrev cX0_currentTo : ByteArray := prog_2_method_4_code
def yX0_currentTo : MethodName := ⟨RX0, "currentTo", "(LWalkTimes$Net;III)V"⟩
abbrev cX0_aheadOf : ByteArray := prog_2_method_5_code
def yX0_aheadOf : MethodName := ⟨RX0, "aheadOf", "(LWalkTimes$Net;III)V"⟩
abbrev cX0_nothingIsDue : ByteArray := prog_2_method_6_code
def yX0_nothingIsDue : MethodName := ⟨RX0, "nothingIsDue", "()V"⟩
abbrev cX0_solve : ByteArray := prog_2_method_7_code
def yX0_solve : MethodName := ⟨RX0, "solve", "(LWalkTimes$Net;II)V"⟩
abbrev cX0_layRows : ByteArray := prog_2_method_8_code
def yX0_layRows : MethodName := ⟨RX0, "layRows", "(I)V"⟩
abbrev cX0_addWay : ByteArray := prog_2_method_9_code
def yX0_addWay : MethodName := ⟨RX0, "addWay", "(III)V"⟩
abbrev cX0_clearColumn : ByteArray := prog_2_method_10_code
def yX0_clearColumn : MethodName := ⟨RX0, "clearColumn", "(IJ)V"⟩
def RX1 : String := "WalkTimes$ListRows"
def TX1 : u_T := fun k => match k with
  | 0 => ("WalkTimes$ListRows", "rows", "[[J", true)
  | _ => ("WalkTimes$ListRows", "sizes", "[I", true)
def tyX1 : Nat → FieldType := fun k => match k with
  | 0 => .array (.array .long)
  | _ => .array .int
abbrev wsX10 : List Cond := u_ws RX1 TX1 2
theorem nmX1 : ∀ a, a < 2 → ∀ b, b < 2 → a ≠ b → (TX1 a).2.1 ≠ (TX1 b).2.1 := by decide +kernel
theorem tyX1_ok : ∀ k, k < 2 → parseFieldDescriptor (TX1 k).2.2.1 = some (tyX1 k) := by decide +kernel
abbrev cX1_init : ByteArray := prog_3_method_1_code
def yX1_init : MethodName := ⟨RX1, "<init>", "()V"⟩
abbrev cX1_make : ByteArray := prog_3_method_2_code
def yX1_make : MethodName := ⟨RX1, "make", "(II)I"⟩
abbrev cX1_refusalOf : ByteArray := prog_3_method_3_code
def yX1_refusalOf : MethodName := ⟨RX1, "refusalOf", "(I)I"⟩
abbrev cX1_refusalOf_ : ByteArray := prog_3_method_4_code
def yX1_refusalOf_ : MethodName := ⟨RX1, "refusalOf", "(II)I"⟩
abbrev cX1_hasPlace : ByteArray := prog_3_method_5_code
def yX1_hasPlace : MethodName := ⟨RX1, "hasPlace", "(II)Z"⟩
def RX2 : String := "WalkTimes$Lot"
def TX2 : u_T := fun k => match k with
  | 0 => ("WalkTimes$Lot", "seed", "I", false)
  | _ => ("WalkTimes$Lot", "weights", "[I", true)
def tyX2 : Nat → FieldType := fun k => match k with
  | 0 => .int
  | _ => .array .int
abbrev wsX20 : List Cond := u_ws RX2 TX2 2
theorem nmX2 : ∀ a, a < 2 → ∀ b, b < 2 → a ≠ b → (TX2 a).2.1 ≠ (TX2 b).2.1 := by decide +kernel
theorem tyX2_ok : ∀ k, k < 2 → parseFieldDescriptor (TX2 k).2.2.1 = some (tyX2 k) := by decide +kernel
abbrev cX2_init : ByteArray := prog_4_method_1_code
def yX2_init : MethodName := ⟨RX2, "<init>", "()V"⟩
abbrev cX2_begin : ByteArray := prog_4_method_2_code
def yX2_begin : MethodName := ⟨RX2, "begin", "(LWalkTimes$Net;I)V"⟩
abbrev cX2_walk : ByteArray := prog_4_method_3_code
def yX2_walk : MethodName := ⟨RX2, "walk", "(LWalkTimes$Net;II)I"⟩
abbrev cX2_draw : ByteArray := prog_4_method_4_code
def yX2_draw : MethodName := ⟨RX2, "draw", "(I)I"⟩
abbrev cX2_wayBy : ByteArray := prog_4_method_5_code
def yX2_wayBy : MethodName := ⟨RX2, "wayBy", "(LWalkTimes$Net;II)I"⟩
def RX3 : String := "WalkTimes$Net"
def TX3 : u_T := fun k => match k with
  | 0 => ("WalkTimes$Net", "points", "I", false)
  | 1 => ("WalkTimes$Net", "ways", "I", false)
  | 2 => ("WalkTimes$Net", "first", "[I", true)
  | 3 => ("WalkTimes$Net", "second", "[I", true)
  | 4 => ("WalkTimes$Net", "kinds", "[I", true)
  | 5 => ("WalkTimes$Net", "figures", "[I", true)
  | 6 => ("WalkTimes$Net", "loads", "[I", true)
  | _ => ("WalkTimes$Net", "lengths", "[I", true)
def tyX3 : Nat → FieldType := fun k => match k with
  | 0 => .int
  | 1 => .int
  | 2 => .array .int
  | 3 => .array .int
  | 4 => .array .int
  | 5 => .array .int
  | 6 => .array .int
  | _ => .array .int
abbrev wsX30 : List Cond := u_ws RX3 TX3 8
theorem nmX3 : ∀ a, a < 8 → ∀ b, b < 8 → a ≠ b → (TX3 a).2.1 ≠ (TX3 b).2.1 := by decide +kernel
theorem tyX3_ok : ∀ k, k < 8 → parseFieldDescriptor (TX3 k).2.2.1 = some (tyX3 k) := by decide +kernel
abbrev cX3_init : ByteArray := prog_5_method_1_code
def yX3_init : MethodName := ⟨RX3, "<init>", "()V"⟩
abbrev cX3_isPoint : ByteArray := prog_5_method_2_code
def yX3_isPoint : MethodName := ⟨RX3, "isPoint", "(I)Z"⟩
abbrev cX3_isWay : ByteArray := prog_5_method_3_code
def yX3_isWay : MethodName := ⟨RX3, "isWay", "(I)Z"⟩
abbrev cX3_allPoints : ByteArray := prog_5_method_4_code
def yX3_allPoints : MethodName := ⟨RX3, "allPoints", "()I"⟩
abbrev cX3_allWays : ByteArray := prog_5_method_5_code
def yX3_allWays : MethodName := ⟨RX3, "allWays", "()I"⟩
abbrev cX3_weight : ByteArray := prog_5_method_6_code
def yX3_weight : MethodName := ⟨RX3, "weight", "(I)I"⟩
abbrev cX3_minutes : ByteArray := prog_5_method_7_code
def yX3_minutes : MethodName := ⟨RX3, "minutes", "(I)I"⟩
abbrev cX3_touches : ByteArray := prog_5_method_8_code
def yX3_touches : MethodName := ⟨RX3, "touches", "(II)Z"⟩
abbrev cX3_otherEnd : ByteArray := prog_5_method_9_code
def yX3_otherEnd : MethodName := ⟨RX3, "otherEnd", "(II)I"⟩
abbrev cX3_weightsAt : ByteArray := prog_5_method_10_code
def yX3_weightsAt : MethodName := ⟨RX3, "weightsAt", "(I)I"⟩
abbrev cX3_layWeights : ByteArray := prog_5_method_11_code
def yX3_layWeights : MethodName := ⟨RX3, "layWeights", "([I)V"⟩
abbrev cX3_weightsOfAll : ByteArray := prog_5_method_12_code
def yX3_weightsOfAll : MethodName := ⟨RX3, "weightsOfAll", "()I"⟩
abbrev cX3_reached : ByteArray := prog_5_method_13_code
def yX3_reached : MethodName := ⟨RX3, "reached", "(II)I"⟩
abbrev cX3_sets : ByteArray := prog_5_method_14_code
def yX3_sets : MethodName := ⟨RX3, "sets", "()I"⟩
abbrev cX3_copy : ByteArray := prog_5_method_15_code
def yX3_copy : MethodName := ⟨RX3, "copy", "(LWalkTimes$Net;)V"⟩
abbrev cX3_copyWay : ByteArray := prog_5_method_16_code
def yX3_copyWay : MethodName := ⟨RX3, "copyWay", "(LWalkTimes$Net;II)V"⟩
abbrev cX3_lay : ByteArray := prog_5_method_17_code
def yX3_lay : MethodName := ⟨RX3, "lay", "(IIIII)V"⟩
abbrev cX3_more : ByteArray := prog_5_method_18_code
def yX3_more : MethodName := ⟨RX3, "more", "()I"⟩
abbrev cX3_changePoints : ByteArray := prog_5_method_19_code
def yX3_changePoints : MethodName := ⟨RX3, "changePoints", "(I)I"⟩
abbrev cX3_join : ByteArray := prog_5_method_20_code
def yX3_join : MethodName := ⟨RX3, "join", "(IIII)I"⟩
abbrev cX3_changeKind : ByteArray := prog_5_method_21_code
def yX3_changeKind : MethodName := ⟨RX3, "changeKind", "(III)I"⟩
abbrev cX3_changeLoad : ByteArray := prog_5_method_22_code
def yX3_changeLoad : MethodName := ⟨RX3, "changeLoad", "(II)I"⟩
abbrev cX3_changeLength : ByteArray := prog_5_method_23_code
def yX3_changeLength : MethodName := ⟨RX3, "changeLength", "(II)I"⟩
abbrev cX3_drop : ByteArray := prog_5_method_24_code
def yX3_drop : MethodName := ⟨RX3, "drop", "(I)I"⟩
def RX4 : String := "WalkTimes$Saying"
def TX4 : u_T := fun k => match k with
  | 0 => ("WalkTimes$Saying", "size", "I", false)
  | _ => ("WalkTimes$Saying", "letters", "[I", true)
def tyX4 : Nat → FieldType := fun k => match k with
  | 0 => .int
  | _ => .array .int
abbrev wsX40 : List Cond := u_ws RX4 TX4 2
theorem nmX4 : ∀ a, a < 2 → ∀ b, b < 2 → a ≠ b → (TX4 a).2.1 ≠ (TX4 b).2.1 := by decide +kernel
theorem tyX4_ok : ∀ k, k < 2 → parseFieldDescriptor (TX4 k).2.2.1 = some (tyX4 k) := by decide +kernel
abbrev cX4_init : ByteArray := prog_6_method_1_code
def yX4_init : MethodName := ⟨RX4, "<init>", "()V"⟩
abbrev cX4_addText : ByteArray := prog_6_method_2_code
def yX4_addText : MethodName := ⟨RX4, "addText", "(Ljava/lang/String;)V"⟩
abbrev cX4_addNumber : ByteArray := prog_6_method_3_code
def yX4_addNumber : MethodName := ⟨RX4, "addNumber", "(J)V"⟩
abbrev cX4_addLetter : ByteArray := prog_6_method_4_code
def yX4_addLetter : MethodName := ⟨RX4, "addLetter", "(I)V"⟩
def RX5 : String := "WalkTimes$SlotRows"
def TX5 : u_T := fun k => match k with
  | 0 => ("WalkTimes$SlotRows", "sizes", "[I", true)
  | 1 => ("WalkTimes$SlotRows", "madeFor", "[I", true)
  | 2 => ("WalkTimes$SlotRows", "kinds", "[[I", true)
  | _ => ("WalkTimes$SlotRows", "figures", "[[I", true)
def tyX5 : Nat → FieldType := fun k => match k with
  | 0 => .array .int
  | 1 => .array .int
  | 2 => .array (.array .int)
  | _ => .array (.array .int)
abbrev wsX50 : List Cond := u_ws RX5 TX5 4
theorem nmX5 : ∀ a, a < 4 → ∀ b, b < 4 → a ≠ b → (TX5 a).2.1 ≠ (TX5 b).2.1 := by decide +kernel
theorem tyX5_ok : ∀ k, k < 4 → parseFieldDescriptor (TX5 k).2.2.1 = some (tyX5 k) := by decide +kernel
abbrev cX5_init : ByteArray := prog_7_method_1_code
def yX5_init : MethodName := ⟨RX5, "<init>", "()V"⟩
abbrev cX5_make : ByteArray := prog_7_method_2_code
def yX5_make : MethodName := ⟨RX5, "make", "(III)I"⟩
abbrev cX5_lay : ByteArray := prog_7_method_3_code
def yX5_lay : MethodName := ⟨RX5, "lay", "(IIII)I"⟩
abbrev cX5_weightIn : ByteArray := prog_7_method_4_code
def yX5_weightIn : MethodName := ⟨RX5, "weightIn", "(III)I"⟩
abbrev cX5_copy : ByteArray := prog_7_method_5_code
def yX5_copy : MethodName := ⟨RX5, "copy", "(II)I"⟩
abbrev cX5_isSlot : ByteArray := prog_7_method_6_code
def yX5_isSlot : MethodName := ⟨RX5, "isSlot", "(I)Z"⟩
abbrev cX5_refusalOfPlace : ByteArray := prog_7_method_7_code
def yX5_refusalOfPlace : MethodName := ⟨RX5, "refusalOfPlace", "(II)I"⟩
def RX6 : String := "WalkTimes$Spread"
def TX6 : u_T := fun k => match k with
  | 0 => ("WalkTimes$Spread", "now", "[D", false)
  | 1 => ("WalkTimes$Spread", "then", "[D", false)
  | _ => ("WalkTimes$Spread", "weights", "[I", true)
def tyX6 : Nat → FieldType := fun k => match k with
  | 0 => .array .double
  | 1 => .array .double
  | _ => .array .int
abbrev wsX60 : List Cond := u_ws RX6 TX6 3
theorem nmX6 : ∀ a, a < 3 → ∀ b, b < 3 → a ≠ b → (TX6 a).2.1 ≠ (TX6 b).2.1 := by decide +kernel
theorem tyX6_ok : ∀ k, k < 3 → parseFieldDescriptor (TX6 k).2.2.1 = some (tyX6 k) := by decide +kernel
abbrev cX6_init : ByteArray := prog_8_method_1_code
def yX6_init : MethodName := ⟨RX6, "<init>", "()V"⟩
abbrev cX6_walk : ByteArray := prog_8_method_2_code
def yX6_walk : MethodName := ⟨RX6, "walk", "(LWalkTimes$Net;II)V"⟩
abbrev cX6_goOnFrom : ByteArray := prog_8_method_3_code
def yX6_goOnFrom : MethodName := ⟨RX6, "goOnFrom", "(LWalkTimes$Net;I)V"⟩
def RX7 : String := "WalkTimes$Telling"
def TX7 : u_T := fun k => match k with
  | 0 => ("WalkTimes$Telling", "size", "I", false)
  | _ => ("WalkTimes$Telling", "letters", "[I", true)
def tyX7 : Nat → FieldType := fun k => match k with
  | 0 => .int
  | _ => .array .int
abbrev wsX70 : List Cond := u_ws RX7 TX7 2
theorem nmX7 : ∀ a, a < 2 → ∀ b, b < 2 → a ≠ b → (TX7 a).2.1 ≠ (TX7 b).2.1 := by decide +kernel
theorem tyX7_ok : ∀ k, k < 2 → parseFieldDescriptor (TX7 k).2.2.1 = some (tyX7 k) := by decide +kernel
abbrev cX7_init : ByteArray := prog_9_method_1_code
def yX7_init : MethodName := ⟨RX7, "<init>", "()V"⟩
abbrev cX7_take : ByteArray := prog_9_method_2_code
def yX7_take : MethodName := ⟨RX7, "take", "(I)I"⟩
abbrev cX7_tellOnto : ByteArray := prog_9_method_3_code
def yX7_tellOnto : MethodName := ⟨RX7, "tellOnto", "(LWalkTimes$Net;)I"⟩
abbrev cX7_faultOfForm : ByteArray := prog_9_method_4_code
def yX7_faultOfForm : MethodName := ⟨RX7, "faultOfForm", "()I"⟩
abbrev cX7_faultOfNumbers : ByteArray := prog_9_method_5_code
def yX7_faultOfNumbers : MethodName := ⟨RX7, "faultOfNumbers", "(II)I"⟩
abbrev cX7_changeAll : ByteArray := prog_9_method_6_code
def yX7_changeAll : MethodName := ⟨RX7, "changeAll", "(LWalkTimes$Net;)I"⟩
abbrev cX7_change : ByteArray := prog_9_method_7_code
def yX7_change : MethodName := ⟨RX7, "change", "(LWalkTimes$Net;II)I"⟩
abbrev cX7_wordAt : ByteArray := prog_9_method_8_code
def yX7_wordAt : MethodName := ⟨RX7, "wordAt", "(I)I"⟩
abbrev cX7_longestBeginning : ByteArray := prog_9_method_9_code
def yX7_longestBeginning : MethodName := ⟨RX7, "longestBeginning", "(I)I"⟩
abbrev cX7_beginning : ByteArray := prog_9_method_10_code
def yX7_beginning : MethodName := ⟨RX7, "beginning", "(Ljava/lang/String;I)I"⟩
abbrev cX7_endOf : ByteArray := prog_9_method_11_code
def yX7_endOf : MethodName := ⟨RX7, "endOf", "(II)I"⟩
abbrev cX7_letterAt : ByteArray := prog_9_method_12_code
def yX7_letterAt : MethodName := ⟨RX7, "letterAt", "(I)I"⟩
abbrev cX7_digitAt : ByteArray := prog_9_method_13_code
def yX7_digitAt : MethodName := ⟨RX7, "digitAt", "(I)I"⟩
abbrev cX7_textOf : ByteArray := prog_9_method_14_code
def yX7_textOf : MethodName := ⟨RX7, "textOf", "(I)Ljava/lang/String;"⟩
abbrev cX7_numbersOf : ByteArray := prog_9_method_15_code
def yX7_numbersOf : MethodName := ⟨RX7, "numbersOf", "(I)I"⟩
def RX8 : String := "WalkTimes"
def TX8 : u_T := fun k => match k with
  | 0 => ("WalkTimes", "net", "LWalkTimes$Net;", true)
  | 1 => ("WalkTimes", "trial", "LWalkTimes$Net;", true)
  | 2 => ("WalkTimes", "imaged", "LWalkTimes$Net;", true)
  | 3 => ("WalkTimes", "hasImage", "Z", false)
  | 4 => ("WalkTimes", "equations", "LWalkTimes$Equations;", true)
  | 5 => ("WalkTimes", "together", "[J", true)
  | 6 => ("WalkTimes", "telling", "LWalkTimes$Telling;", true)
  | 7 => ("WalkTimes", "spread", "LWalkTimes$Spread;", true)
  | 8 => ("WalkTimes", "lot", "LWalkTimes$Lot;", true)
  | 9 => ("WalkTimes", "saying", "LWalkTimes$Saying;", true)
  | 10 => ("WalkTimes", "rowNumbers", "[I", true)
  | 11 => ("WalkTimes", "rowSize", "I", false)
  | 12 => ("WalkTimes", "listRows", "LWalkTimes$ListRows;", true)
  | 13 => ("WalkTimes", "slotRows", "LWalkTimes$SlotRows;", true)
  | _ => ("WalkTimes", "refusals", "[I", true)
def tyX8 : Nat → FieldType := fun k => match k with
  | 0 => .object "WalkTimes$Net"
  | 1 => .object "WalkTimes$Net"
  | 2 => .object "WalkTimes$Net"
  | 3 => .boolean
  | 4 => .object "WalkTimes$Equations"
  | 5 => .array .long
  | 6 => .object "WalkTimes$Telling"
  | 7 => .object "WalkTimes$Spread"
  | 8 => .object "WalkTimes$Lot"
  | 9 => .object "WalkTimes$Saying"
  | 10 => .array .int
  | 11 => .int
  | 12 => .object "WalkTimes$ListRows"
  | 13 => .object "WalkTimes$SlotRows"
  | _ => .array .int
abbrev wsX80 : List Cond := u_ws RX8 TX8 15
theorem nmX8 : ∀ a, a < 15 → ∀ b, b < 15 → a ≠ b → (TX8 a).2.1 ≠ (TX8 b).2.1 := by decide +kernel
theorem tyX8_ok : ∀ k, k < 15 → parseFieldDescriptor (TX8 k).2.2.1 = some (tyX8 k) := by decide +kernel
abbrev cX8_init : ByteArray := prog_1_method_1_code
def yX8_init : MethodName := ⟨RX8, "<init>", "()V"⟩
abbrev cX8_letter : ByteArray := prog_1_method_2_code
def yX8_letter : MethodName := ⟨RX8, "letter", "(I)I"⟩
abbrev cX8_tells : ByteArray := prog_1_method_3_code
def yX8_tells : MethodName := ⟨RX8, "tells", "()I"⟩
abbrev cX8_points : ByteArray := prog_1_method_4_code
def yX8_points : MethodName := ⟨RX8, "points", "(I)I"⟩
abbrev cX8_way : ByteArray := prog_1_method_5_code
def yX8_way : MethodName := ⟨RX8, "way", "(IIII)I"⟩
abbrev cX8_kind : ByteArray := prog_1_method_6_code
def yX8_kind : MethodName := ⟨RX8, "kind", "(III)I"⟩
abbrev cX8_load : ByteArray := prog_1_method_7_code
def yX8_load : MethodName := ⟨RX8, "load", "(II)I"⟩
abbrev cX8_length : ByteArray := prog_1_method_8_code
def yX8_length : MethodName := ⟨RX8, "length", "(II)I"⟩
abbrev cX8_lose : ByteArray := prog_1_method_9_code
def yX8_lose : MethodName := ⟨RX8, "lose", "(I)I"⟩
abbrev cX8_of : ByteArray := prog_1_method_10_code
def yX8_of : MethodName := ⟨RX8, "of", "(II)I"⟩
abbrev cX8_reaches : ByteArray := prog_1_method_11_code
def yX8_reaches : MethodName := ⟨RX8, "reaches", "(I)I"⟩
abbrev cX8_time : ByteArray := prog_1_method_12_code
def yX8_time : MethodName := ⟨RX8, "time", "(III)J"⟩
abbrev cX8_steps : ByteArray := prog_1_method_13_code
def yX8_steps : MethodName := ⟨RX8, "steps", "(III)J"⟩
abbrev cX8_commute : ByteArray := prog_1_method_14_code
def yX8_commute : MethodName := ⟨RX8, "commute", "(III)J"⟩
abbrev cX8_visits : ByteArray := prog_1_method_15_code
def yX8_visits : MethodName := ⟨RX8, "visits", "(IIII)J"⟩
abbrev cX8_resistance : ByteArray := prog_1_method_16_code
def yX8_resistance : MethodName := ⟨RX8, "resistance", "(III)J"⟩
abbrev cX8_ahead : ByteArray := prog_1_method_17_code
def yX8_ahead : MethodName := ⟨RX8, "ahead", "(IIII)J"⟩
abbrev cX8_flow : ByteArray := prog_1_method_18_code
def yX8_flow : MethodName := ⟨RX8, "flow", "(IIII)J"⟩
abbrev cX8_added : ByteArray := prog_1_method_19_code
def yX8_added : MethodName := ⟨RX8, "added", "(II)I"⟩
abbrev cX8_missed : ByteArray := prog_1_method_20_code
def yX8_missed : MethodName := ⟨RX8, "missed", "(II)I"⟩
abbrev cX8_bridges : ByteArray := prog_1_method_21_code
def yX8_bridges : MethodName := ⟨RX8, "bridges", "(II)I"⟩
abbrev cX8_farthest : ByteArray := prog_1_method_22_code
def yX8_farthest : MethodName := ⟨RX8, "farthest", "(I)I"⟩
abbrev cX8_middle : ByteArray := prog_1_method_23_code
def yX8_middle : MethodName := ⟨RX8, "middle", "()I"⟩
abbrev cX8_sure : ByteArray := prog_1_method_24_code
def yX8_sure : MethodName := ⟨RX8, "sure", "(IIII)J"⟩
abbrev cX8_fast : ByteArray := prog_1_method_25_code
def yX8_fast : MethodName := ⟨RX8, "fast", "(IIIII)J"⟩
abbrev cX8_bySteps : ByteArray := prog_1_method_26_code
def yX8_bySteps : MethodName := ⟨RX8, "bySteps", "(IIII)J"⟩
abbrev cX8_lots : ByteArray := prog_1_method_27_code
def yX8_lots : MethodName := ⟨RX8, "lots", "(IIIII)I"⟩
abbrev cX8_says : ByteArray := prog_1_method_28_code
def yX8_says : MethodName := ⟨RX8, "says", "(III)I"⟩
abbrev cX8_whatIs : ByteArray := prog_1_method_29_code
def yX8_whatIs : MethodName := ⟨RX8, "whatIs", "(II)I"⟩
abbrev cX8_row : ByteArray := prog_1_method_30_code
def yX8_row : MethodName := ⟨RX8, "row", "(I)I"⟩
abbrev cX8_clear : ByteArray := prog_1_method_31_code
def yX8_clear : MethodName := ⟨RX8, "clear", "()I"⟩
abbrev cX8_list : ByteArray := prog_1_method_32_code
def yX8_list : MethodName := ⟨RX8, "list", "(II)I"⟩
abbrev cX8_put : ByteArray := prog_1_method_33_code
def yX8_put : MethodName := ⟨RX8, "put", "(IIJ)I"⟩
abbrev cX8_look : ByteArray := prog_1_method_34_code
def yX8_look : MethodName := ⟨RX8, "look", "(II)J"⟩
abbrev cX8_lays : ByteArray := prog_1_method_35_code
def yX8_lays : MethodName := ⟨RX8, "lays", "(III)I"⟩
abbrev cX8_judge : ByteArray := prog_1_method_36_code
def yX8_judge : MethodName := ⟨RX8, "judge", "(II)I"⟩
abbrev cX8_slot : ByteArray := prog_1_method_37_code
def yX8_slot : MethodName := ⟨RX8, "slot", "(III)I"⟩
abbrev cX8_slots : ByteArray := prog_1_method_38_code
def yX8_slots : MethodName := ⟨RX8, "slots", "(III)I"⟩
abbrev cX8_slotted : ByteArray := prog_1_method_39_code
def yX8_slotted : MethodName := ⟨RX8, "slotted", "(III)I"⟩
abbrev cX8_like : ByteArray := prog_1_method_40_code
def yX8_like : MethodName := ⟨RX8, "like", "(II)I"⟩
abbrev cX8_image : ByteArray := prog_1_method_41_code
def yX8_image : MethodName := ⟨RX8, "image", "()I"⟩
abbrev cX8_on : ByteArray := prog_1_method_42_code
def yX8_on : MethodName := ⟨RX8, "on", "()I"⟩
abbrev cX8_count : ByteArray := prog_1_method_43_code
def yX8_count : MethodName := ⟨RX8, "count", "(I)I"⟩
abbrev cX8_counted : ByteArray := prog_1_method_44_code
def yX8_counted : MethodName := ⟨RX8, "counted", "(I)I"⟩
abbrev cX8_refused : ByteArray := prog_1_method_45_code
def yX8_refused : MethodName := ⟨RX8, "refused", "(I)J"⟩
abbrev cX8_areTwoPoints : ByteArray := prog_1_method_46_code
def yX8_areTwoPoints : MethodName := ⟨RX8, "areTwoPoints", "(II)Z"⟩
abbrev cX8_refusalOfJourney : ByteArray := prog_1_method_47_code
def yX8_refusalOfJourney : MethodName := ⟨RX8, "refusalOfJourney", "(III)I"⟩
abbrev cX8_refusalOfGoals : ByteArray := prog_1_method_48_code
def yX8_refusalOfGoals : MethodName := ⟨RX8, "refusalOfGoals", "(IIII)I"⟩
abbrev cX8_refusalOfUnsure : ByteArray := prog_1_method_49_code
def yX8_refusalOfUnsure : MethodName := ⟨RX8, "refusalOfUnsure", "(IIIII)I"⟩
abbrev cX8_refusalOfNumber : ByteArray := prog_1_method_50_code
def yX8_refusalOfNumber : MethodName := ⟨RX8, "refusalOfNumber", "(III)I"⟩
abbrev cX8_isPart : ByteArray := prog_1_method_51_code
def yX8_isPart : MethodName := ⟨RX8, "isPart", "(I)Z"⟩
abbrev cX8_commuteAbove : ByteArray := prog_1_method_52_code
def yX8_commuteAbove : MethodName := ⟨RX8, "commuteAbove", "(II)J"⟩
abbrev cX8_likely : ByteArray := prog_1_method_53_code
def yX8_likely : MethodName := ⟨RX8, "likely", "(IIIII)J"⟩
abbrev cX8_comesWithin : ByteArray := prog_1_method_54_code
def yX8_comesWithin : MethodName := ⟨RX8, "comesWithin", "(IIII)Z"⟩
abbrev cX8_say : ByteArray := prog_1_method_55_code
def yX8_say : MethodName := ⟨RX8, "say", "(II)V"⟩
abbrev cX8_sayFraction : ByteArray := prog_1_method_56_code
def yX8_sayFraction : MethodName := ⟨RX8, "sayFraction", "(J)V"⟩
abbrev cX8_rowTells : ByteArray := prog_1_method_57_code
def yX8_rowTells : MethodName := ⟨RX8, "rowTells", "(II)Z"⟩
abbrev cX8_toldTime : ByteArray := prog_1_method_58_code
def yX8_toldTime : MethodName := ⟨RX8, "toldTime", "(II)J"⟩
abbrev cX8_weightOf : ByteArray := prog_1_method_59_code
def yX8_weightOf : MethodName := ⟨RX8, "weightOf", "(III)I"⟩
abbrev cX8_minutesOf : ByteArray := prog_1_method_60_code
def yX8_minutesOf : MethodName := ⟨RX8, "minutesOf", "(III)I"⟩
abbrev cX8_isKind : ByteArray := prog_1_method_61_code
def yX8_isKind : MethodName := ⟨RX8, "isKind", "(I)Z"⟩
abbrev cX8_isOfKind : ByteArray := prog_1_method_62_code
def yX8_isOfKind : MethodName := ⟨RX8, "isOfKind", "(II)Z"⟩
abbrev cX8_has : ByteArray := prog_1_method_63_code
def yX8_has : MethodName := ⟨RX8, "has", "(II)Z"⟩
abbrev cX8_over : ByteArray := prog_1_method_64_code
def yX8_over : MethodName := ⟨RX8, "over", "(JJ)J"⟩
abbrev cX8_gcd : ByteArray := prog_1_method_65_code
def yX8_gcd : MethodName := ⟨RX8, "gcd", "(JJ)J"⟩
abbrev cX8_leastTerms : ByteArray := prog_1_method_66_code
def yX8_leastTerms : MethodName := ⟨RX8, "leastTerms", "(JJI)J"⟩
abbrev cX8_compare : ByteArray := prog_1_method_67_code
def yX8_compare : MethodName := ⟨RX8, "compare", "(JJJJ)I"⟩
abbrev cX8_power : ByteArray := prog_1_method_68_code
def yX8_power : MethodName := ⟨RX8, "power", "(JI)J"⟩
abbrev cX8_bitsOf : ByteArray := prog_1_method_69_code
def yX8_bitsOf : MethodName := ⟨RX8, "bitsOf", "(D)J"⟩
def RX9 : String := "WalkTimesModel"
def TX9 : u_T := fun k => match k with
  | 0 => ("WalkTimesModel", "points", "I", false)
  | 1 => ("WalkTimesModel", "many", "I", false)
  | 2 => ("WalkTimesModel", "first", "[I", true)
  | 3 => ("WalkTimesModel", "second", "[I", true)
  | 4 => ("WalkTimesModel", "kind", "[I", true)
  | 5 => ("WalkTimesModel", "figure", "[I", true)
  | 6 => ("WalkTimesModel", "load", "[I", true)
  | 7 => ("WalkTimesModel", "length", "[I", true)
  | 8 => ("WalkTimesModel", "refusals", "[I", true)
  | 9 => ("WalkTimesModel", "letters", "[I", true)
  | 10 => ("WalkTimesModel", "lettered", "I", false)
  | 11 => ("WalkTimesModel", "at", "I", false)
  | 12 => ("WalkTimesModel", "words", "[C", true)
  | 13 => ("WalkTimesModel", "sizes", "[I", true)
  | 14 => ("WalkTimesModel", "numbers", "[I", true)
  | 15 => ("WalkTimesModel", "told", "[I", true)
  | 16 => ("WalkTimesModel", "was", "[I", true)
  | 17 => ("WalkTimesModel", "kept", "[I", true)
  | 18 => ("WalkTimesModel", "isKept", "Z", false)
  | 19 => ("WalkTimesModel", "there", "I", false)
  | 20 => ("WalkTimesModel", "all", "I", false)
  | 21 => ("WalkTimesModel", "inner", "[I", true)
  | 22 => ("WalkTimesModel", "innerMany", "I", false)
  | 23 => ("WalkTimesModel", "matrix", "[J", true)
  | 24 => ("WalkTimesModel", "right", "[J", true)
  | 25 => ("WalkTimesModel", "dets", "[J", true)
  | 26 => ("WalkTimesModel", "up", "J", false)
  | 27 => ("WalkTimesModel", "down", "J", false)
  | 28 => ("WalkTimesModel", "commuteUp", "J", false)
  | 29 => ("WalkTimesModel", "commuteDown", "J", false)
  | 30 => ("WalkTimesModel", "now", "[D", true)
  | 31 => ("WalkTimesModel", "then", "[D", true)
  | 32 => ("WalkTimesModel", "z", "I", false)
  | 33 => ("WalkTimesModel", "said", "[I", true)
  | 34 => ("WalkTimesModel", "figures", "[I", true)
  | 35 => ("WalkTimesModel", "to", "[C", true)
  | 36 => ("WalkTimesModel", "never", "[C", true)
  | 37 => ("WalkTimesModel", "one", "[C", true)
  | 38 => ("WalkTimesModel", "both", "[C", true)
  | 39 => ("WalkTimesModel", "saidMany", "I", false)
  | 40 => ("WalkTimesModel", "row", "[I", true)
  | 41 => ("WalkTimesModel", "rowMany", "I", false)
  | 42 => ("WalkTimesModel", "items", "[J", true)
  | 43 => ("WalkTimesModel", "listMany", "[I", true)
  | 44 => ("WalkTimesModel", "slotKind", "[I", true)
  | 45 => ("WalkTimesModel", "slotMany", "[I", true)
  | 46 => ("WalkTimesModel", "lies", "[I", true)
  | _ => ("WalkTimesModel", "liesFigure", "[I", true)
def tyX9 : Nat → FieldType := fun k => match k with
  | 0 => .int
  | 1 => .int
  | 2 => .array .int
  | 3 => .array .int
  | 4 => .array .int
  | 5 => .array .int
  | 6 => .array .int
  | 7 => .array .int
  | 8 => .array .int
  | 9 => .array .int
  | 10 => .int
  | 11 => .int
  | 12 => .array .char
  | 13 => .array .int
  | 14 => .array .int
  | 15 => .array .int
  | 16 => .array .int
  | 17 => .array .int
  | 18 => .boolean
  | 19 => .int
  | 20 => .int
  | 21 => .array .int
  | 22 => .int
  | 23 => .array .long
  | 24 => .array .long
  | 25 => .array .long
  | 26 => .long
  | 27 => .long
  | 28 => .long
  | 29 => .long
  | 30 => .array .double
  | 31 => .array .double
  | 32 => .int
  | 33 => .array .int
  | 34 => .array .int
  | 35 => .array .char
  | 36 => .array .char
  | 37 => .array .char
  | 38 => .array .char
  | 39 => .int
  | 40 => .array .int
  | 41 => .int
  | 42 => .array .long
  | 43 => .array .int
  | 44 => .array .int
  | 45 => .array .int
  | 46 => .array .int
  | _ => .array .int
abbrev wsX90 : List Cond := u_ws RX9 TX9 48
theorem nmX9 : ∀ a, a < 48 → ∀ b, b < 48 → a ≠ b → (TX9 a).2.1 ≠ (TX9 b).2.1 := by decide +kernel
theorem tyX9_ok : ∀ k, k < 48 → parseFieldDescriptor (TX9 k).2.2.1 = some (tyX9 k) := by decide +kernel
abbrev cX9_init : ByteArray := prog_11_method_1_code
def yX9_init : MethodName := ⟨RX9, "<init>", "()V"⟩
abbrev cX9_isIn : ByteArray := prog_11_method_2_code
def yX9_isIn : MethodName := ⟨RX9, "isIn", "(JJJ)Z"⟩
abbrev cX9_has : ByteArray := prog_11_method_3_code
def yX9_has : MethodName := ⟨RX9, "has", "(II)Z"⟩
abbrev cX9_isPoint : ByteArray := prog_11_method_4_code
def yX9_isPoint : MethodName := ⟨RX9, "isPoint", "(I)Z"⟩
abbrev cX9_isWay : ByteArray := prog_11_method_5_code
def yX9_isWay : MethodName := ⟨RX9, "isWay", "(I)Z"⟩
abbrev cX9_no : ByteArray := prog_11_method_6_code
def yX9_no : MethodName := ⟨RX9, "no", "(I)I"⟩
abbrev cX9_far : ByteArray := prog_11_method_7_code
def yX9_far : MethodName := ⟨RX9, "far", "(I)J"⟩
abbrev cX9_weightBy : ByteArray := prog_11_method_8_code
def yX9_weightBy : MethodName := ⟨RX9, "weightBy", "(III)I"⟩
abbrev cX9_weight : ByteArray := prog_11_method_9_code
def yX9_weight : MethodName := ⟨RX9, "weight", "(I)I"⟩
abbrev cX9_minutes : ByteArray := prog_11_method_10_code
def yX9_minutes : MethodName := ⟨RX9, "minutes", "(I)I"⟩
abbrev cX9_shifts : ByteArray := prog_11_method_11_code
def yX9_shifts : MethodName := ⟨RX9, "shifts", "(II)V"⟩
abbrev cX9_loses : ByteArray := prog_11_method_12_code
def yX9_loses : MethodName := ⟨RX9, "loses", "(I)V"⟩
abbrev cX9_becomes : ByteArray := prog_11_method_13_code
def yX9_becomes : MethodName := ⟨RX9, "becomes", "(I)V"⟩
abbrev cX9_comes : ByteArray := prog_11_method_14_code
def yX9_comes : MethodName := ⟨RX9, "comes", "(IIII)V"⟩
abbrev cX9_notPoints : ByteArray := prog_11_method_15_code
def yX9_notPoints : MethodName := ⟨RX9, "notPoints", "(I)I"⟩
abbrev cX9_notWay : ByteArray := prog_11_method_16_code
def yX9_notWay : MethodName := ⟨RX9, "notWay", "(IIII)I"⟩
abbrev cX9_notKind : ByteArray := prog_11_method_17_code
def yX9_notKind : MethodName := ⟨RX9, "notKind", "(III)I"⟩
abbrev cX9_notNumber : ByteArray := prog_11_method_18_code
def yX9_notNumber : MethodName := ⟨RX9, "notNumber", "(II)I"⟩
abbrev cX9_points : ByteArray := prog_11_method_19_code
def yX9_points : MethodName := ⟨RX9, "points", "(I)I"⟩
abbrev cX9_way : ByteArray := prog_11_method_20_code
def yX9_way : MethodName := ⟨RX9, "way", "(IIII)I"⟩
abbrev cX9_kind : ByteArray := prog_11_method_21_code
def yX9_kind : MethodName := ⟨RX9, "kind", "(III)I"⟩
abbrev cX9_load : ByteArray := prog_11_method_22_code
def yX9_load : MethodName := ⟨RX9, "load", "(II)I"⟩
abbrev cX9_length : ByteArray := prog_11_method_23_code
def yX9_length : MethodName := ⟨RX9, "length", "(II)I"⟩
abbrev cX9_lose : ByteArray := prog_11_method_24_code
def yX9_lose : MethodName := ⟨RX9, "lose", "(I)I"⟩
abbrev cX9_of : ByteArray := prog_11_method_25_code
def yX9_of : MethodName := ⟨RX9, "of", "(II)I"⟩
abbrev cX9_letter : ByteArray := prog_11_method_26_code
def yX9_letter : MethodName := ⟨RX9, "letter", "(I)I"⟩
abbrev cX9_word : ByteArray := prog_11_method_27_code
def yX9_word : MethodName := ⟨RX9, "word", "()I"⟩
abbrev cX9_isSign : ByteArray := prog_11_method_28_code
def yX9_isSign : MethodName := ⟨RX9, "isSign", "(I)Z"⟩
abbrev cX9_isFigure : ByteArray := prog_11_method_29_code
def yX9_isFigure : MethodName := ⟨RX9, "isFigure", "()Z"⟩
abbrev cX9_statement : ByteArray := prog_11_method_30_code
def yX9_statement : MethodName := ⟨RX9, "statement", "()I"⟩
abbrev cX9_notSo : ByteArray := prog_11_method_31_code
def yX9_notSo : MethodName := ⟨RX9, "notSo", "(I)I"⟩
abbrev cX9_does : ByteArray := prog_11_method_32_code
def yX9_does : MethodName := ⟨RX9, "does", "(I)V"⟩
abbrev cX9_keeps : ByteArray := prog_11_method_33_code
def yX9_keeps : MethodName := ⟨RX9, "keeps", "([I)V"⟩
abbrev cX9_brings : ByteArray := prog_11_method_34_code
def yX9_brings : MethodName := ⟨RX9, "brings", "([I)V"⟩
abbrev cX9_grammar : ByteArray := prog_11_method_35_code
def yX9_grammar : MethodName := ⟨RX9, "grammar", "()I"⟩
abbrev cX9_allDone : ByteArray := prog_11_method_36_code
def yX9_allDone : MethodName := ⟨RX9, "allDone", "()I"⟩
abbrev cX9_tells : ByteArray := prog_11_method_37_code
def yX9_tells : MethodName := ⟨RX9, "tells", "()I"⟩
abbrev cX9_allThere : ByteArray := prog_11_method_38_code
def yX9_allThere : MethodName := ⟨RX9, "allThere", "()V"⟩
abbrev cX9_reach : ByteArray := prog_11_method_39_code
def yX9_reach : MethodName := ⟨RX9, "reach", "(I)I"⟩
abbrev cX9_reaches : ByteArray := prog_11_method_40_code
def yX9_reaches : MethodName := ⟨RX9, "reaches", "(I)I"⟩
abbrev cX9_bits : ByteArray := prog_11_method_41_code
def yX9_bits : MethodName := ⟨RX9, "bits", "(I)I"⟩
abbrev cX9_weightsAt : ByteArray := prog_11_method_42_code
def yX9_weightsAt : MethodName := ⟨RX9, "weightsAt", "(I)I"⟩
abbrev cX9_between : ByteArray := prog_11_method_43_code
def yX9_between : MethodName := ⟨RX9, "between", "(II)I"⟩
abbrev cX9_within : ByteArray := prog_11_method_44_code
def yX9_within : MethodName := ⟨RX9, "within", "(I)V"⟩
abbrev cX9_columnOf : ByteArray := prog_11_method_45_code
def yX9_columnOf : MethodName := ⟨RX9, "columnOf", "(I)I"⟩
abbrev cX9_det : ByteArray := prog_11_method_46_code
def yX9_det : MethodName := ⟨RX9, "det", "(I)J"⟩
abbrev cX9_findTime : ByteArray := prog_11_method_47_code
def yX9_findTime : MethodName := ⟨RX9, "findTime", "(IIZ)Z"⟩
abbrev cX9_share : ByteArray := prog_11_method_48_code
def yX9_share : MethodName := ⟨RX9, "share", "(III)J"⟩
abbrev cX9_findDown : ByteArray := prog_11_method_49_code
def yX9_findDown : MethodName := ⟨RX9, "findDown", "(I)V"⟩
abbrev cX9_common : ByteArray := prog_11_method_50_code
def yX9_common : MethodName := ⟨RX9, "common", "(JJ)J"⟩
abbrev cX9_partOf : ByteArray := prog_11_method_51_code
def yX9_partOf : MethodName := ⟨RX9, "partOf", "(JJI)J"⟩
abbrev cX9_notTwo : ByteArray := prog_11_method_52_code
def yX9_notTwo : MethodName := ⟨RX9, "notTwo", "(III)I"⟩
abbrev cX9_timed : ByteArray := prog_11_method_53_code
def yX9_timed : MethodName := ⟨RX9, "timed", "(IIIZ)J"⟩
abbrev cX9_time : ByteArray := prog_11_method_54_code
def yX9_time : MethodName := ⟨RX9, "time", "(III)J"⟩
abbrev cX9_steps : ByteArray := prog_11_method_55_code
def yX9_steps : MethodName := ⟨RX9, "steps", "(III)J"⟩
abbrev cX9_findCommute : ByteArray := prog_11_method_56_code
def yX9_findCommute : MethodName := ⟨RX9, "findCommute", "(II)Z"⟩
abbrev cX9_commute : ByteArray := prog_11_method_57_code
def yX9_commute : MethodName := ⟨RX9, "commute", "(III)J"⟩
abbrev cX9_visits : ByteArray := prog_11_method_58_code
def yX9_visits : MethodName := ⟨RX9, "visits", "(IIII)J"⟩
abbrev cX9_findResistance : ByteArray := prog_11_method_59_code
def yX9_findResistance : MethodName := ⟨RX9, "findResistance", "(II)Z"⟩
abbrev cX9_resistance : ByteArray := prog_11_method_60_code
def yX9_resistance : MethodName := ⟨RX9, "resistance", "(III)J"⟩
abbrev cX9_ahead : ByteArray := prog_11_method_61_code
def yX9_ahead : MethodName := ⟨RX9, "ahead", "(IIII)J"⟩
abbrev cX9_flow : ByteArray := prog_11_method_62_code
def yX9_flow : MethodName := ⟨RX9, "flow", "(IIII)J"⟩
abbrev cX9_isLess : ByteArray := prog_11_method_63_code
def yX9_isLess : MethodName := ⟨RX9, "isLess", "(JJJJ)Z"⟩
abbrev cX9_added : ByteArray := prog_11_method_64_code
def yX9_added : MethodName := ⟨RX9, "added", "(II)I"⟩
abbrev cX9_missed : ByteArray := prog_11_method_65_code
def yX9_missed : MethodName := ⟨RX9, "missed", "(II)I"⟩
abbrev cX9_bridges : ByteArray := prog_11_method_66_code
def yX9_bridges : MethodName := ⟨RX9, "bridges", "(II)I"⟩
abbrev cX9_farthest : ByteArray := prog_11_method_67_code
def yX9_farthest : MethodName := ⟨RX9, "farthest", "(I)I"⟩
abbrev cX9_middle : ByteArray := prog_11_method_68_code
def yX9_middle : MethodName := ⟨RX9, "middle", "()I"⟩
abbrev cX9_notDoubt : ByteArray := prog_11_method_69_code
def yX9_notDoubt : MethodName := ⟨RX9, "notDoubt", "(IIIII)I"⟩
abbrev cX9_doubted : ByteArray := prog_11_method_70_code
def yX9_doubted : MethodName := ⟨RX9, "doubted", "(IIIII)J"⟩
abbrev cX9_sure : ByteArray := prog_11_method_71_code
def yX9_sure : MethodName := ⟨RX9, "sure", "(IIII)J"⟩
abbrev cX9_fast : ByteArray := prog_11_method_72_code
def yX9_fast : MethodName := ⟨RX9, "fast", "(IIIII)J"⟩
abbrev cX9_bySteps : ByteArray := prog_11_method_73_code
def yX9_bySteps : MethodName := ⟨RX9, "bySteps", "(IIII)J"⟩
abbrev cX9_draw : ByteArray := prog_11_method_74_code
def yX9_draw : MethodName := ⟨RX9, "draw", "(I)I"⟩
abbrev cX9_wayFrom : ByteArray := prog_11_method_75_code
def yX9_wayFrom : MethodName := ⟨RX9, "wayFrom", "(I)I"⟩
abbrev cX9_lots : ByteArray := prog_11_method_76_code
def yX9_lots : MethodName := ⟨RX9, "lots", "(IIIII)I"⟩
abbrev cX9_writes : ByteArray := prog_11_method_77_code
def yX9_writes : MethodName := ⟨RX9, "writes", "(I)V"⟩
abbrev cX9_saysAll : ByteArray := prog_11_method_78_code
def yX9_saysAll : MethodName := ⟨RX9, "saysAll", "([C)V"⟩
abbrev cX9_saysNumber : ByteArray := prog_11_method_79_code
def yX9_saysNumber : MethodName := ⟨RX9, "saysNumber", "(J)V"⟩
abbrev cX9_saysFraction : ByteArray := prog_11_method_80_code
def yX9_saysFraction : MethodName := ⟨RX9, "saysFraction", "(JJ)V"⟩
abbrev cX9_says : ByteArray := prog_11_method_81_code
def yX9_says : MethodName := ⟨RX9, "says", "(III)I"⟩
abbrev cX9_row : ByteArray := prog_11_method_82_code
def yX9_row : MethodName := ⟨RX9, "row", "(I)I"⟩
abbrev cX9_clear : ByteArray := prog_11_method_83_code
def yX9_clear : MethodName := ⟨RX9, "clear", "()I"⟩
abbrev cX9_isSo : ByteArray := prog_11_method_84_code
def yX9_isSo : MethodName := ⟨RX9, "isSo", "(II)Z"⟩
abbrev cX9_whatIs : ByteArray := prog_11_method_85_code
def yX9_whatIs : MethodName := ⟨RX9, "whatIs", "(II)I"⟩
abbrev cX9_isList : ByteArray := prog_11_method_86_code
def yX9_isList : MethodName := ⟨RX9, "isList", "(I)Z"⟩
abbrev cX9_list : ByteArray := prog_11_method_87_code
def yX9_list : MethodName := ⟨RX9, "list", "(II)I"⟩
abbrev cX9_notPlace : ByteArray := prog_11_method_88_code
def yX9_notPlace : MethodName := ⟨RX9, "notPlace", "(II)I"⟩
abbrev cX9_put : ByteArray := prog_11_method_89_code
def yX9_put : MethodName := ⟨RX9, "put", "(IIJ)I"⟩
abbrev cX9_look : ByteArray := prog_11_method_90_code
def yX9_look : MethodName := ⟨RX9, "look", "(II)J"⟩
abbrev cX9_isLaid : ByteArray := prog_11_method_91_code
def yX9_isLaid : MethodName := ⟨RX9, "isLaid", "(IJJ)Z"⟩
abbrev cX9_findTold : ByteArray := prog_11_method_92_code
def yX9_findTold : MethodName := ⟨RX9, "findTold", "(II)V"⟩
abbrev cX9_lays : ByteArray := prog_11_method_93_code
def yX9_lays : MethodName := ⟨RX9, "lays", "(III)I"⟩
abbrev cX9_judge : ByteArray := prog_11_method_94_code
def yX9_judge : MethodName := ⟨RX9, "judge", "(II)I"⟩
abbrev cX9_isSlot : ByteArray := prog_11_method_95_code
def yX9_isSlot : MethodName := ⟨RX9, "isSlot", "(I)Z"⟩
abbrev cX9_slot : ByteArray := prog_11_method_96_code
def yX9_slot : MethodName := ⟨RX9, "slot", "(III)I"⟩
abbrev cX9_isUnder : ByteArray := prog_11_method_97_code
def yX9_isUnder : MethodName := ⟨RX9, "isUnder", "(II)Z"⟩
abbrev cX9_notSlotted : ByteArray := prog_11_method_98_code
def yX9_notSlotted : MethodName := ⟨RX9, "notSlotted", "(II)I"⟩
abbrev cX9_slots : ByteArray := prog_11_method_99_code
def yX9_slots : MethodName := ⟨RX9, "slots", "(III)I"⟩
abbrev cX9_slotted : ByteArray := prog_11_method_100_code
def yX9_slotted : MethodName := ⟨RX9, "slotted", "(III)I"⟩
abbrev cX9_like : ByteArray := prog_11_method_101_code
def yX9_like : MethodName := ⟨RX9, "like", "(II)I"⟩
abbrev cX9_image : ByteArray := prog_11_method_102_code
def yX9_image : MethodName := ⟨RX9, "image", "()I"⟩
abbrev cX9_on : ByteArray := prog_11_method_103_code
def yX9_on : MethodName := ⟨RX9, "on", "()I"⟩
abbrev cX9_sets : ByteArray := prog_11_method_104_code
def yX9_sets : MethodName := ⟨RX9, "sets", "()I"⟩
abbrev cX9_allWeights : ByteArray := prog_11_method_105_code
def yX9_allWeights : MethodName := ⟨RX9, "allWeights", "()I"⟩
abbrev cX9_count : ByteArray := prog_11_method_106_code
def yX9_count : MethodName := ⟨RX9, "count", "(I)I"⟩
def RJxe99ae : String := "java/lang/Double"
def TJxe99ae : u_T := fun k => match k with
  | _ => ("", "", "", false)
def tyJxe99ae : Nat → FieldType := fun k => match k with
  | _ => .int
abbrev wsJxe99ae0 : List Cond := u_ws RJxe99ae TJxe99ae 0
theorem nmJxe99ae : ∀ a, a < 0 → ∀ b, b < 0 → a ≠ b → (TJxe99ae a).2.1 ≠ (TJxe99ae b).2.1 := by decide +kernel
theorem tyJxe99ae_ok : ∀ k, k < 0 → parseFieldDescriptor (TJxe99ae k).2.2.1 = some (tyJxe99ae k) := by decide +kernel
abbrev cJxe99ae_isNaN_b9ae7 : ByteArray := prog_12_method_6_code
def yJxe99ae_isNaN_b9ae7 : MethodName := ⟨RJxe99ae, "isNaN", "(D)Z"⟩
abbrev cJxe99ae_doubleToLongBits_ccdee : ByteArray := prog_12_method_23_code
def yJxe99ae_doubleToLongBits_ccdee : MethodName := ⟨RJxe99ae, "doubleToLongBits", "(D)J"⟩
def RJ6 : String := "java/lang/Integer"
def TJ6 : u_T := fun k => match k with
  | _ => ("", "", "", false)
def tyJ6 : Nat → FieldType := fun k => match k with
  | _ => .int
abbrev wsJ60 : List Cond := u_ws RJ6 TJ6 0
theorem nmJ6 : ∀ a, a < 0 → ∀ b, b < 0 → a ≠ b → (TJ6 a).2.1 ≠ (TJ6 b).2.1 := by decide +kernel
theorem tyJ6_ok : ∀ k, k < 0 → parseFieldDescriptor (TJ6 k).2.2.1 = some (tyJ6 k) := by decide +kernel
abbrev cJ6_bitCount_0f7a4 : ByteArray := prog_13_method_49_code
def yJ6_bitCount_0f7a4 : MethodName := ⟨RJ6, "bitCount", "(I)I"⟩
def RJ13 : String := "java/lang/Long"
def TJ13 : u_T := fun k => match k with
  | _ => ("", "", "", false)
def tyJ13 : Nat → FieldType := fun k => match k with
  | _ => .int
abbrev wsJ130 : List Cond := u_ws RJ13 TJ13 0
theorem nmJ13 : ∀ a, a < 0 → ∀ b, b < 0 → a ≠ b → (TJ13 a).2.1 ≠ (TJ13 b).2.1 := by decide +kernel
theorem tyJ13_ok : ∀ k, k < 0 → parseFieldDescriptor (TJ13 k).2.2.1 = some (tyJ13 k) := by decide +kernel
abbrev cJ13_compare_74951 : ByteArray := prog_14_method_42_code
def yJ13_compare_74951 : MethodName := ⟨RJ13, "compare", "(JJ)I"⟩
def RJ9 : String := "java/lang/Math"
def TJ9 : u_T := fun k => match k with
  | _ => ("", "", "", false)
def tyJ9 : Nat → FieldType := fun k => match k with
  | _ => .int
abbrev wsJ90 : List Cond := u_ws RJ9 TJ9 0
theorem nmJ9 : ∀ a, a < 0 → ∀ b, b < 0 → a ≠ b → (TJ9 a).2.1 ≠ (TJ9 b).2.1 := by decide +kernel
theorem tyJ9_ok : ∀ k, k < 0 → parseFieldDescriptor (TJ9 k).2.2.1 = some (tyJ9 k) := by decide +kernel
abbrev cJ9_abs_067f4 : ByteArray := prog_15_method_61_code
def yJ9_abs_067f4 : MethodName := ⟨RJ9, "abs", "(J)J"⟩
abbrev cJ9_max_7cf53 : ByteArray := prog_15_method_65_code
def yJ9_max_7cf53 : MethodName := ⟨RJ9, "max", "(II)I"⟩
abbrev cJ9_min_7cf53 : ByteArray := prog_15_method_69_code
def yJ9_min_7cf53 : MethodName := ⟨RJ9, "min", "(II)I"⟩
def RJ0 : String := "java/lang/String"
def TJ0 : u_T := fun k => match k with
  | _ => ("", "", "", false)
def tyJ0 : Nat → FieldType := fun k => match k with
  | _ => .int
abbrev wsJ00 : List Cond := u_ws RJ0 TJ0 0
theorem nmJ0 : ∀ a, a < 0 → ∀ b, b < 0 → a ≠ b → (TJ0 a).2.1 ≠ (TJ0 b).2.1 := by decide +kernel
theorem tyJ0_ok : ∀ k, k < 0 → parseFieldDescriptor (TJ0 k).2.2.1 = some (tyJ0 k) := by decide +kernel
abbrev cJ0_length_8abf5 : ByteArray := prog_16_method_54_code
def yJ0_length_8abf5 : MethodName := ⟨RJ0, "length", "()I"⟩
abbrev cJ0_charAt_5068e : ByteArray := prog_16_method_56_code
def yJ0_charAt_5068e : MethodName := ⟨RJ0, "charAt", "(I)C"⟩
abbrev cJ0_coder_7d493 : ByteArray := prog_16_method_152_code
def yJ0_coder_7d493 : MethodName := ⟨RJ0, "coder", "()B"⟩
abbrev cJ0_isLatin1_aae02 : ByteArray := prog_16_method_154_code
def yJ0_isLatin1_aae02 : MethodName := ⟨RJ0, "isLatin1", "()Z"⟩
abbrev cJ0_checkIndex_df160 : ByteArray := prog_16_method_155_code
def yJ0_checkIndex_df160 : MethodName := ⟨RJ0, "checkIndex", "(II)V"⟩
def RJ1 : String := "java/lang/StringLatin1"
def TJ1 : u_T := fun k => match k with
  | _ => ("", "", "", false)
def tyJ1 : Nat → FieldType := fun k => match k with
  | _ => .int
abbrev wsJ10 : List Cond := u_ws RJ1 TJ1 0
theorem nmJ1 : ∀ a, a < 0 → ∀ b, b < 0 → a ≠ b → (TJ1 a).2.1 ≠ (TJ1 b).2.1 := by decide +kernel
theorem tyJ1_ok : ∀ k, k < 0 → parseFieldDescriptor (TJ1 k).2.2.1 = some (tyJ1 k) := by decide +kernel
abbrev cJ1_charAt_3b067 : ByteArray := prog_17_method_2_code
def yJ1_charAt_3b067 : MethodName := ⟨RJ1, "charAt", "([BI)C"⟩
def RJ2 : String := "java/lang/StringUTF16"
def TJ2 : u_T := fun k => match k with
  | _ => ("", "", "", false)
def tyJ2 : Nat → FieldType := fun k => match k with
  | _ => .int
abbrev wsJ20 : List Cond := u_ws RJ2 TJ2 0
theorem nmJ2 : ∀ a, a < 0 → ∀ b, b < 0 → a ≠ b → (TJ2 a).2.1 ≠ (TJ2 b).2.1 := by decide +kernel
theorem tyJ2_ok : ∀ k, k < 0 → parseFieldDescriptor (TJ2 k).2.2.1 = some (tyJ2 k) := by decide +kernel
abbrev cJ2_getChar_3b067 : ByteArray := prog_18_method_5_code
def yJ2_getChar_3b067 : MethodName := ⟨RJ2, "getChar", "([BI)C"⟩
abbrev cJ2_length_9d52b : ByteArray := prog_18_method_6_code
def yJ2_length_9d52b : MethodName := ⟨RJ2, "length", "([B)I"⟩
abbrev cJ2_charAt_3b067 : ByteArray := prog_18_method_83_code
def yJ2_charAt_3b067 : MethodName := ⟨RJ2, "charAt", "([BI)C"⟩
abbrev cJ2_checkIndex_2214a : ByteArray := prog_18_method_91_code
def yJ2_checkIndex_2214a : MethodName := ⟨RJ2, "checkIndex", "(I[B)V"⟩
def RJ3 : String := "jdk/internal/util/Preconditions"
def TJ3 : u_T := fun k => match k with
  | _ => ("", "", "", false)
def tyJ3 : Nat → FieldType := fun k => match k with
  | _ => .int
abbrev wsJ30 : List Cond := u_ws RJ3 TJ3 0
theorem nmJ3 : ∀ a, a < 0 → ∀ b, b < 0 → a ≠ b → (TJ3 a).2.1 ≠ (TJ3 b).2.1 := by decide +kernel
theorem tyJ3_ok : ∀ k, k < 0 → parseFieldDescriptor (TJ3 k).2.2.1 = some (tyJ3 k) := by decide +kernel
abbrev cJ3_checkIndex_8e157 : ByteArray := prog_19_method_11_code
def yJ3_checkIndex_8e157 : MethodName := ⟨RJ3, "checkIndex", "(IILjava/util/function/BiFunction;)I"⟩
def RL : String := "WalkTimesLaw"
abbrev cL_law : ByteArray := code
def yL_law : MethodName := ⟨RL, "law", "([I)Z"⟩
abbrev vwCl : List vw_C := [(RX0, TX0, 6), (RX1, TX1, 2), (RX2, TX2, 2), (RX3, TX3, 8), (RX4, TX4, 2), (RX5, TX5, 4), (RX6, TX6, 3), (RX7, TX7, 2), (RX8, TX8, 15), (RX9, TX9, 48)]
