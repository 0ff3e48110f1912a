/-! PURE LEVEL: base -/
theorem ga_ok {α : Type} {n j : Nat} {k : Nat → Option α} (h : j < n) (hn : n < 2 ^ 31) : ga n (nI j) k = k j := by
  unfold ga
  rw [if_neg (nI_in h hn), nI_clamp (by omega)]
theorem ga_eq {α : Type} {n j : Nat} {i : Int32} {k : Nat → Option α} (e : i = nI j) (h : j < n) (hn : n < 2 ^ 31) : ga n i k = k j := by
  subst e
  exact ga_ok h hn
theorem bind_s {α β : Type} {a : α} {f : α → Option β} : (some a).bind f = f a := rfl
theorem ltt_e {α β : Type} {a : α} {f : α → β} : ltt a f = f a := rfl
theorem gb0 {α : Type} {x : Option α} : gb 0 x = x := rfl
theorem gb1 {α : Type} {x : Option α} : gb 1 x = x := rfl
theorem i32_le {a b : Int32} : a ≤ b ↔ a.toInt ≤ b.toInt := Int32.le_iff_toInt_le
theorem i32_lt {a b : Int32} : a < b ↔ a.toInt < b.toInt := Int32.lt_iff_toInt_lt
theorem i64_le {a b : Int64} : a ≤ b ↔ a.toInt ≤ b.toInt := Int64.le_iff_toInt_le
theorem i64_lt {a b : Int64} : a < b ↔ a.toInt < b.toInt := Int64.lt_iff_toInt_lt
theorem i32_eq {a b : Int32} : a = b ↔ a.toInt = b.toInt := Int32.toInt_inj.symm
theorem i32_rng (a : Int32) : -2147483648 ≤ a.toInt ∧ a.toInt < 2147483648 := ⟨Int32.le_toInt a, Int32.toInt_lt a⟩
theorem i32_64 (a : Int32) : a.toInt64.toInt = a.toInt := Int32.toInt_toInt64 a
/-- an int is below 0, or a natural number -/
theorem i32_nn {a : Int32} (h : 0 ≤ a.toInt) : ∃ j : Nat, j < 2 ^ 31 ∧ a = nI j ∧ a.toInt = j := by
  have h2 := (i32_rng a).2
  refine ⟨a.toInt.toNat, by omega, ?_, by omega⟩
  rw [i32_eq, nI_toInt (by omega)]
  omega
theorem nI_of_toInt {a : Int32} {n : Nat} (hn : n < 2 ^ 31) (h : a.toInt = n) : a = nI n := by
  rw [i32_eq, nI_toInt hn, h]
abbrev I32 (k : Nat) : Int32 := nI k
-- ===== the relation =====
def Rtel (t : SX7) (n9 : Int32) (l9 : Nat → Int32) : Prop := ∃ n : Nat, n ≤ 120 ∧ te_size t = nI n ∧ n9 = nI n ∧ ∀ k, k < n → te_letters t k = l9 k
def Rrow (n8 n9 : Int32) (r8 r9 : Nat → Int32) : Prop := ∃ n : Nat, n ≤ 10 ∧ n8 = nI n ∧ n9 = nI n ∧ ∀ k, k < n → r8 k = r9 k
def Rlist (l : SX1) (m9 : Nat → Int32) (i9 : Nat → Int64) : Prop := ∀ q, q < 3 → (li_sizes l q = -1 ∧ m9 q = -1) ∨ ∃ n : Nat, n ≤ 20 ∧ li_sizes l q = nI n ∧ m9 q = nI n ∧ ∀ k, k < n → li_rows l q k = i9 (20 * q + k)
def Rslot (l : SX5) (m9 k9 lies fig : Nat → Int32) : Prop := ∀ q, q < 3 → (sl_sizes l q = -1 ∧ m9 q = -1) ∨ ∃ n : Nat, n ≤ 9 ∧ sl_sizes l q = nI n ∧ m9 q = nI n ∧ sl_madeFor l q = k9 q ∧ (∃ kk : Nat, kk ≤ 5 ∧ k9 q = nI kk) ∧
  ∀ k, k < n → sl_kinds l q k = lies (9 * q + k) ∧ (lies (9 * q + k) = -1 ∨ ((∃ kk : Nat, kk ≤ 5 ∧ lies (9 * q + k) = nI kk) ∧ sl_figures l q k = fig (9 * q + k) ∧ ∃ ff : Nat, ff ≤ 9 ∧ fig (9 * q + k) = nI ff))
def Rref (r8 r9 : Nat → Int32) : Prop := ∀ k, k < 7 → r8 k = r9 k
/-- a way: first end, second end, kind, figure, load, length -/
abbrev Wy : Type := Nat × Nat × Nat × Nat × Nat × Nat
abbrev wF (w : Wy) : Nat := w.1
abbrev wS (w : Wy) : Nat := w.2.1
abbrev wK (w : Wy) : Nat := w.2.2.1
abbrev wG (w : Wy) : Nat := w.2.2.2.1
abbrev wL (w : Wy) : Nat := w.2.2.2.2.1
abbrev wT (w : Wy) : Nat := w.2.2.2.2.2
def Wok (P : Nat) (w : Wy) : Prop := wF w < P ∧ wS w < P ∧ wF w ≠ wS w ∧ wK w ≤ 5 ∧ wG w ≤ 9 ∧ 1 ≤ wL w ∧ wL w ≤ 9 ∧ 1 ≤ wT w ∧ wT w ≤ 9
/-- the six rows hold way w at place k -/
def Wat (f s kd fg lo le : Nat → Int32) (k : Nat) (w : Wy) : Prop := f k = nI (wF w) ∧ s k = nI (wS w) ∧ kd k = nI (wK w) ∧ fg k = nI (wG w) ∧ lo k = nI (wL w) ∧ le k = nI (wT w)
abbrev NWat (N : SX3) (k : Nat) (w : Wy) : Prop := Wat (n_first N) (n_second N) (n_kinds N) (n_figures N) (n_loads N) (n_lengths N) k w
abbrev MWat (y : SX9) (k : Nat) (w : Wy) : Prop := Wat (m_first y) (m_second y) (m_kind y) (m_figure y) (m_load y) (m_length y) k w
def NE (N : SX3) (P W : Nat) (w : Nat → Wy) : Prop := n_points N = nI P ∧ n_ways N = nI W ∧ ∀ k, k < W → NWat N k (w k)
def ME6 (p9 m9 : Int32) (f s kd fg lo le : Nat → Int32) (P W : Nat) (w : Nat → Wy) : Prop := p9 = nI P ∧ m9 = nI W ∧ ∀ k, k < W → Wat f s kd fg lo le k (w k)
abbrev ME (y : SX9) (P W : Nat) (w : Nat → Wy) : Prop := ME6 (m_points y) (m_many y) (m_first y) (m_second y) (m_kind y) (m_figure y) (m_load y) (m_length y) P W w
def NV (P W : Nat) (w : Nat → Wy) : Prop := 2 ≤ P ∧ P ≤ 6 ∧ W ≤ 10 ∧ ∀ k, k < W → Wok P (w k)
def Rnet (N : SX3) (p9 m9 : Int32) (f s kd fg lo le : Nat → Int32) : Prop := ∃ (P W : Nat) (w : Nat → Wy), NV P W w ∧ NE N P W w ∧ ME6 p9 m9 f s kd fg lo le P W w
/-- what a row of 62 keeps -/
def KE (r : Nat → Int32) (P W : Nat) (w : Nat → Wy) : Prop := r 0 = nI P ∧ r 1 = nI W ∧ ∀ k, k < W → Wat (fun k => r (2 + 6 * k)) (fun k => r (3 + 6 * k)) (fun k => r (4 + 6 * k)) (fun k => r (5 + 6 * k)) (fun k => r (6 + 6 * k)) (fun k => r (7 + 6 * k)) k (w k)
def Rimg (h8 h9 : Int32) (N : SX3) (r : Nat → Int32) : Prop := (h8 = 0 ∧ h9 = 0) ∨ (h8 = 1 ∧ h9 = 1 ∧ ∃ (P W : Nat) (w : Nat → Wy), NV P W w ∧ NE N P W w ∧ KE r P W w)
def Rcon (c1 c2 c3 c4 c5 c6 c7 : Nat → Int32) : Prop := c1 = m_words iX9 ∧ c2 = m_sizes iX9 ∧ c3 = m_numbers iX9 ∧ c4 = m_to iX9 ∧ c5 = m_never iX9 ∧ c6 = m_one iX9 ∧ c7 = m_both iX9
def Rel (x : SX8) (y : SX9) : Prop := Rnet (w_net x) (m_points y) (m_many y) (m_first y) (m_second y) (m_kind y) (m_figure y) (m_load y) (m_length y) ∧ Rimg (w_hasImage x) (m_isKept y) (w_imaged x) (m_kept y) ∧ Rtel (w_telling x) (m_lettered y) (m_letters y) ∧ Rrow (w_rowSize x) (m_rowMany y) (w_rowNumbers x) (m_row y) ∧
  Rlist (w_listRows x) (m_listMany y) (m_items y) ∧ Rslot (w_slotRows x) (m_slotMany y) (m_slotKind y) (m_lies y) (m_liesFigure y) ∧ Rref (w_refusals x) (m_refusals y) ∧ Rcon (m_words y) (m_sizes y) (m_numbers y) (m_to y) (m_never y) (m_one y) (m_both y)
def OpI (r8 : Option (Int32 × SX8)) (r9 : Option (Int32 × SX9)) : Prop := ∃ (r : Int32) (x' : SX8) (y' : SX9), r8 = some (r, x') ∧ r9 = some (r, y') ∧ Rel x' y'
def OpL (r8 : Option (Int64 × SX8)) (r9 : Option (Int64 × SX9)) : Prop := ∃ (r : Int64) (x' : SX8) (y' : SX9), r8 = some (r, x') ∧ r9 = some (r, y') ∧ Rel x' y'
-- ===== refusals =====
theorem Rref.up {r8 r9 : Nat → Int32} (h : Rref r8 r9) {k : Nat} (hk : k < 7) : Rref (upd r8 k (r8 k + 1)) (upd r9 k (r9 k + 1)) := by
  intro j hj
  unfold upd
  by_cases e : j = k
  · rw [if_pos e, if_pos e, h k hk]
  · rw [if_neg e, if_neg e, h j hj]
theorem no_ok {x : SX8} {y : SX9} (h : Rel x y) {c : Int32} (hc : c = -1 ∨ c = -2 ∨ c = -3 ∨ c = -4 ∨ c = -6) : ∃ (x' : SX8) (y' : SX9), fX8_counted x c = some (c, x') ∧ fX9_no y c = some (c, y') ∧ Rel x' y' := by
  obtain ⟨h1, h2, h3, h4, h5, h6, h7, h8⟩ := h
  rcases hc with rfl | rfl | rfl | rfl | rfl
  · exact ⟨_, _, rfl, rfl, h1, h2, h3, h4, h5, h6, h7.up (k := 1) (by decide), h8⟩
  · exact ⟨_, _, rfl, rfl, h1, h2, h3, h4, h5, h6, h7.up (k := 2) (by decide), h8⟩
  · exact ⟨_, _, rfl, rfl, h1, h2, h3, h4, h5, h6, h7.up (k := 3) (by decide), h8⟩
  · exact ⟨_, _, rfl, rfl, h1, h2, h3, h4, h5, h6, h7.up (k := 4) (by decide), h8⟩
  · exact ⟨_, _, rfl, rfl, h1, h2, h3, h4, h5, h6, h7.up (k := 6) (by decide), h8⟩
theorem counted_pos {x : SX8} {c : Int32} (h : 0 ≤ c) : fX8_counted x c = some (c, x) := by
  unfold fX8_counted
  rw [if_pos h]
theorem counted_low {x : SX8} {c : Int32} (h : c = -11 ∨ c = -13 ∨ c = -14 ∨ c = -16 ∨ c = -9) : fX8_counted x c = some (c, x) := by
  rcases h with rfl | rfl | rfl | rfl | rfl <;> rfl
theorem far_ok {x : SX8} {y : SX9} (h : Rel x y) {c : Int32} (hc : c = -1 ∨ c = -2 ∨ c = -3 ∨ c = -4 ∨ c = -6) : OpL (fX8_refused x c) (fX9_far y c) := by
  obtain ⟨x', y', e1, e2, h'⟩ := no_ok h hc
  refine ⟨(4000000000000000000 : Int64) - c.toInt64, x', y', ?_, ?_, h'⟩
  · unfold fX8_refused
    rw [e1]; rfl
  · unfold fX9_far
    rw [e2]; rfl
