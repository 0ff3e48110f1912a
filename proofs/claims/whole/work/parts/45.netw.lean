/-! the net: writes -/
abbrev net9 (y : SX9) (p m : Int32) (f s k g l t : Nat → Int32) : SX9 := (p, m, f, s, k, g, l, t, y.2.2.2.2.2.2.2.2)
theorem Wat.up {f s k g l t : Nat → Int32} {q j : Nat} {w : Wy} {a b c d e h : Int32} (hj : j ≠ q) (hw : Wat f s k g l t j w) : Wat (upd f q a) (upd s q b) (upd k q c) (upd g q d) (upd l q e) (upd t q h) j w := by
  obtain ⟨h1, h2, h3, h4, h5, h6⟩ := hw
  exact ⟨by rw [upd_n hj]; exact h1, by rw [upd_n hj]; exact h2, by rw [upd_n hj]; exact h3, by rw [upd_n hj]; exact h4, by rw [upd_n hj]; exact h5, by rw [upd_n hj]; exact h6⟩
theorem Wat.at {f s k g l t : Nat → Int32} {q a b c d e h : Nat} : Wat (upd f q (nI a)) (upd s q (nI b)) (upd k q (nI c)) (upd g q (nI d)) (upd l q (nI e)) (upd t q (nI h)) q (a, b, c, d, e, h) :=
  ⟨upd_s (α := Nat), upd_s (α := Nat), upd_s (α := Nat), upd_s (α := Nat), upd_s (α := Nat), upd_s (α := Nat)⟩
theorem lay8 {N : SX3} {k a b l t : Nat} (hk : k < 11) : ∃ N' : SX3, fX3_lay N (nI k) (nI a) (nI b) (nI l) (nI t) = some N' ∧ n_points N' = n_points N ∧ n_ways N' = n_ways N ∧ NWat N' k (a, b, 0, 0, l, t) ∧ ∀ j w, j ≠ k → NWat N j w → NWat N' j w := by
  refine ⟨(n_points N, n_ways N, upd (n_first N) k (nI a), upd (n_second N) k (nI b), upd (n_kinds N) k (nI 0), upd (n_figures N) k (nI 0), upd (n_loads N) k (nI l), upd (n_lengths N) k (nI t)), ?_, rfl, rfl, Wat.at, fun j w hj h => Wat.up hj h⟩
  unfold fX3_lay
  simp only [ga_ok hk (show 11 < 2 ^ 31 by decide), ltt]
  rfl
theorem Wat.cp {f s k g l t f' s' k' g' l' t' : Nat → Int32} {p q : Nat} {w : Wy} (h : Wat f s k g l t p w) : Wat (upd f' q (f p)) (upd s' q (s p)) (upd k' q (k p)) (upd g' q (g p)) (upd l' q (l p)) (upd t' q (t p)) q w := by
  obtain ⟨h1, h2, h3, h4, h5, h6⟩ := h
  exact ⟨by rw [upd_s (α := Nat)]; exact h1, by rw [upd_s (α := Nat)]; exact h2, by rw [upd_s (α := Nat)]; exact h3, by rw [upd_s (α := Nat)]; exact h4, by rw [upd_s (α := Nat)]; exact h5, by rw [upd_s (α := Nat)]; exact h6⟩
theorem copyWay8 {N : SX3} {p q : Nat} (hp : p < 11) (hq : q < 11) : ∃ N' : SX3, fX3_copyWay_0 N (nI p) (nI q) = some N' ∧ n_points N' = n_points N ∧ n_ways N' = n_ways N ∧ (∀ w, NWat N p w → NWat N' q w) ∧ ∀ j w, j ≠ q → NWat N j w → NWat N' j w := by
  refine ⟨(n_points N, n_ways N, upd (n_first N) q (n_first N p), upd (n_second N) q (n_second N p), upd (n_kinds N) q (n_kinds N p), upd (n_figures N) q (n_figures N p), upd (n_loads N) q (n_loads N p), upd (n_lengths N) q (n_lengths N p)), ?_, rfl, rfl, fun w h => Wat.cp h, fun j w hj h => Wat.up hj h⟩
  unfold fX3_copyWay_0
  simp only [ga_ok hp (show 11 < 2 ^ 31 by decide), ga_ok hq (show 11 < 2 ^ 31 by decide), ltt]
theorem copyWay8o {N M : SX3} {p q : Nat} (hp : p < 11) (hq : q < 11) : ∃ N' : SX3, fX3_copyWay_o N M (nI p) (nI q) = some N' ∧ n_points N' = n_points N ∧ n_ways N' = n_ways N ∧ (∀ w, NWat M p w → NWat N' q w) ∧ ∀ j w, j ≠ q → NWat N j w → NWat N' j w := by
  refine ⟨(n_points N, n_ways N, upd (n_first N) q (n_first M p), upd (n_second N) q (n_second M p), upd (n_kinds N) q (n_kinds M p), upd (n_figures N) q (n_figures M p), upd (n_loads N) q (n_loads M p), upd (n_lengths N) q (n_lengths M p)), ?_, rfl, rfl, fun w h => Wat.cp h, fun j w hj h => Wat.up hj h⟩
  unfold fX3_copyWay_o
  simp only [ga_ok hp (show 11 < 2 ^ 31 by decide), ga_ok hq (show 11 < 2 ^ 31 by decide), ltt]
theorem shifts9 {y : SX9} {p q : Nat} (hp : p < 11) (hq : q < 11) : ∃ f s k g l t, fX9_shifts y (nI q) (nI p) = some (net9 y (m_points y) (m_many y) f s k g l t) ∧ (∀ w, MWat y p w → Wat f s k g l t q w) ∧ ∀ j w, j ≠ q → MWat y j w → Wat f s k g l t j w := by
  refine ⟨upd (m_first y) q (m_first y p), upd (m_second y) q (m_second y p), upd (m_kind y) q (m_kind y p), upd (m_figure y) q (m_figure y p), upd (m_load y) q (m_load y p), upd (m_length y) q (m_length y p), ?_, fun w h => Wat.cp h, fun j w hj h => Wat.up hj h⟩
  unfold fX9_shifts
  simp only [ga_ok hp (show 11 < 2 ^ 31 by decide), ga_ok hq (show 11 < 2 ^ 31 by decide), ltt]
theorem comes9 {y : SX9} {k a b l t : Nat} (hk : k < 11) (hm : m_many y = nI k) : ∃ f s kd g lo le, fX9_comes y (nI a) (nI b) (nI l) (nI t) = some (net9 y (m_points y) (nI (k + 1)) f s kd g lo le) ∧ Wat f s kd g lo le k (a, b, 0, 0, l, t) ∧ ∀ j w, j ≠ k → MWat y j w → Wat f s kd g lo le j w := by
  refine ⟨upd (m_first y) k (nI a), upd (m_second y) k (nI b), upd (m_kind y) k (nI 0), upd (m_figure y) k (nI 0), upd (m_load y) k (nI l), upd (m_length y) k (nI t), ?_, Wat.at, fun j w hj h => Wat.up hj h⟩
  obtain ⟨y1, y2, y3, y4, y5, y6, y7, y8, y9⟩ := y
  have hm : y2 = nI k := hm
  subst hm
  unfold fX9_comes
  simp only [m_many, m_first, m_second, m_kind, m_figure, m_load, m_length, m_points, m_first_s, m_second_s, m_kind_s, m_figure_s, m_load_s, m_length_s, m_many_s, ga_ok hk (show 11 < 2 ^ 31 by decide), ltt, nI_1]
  rfl
