/-! the words of a telling -/
def sz (k : Nat) : Nat := [3, 4, 4, 4, 4, 6].getD k 0
def nu (k : Nat) : Nat := [4, 3, 2, 2, 1, 1].getD k 0
def wc (k j : Nat) : Int32 := (gtb.getD k []).getD j 0
theorem fin_textOf : ∀ k, k < 6 → fX7_textOf (nI k) = some k := by decide +kernel
theorem fin_len : ∀ k, k < 6 → fJ0_length_8abf5 k = some (nI (sz k)) := by decide +kernel
theorem fin_char : ∀ k, k < 6 → ∀ j, j < 6 → j < sz k → fJ0_charAt_5068e k (nI j) = some (wc k j) := by decide +kernel
theorem fin_wcp : ∀ k, k < 6 → ∀ j, j < 6 → j < sz k → ¬ (-1 : Int32) = wc k j := by decide +kernel
theorem fin_nums : ∀ k, k < 6 → fX7_numbersOf (nI k) = some (nI (nu k)) := by decide +kernel
theorem fin_szb : ∀ k, k < 6 → 3 ≤ sz k ∧ sz k ≤ 6 ∧ 1 ≤ nu k ∧ nu k ≤ 4 := by decide +kernel
theorem fin_sizes : ∀ k, k < 6 → m_sizes iX9 k = nI (sz k) := by decide +kernel
theorem fin_numbers : ∀ k, k < 6 → m_numbers iX9 k = nI (nu k) := by decide +kernel
theorem fin_words : ∀ k, k < 6 → ∀ j, j < 6 → j < sz k → m_words iX9 (6 * k + j) = wc k j := by decide +kernel
theorem gk_ok {α : Type} {k : Nat} {x : Option α} (h : k < 6) : gk k x = x := by
  unfold gk
  rw [if_pos (by omega)]
def TB (t : SX7) (y : SX9) (n : Nat) (L : Nat → Int32) : Prop := n ≤ 120 ∧ te_size t = nI n ∧ (∀ q, q < n → te_letters t q = L q) ∧ m_lettered y = nI n ∧ (∀ q, q < n → m_letters y q = L q) ∧ m_words y = m_words iX9 ∧ m_sizes y = m_sizes iX9 ∧ m_numbers y = m_numbers iX9
def tl9 (y : SX9) (a : Int32) (f : Nat → Int32) : SX9 := m_told_s (m_at_s y a) f
theorem tl9_a (y : SX9) (a b : Int32) (f : Nat → Int32) : m_at_s (tl9 y a f) b = tl9 y b f := by
  obtain ⟨a1, a2, a3, a4, a5, a6, a7, a8, a9, a10, a11, a12, a13, a14, a15, a16, a17, a18, a19, a20, a21, a22, a23, a24, a25, a26, a27, a28, a29, a30, a31, a32, a33, a34, a35, a36, a37, a38, a39, a40, a41, a42, a43, a44, a45, a46, a47, a48⟩ := y
  exact (show _ = ((a1, a2, a3, a4, a5, a6, a7, a8, a9, a10, a11, b, a13, a14, a15, f, a17, a18, a19, a20, a21, a22, a23, a24, a25, a26, a27, a28, a29, a30, a31, a32, a33, a34, a35, a36, a37, a38, a39, a40, a41, a42, a43, a44, a45, a46, a47, a48) : SX9) from rfl).trans rfl
theorem tl9_b (y : SX9) (a : Int32) (f g : Nat → Int32) : m_told_s (tl9 y a f) g = tl9 y a g := by
  obtain ⟨a1, a2, a3, a4, a5, a6, a7, a8, a9, a10, a11, a12, a13, a14, a15, a16, a17, a18, a19, a20, a21, a22, a23, a24, a25, a26, a27, a28, a29, a30, a31, a32, a33, a34, a35, a36, a37, a38, a39, a40, a41, a42, a43, a44, a45, a46, a47, a48⟩ := y
  exact (show _ = ((a1, a2, a3, a4, a5, a6, a7, a8, a9, a10, a11, a, a13, a14, a15, g, a17, a18, a19, a20, a21, a22, a23, a24, a25, a26, a27, a28, a29, a30, a31, a32, a33, a34, a35, a36, a37, a38, a39, a40, a41, a42, a43, a44, a45, a46, a47, a48) : SX9) from rfl).trans rfl
theorem tl9_0 (y : SX9) (a : Int32) : m_at_s y a = tl9 y a (m_told y) := by
  obtain ⟨a1, a2, a3, a4, a5, a6, a7, a8, a9, a10, a11, a12, a13, a14, a15, a16, a17, a18, a19, a20, a21, a22, a23, a24, a25, a26, a27, a28, a29, a30, a31, a32, a33, a34, a35, a36, a37, a38, a39, a40, a41, a42, a43, a44, a45, a46, a47, a48⟩ := y
  rfl
theorem tl9_at (y : SX9) (a : Int32) (f : Nat → Int32) : m_at (tl9 y a f) = a := rfl
theorem tl9_told (y : SX9) (a : Int32) (f : Nat → Int32) : m_told (tl9 y a f) = f := rfl
theorem tl9_led (y : SX9) (a : Int32) (f : Nat → Int32) : m_lettered (tl9 y a f) = m_lettered y := rfl
theorem tl9_let (y : SX9) (a : Int32) (f : Nat → Int32) : m_letters (tl9 y a f) = m_letters y := rfl
theorem tl9_wo (y : SX9) (a : Int32) (f : Nat → Int32) : m_words (tl9 y a f) = m_words y := rfl
theorem tl9_si (y : SX9) (a : Int32) (f : Nat → Int32) : m_sizes (tl9 y a f) = m_sizes y := rfl
theorem tl9_nu (y : SX9) (a : Int32) (f : Nat → Int32) : m_numbers (tl9 y a f) = m_numbers y := rfl
theorem letterAt8 {t : SX7} {y : SX9} {n : Nat} {L : Nat → Int32} (h : TB t y n L) {p : Nat} (hp : p < 2 ^ 30) : fX7_letterAt t (nI p) = some (if p < n then L p else -1) := by
  have hn := h.1
  unfold fX7_letterAt
  rw [if_neg (nI_pos (by omega)), h.2.1]
  by_cases hq : p < n
  · rw [if_neg (nI_ge hq (by omega)), ga_ok (by omega) (by decide), if_pos hq, h.2.2.1 p hq]
  · rw [if_pos (nI_le (by omega) (by omega)), if_neg hq]
def mle (L : Nat → Int32) (n k p : Nat) : Nat → Nat → Nat
  | 0, i => i
  | d + 1, i => if p + i < n ∧ L (p + i) = wc k i then mle L n k p d (i + 1) else i
theorem mle_b {L : Nat → Int32} {n k p : Nat} : ∀ d i, i ≤ mle L n k p d i ∧ mle L n k p d i ≤ i + d ∧ (p + i ≤ n → p + mle L n k p d i ≤ n) := by
  intro d
  induction d with
  | zero => intro i; exact ⟨Nat.le_refl i, Nat.le_refl i, fun h => h⟩
  | succ d ih =>
    intro i
    obtain ⟨a, b, c⟩ := ih (i + 1)
    unfold mle
    split
    · rename_i hq
      exact ⟨by omega, by omega, fun _ => c (by omega)⟩
    · exact ⟨Nat.le_refl i, by omega, fun h => h⟩
theorem beg_loop {t : SX7} {y : SX9} {n : Nat} {L : Nat → Int32} (h : TB t y n L) {k p : Nat} (hk : k < 6) (hp : p ≤ 200) : ∀ (d fu i : Nat), i + d = sz k → d < fu → qX7_beginning_2 t k (nI p) fu (nI i) = some (nI (mle L n k p d i)) := by
  have hs := fin_szb k hk
  intro d
  induction d with
  | zero =>
    intro fu i h1 h2
    match fu, h2 with
    | fu + 1, _ =>
      unfold qX7_beginning_2 mle
      rw [fin_len k hk, bind_s, gk_ok hk, if_pos (nI_le (by omega) (by omega))]
  | succ d ih =>
    intro fu i h1 h2
    match fu, h2 with
    | fu + 1, h2 =>
      have q := ih fu (i + 1) (by omega) (by omega)
      unfold qX7_beginning_2 mle
      rw [fin_len k hk, bind_s, gk_ok hk, if_neg (nI_ge (by omega) (by omega)), nI_add, letterAt8 h (by omega), bind_s, fin_char k hk i (by omega) (by omega), bind_s, gk_ok hk]
      by_cases hq : p + i < n
      · rw [if_pos hq]
        by_cases hc : L (p + i) = wc k i
        · rw [if_pos hc, if_pos ⟨hq, hc⟩, ltt_e, nI_1, q]
        · rw [if_neg hc, if_neg (fun z => hc z.2)]
      · rw [if_neg hq, if_neg (fin_wcp k hk i (by omega) (by omega)), if_neg (fun z => hq z.1)]
def ml (L : Nat → Int32) (n p k : Nat) : Nat := mle L n k p (sz k) 0
theorem beg8 {t : SX7} {y : SX9} {n : Nat} {L : Nat → Int32} (h : TB t y n L) {k p : Nat} (hk : k < 6) (hp : p ≤ 200) : fX7_beginning t k (nI p) = some (nI (ml L n p k)) := by
  have hs := fin_szb k hk
  have := beg_loop h hk hp (sz k) FU 0 (by omega) (by unfold FU; omega)
  unfold fX7_beginning ml
  rw [show (0 : Int32) = nI 0 from rfl, this]
theorem word_in {t : SX7} {y : SX9} {n : Nat} {L : Nat → Int32} (h : TB t y n L) {k p : Nat} {f : Nat → Int32} (hk : k < 6) (hp : p ≤ n) (k4 : SX9 → Int32 → Int32 → Option (Int32 × SX9)) (acc : Int32) : ∀ (d fu i : Nat), i + d = sz k → d < fu → p + i ≤ n → qX9_word_12 k4 fu (tl9 y (nI p) f) acc (nI k) (nI i) = qX9_word_66 k4 (tl9 y (nI p) f) acc (nI k) (nI (mle L n k p d i)) := by
  have hs := fin_szb k hk
  have hn := h.1
  intro d
  induction d with
  | zero =>
    intro fu i h1 h2 h3
    match fu, h2 with
    | fu + 1, _ =>
      unfold qX9_word_12 mle
      rw [ga_ok hk (by decide), tl9_si, h.2.2.2.2.2.2.1, fin_sizes k hk, if_pos (nI_le (by omega) (by omega))]
  | succ d ih =>
    intro fu i h1 h2 h3
    match fu, h2 with
    | fu + 1, h2 =>
      have e6 : (6 : Int32) * nI k + nI i = nI (6 * k + i) := by rw [show (6 : Int32) = nI 6 from rfl, pk_mul, nI_add]
      unfold qX9_word_12 mle
      rw [ga_ok hk (by decide), tl9_si, h.2.2.2.2.2.2.1, fin_sizes k hk, if_neg (nI_ge (by omega) (by omega)), tl9_led, h.2.2.2.1, tl9_at, nI_add]
      by_cases hq : p + i < n
      · rw [if_neg (nI_ge hq (by omega)), ga_ok (by omega) (by decide), e6, ga_ok (by omega) (by decide), tl9_let, tl9_wo, h.2.2.2.2.1 _ hq, h.2.2.2.2.2.1, fin_words k hk i (by omega) (by omega)]
        by_cases hc : L (p + i) = wc k i
        · rw [if_pos hc, if_pos ⟨hq, hc⟩, ltt_e, nI_1, ih fu (i + 1) (by omega) (by omega) (by omega)]
        · rw [if_neg hc, if_neg (fun z => hc z.2)]
      · rw [if_pos (nI_le (by omega) (by omega)), if_neg (fun z => hq z.1)]
theorem word_both {t : SX7} {y : SX9} {n : Nat} {L : Nat → Int32} (h : TB t y n L) {p : Nat} {f : Nat → Int32} (hp : p ≤ n) : ∀ (d fu i acc : Nat), i + d = 6 → d < fu → acc ≤ 6 → p + acc ≤ n → (∃ k, k < 6 ∧ p + sz k ≤ n ∧ qX7_wordAt_2 t (nI p) fu (nI i) = some (nI k) ∧ qX9_word_4 fu (tl9 y (nI p) f) (nI acc) (nI i) = some (nI k, tl9 y (nI (p + sz k)) f)) ∨ ∃ l, p + l ≤ n ∧ qX7_wordAt_2 t (nI p) fu (nI i) = some (-1) ∧ qX7_longestBeginning_4 t (nI p) fu (nI acc) (nI i) = some (nI l) ∧ qX9_word_4 fu (tl9 y (nI p) f) (nI acc) (nI i) = some (-1, tl9 y (nI (p + l)) f) := by
  have hn := h.1
  intro d
  induction d with
  | zero =>
    intro fu i acc h1 h2 h3 h4
    match fu, h2 with
    | fu + 1, _ =>
      have hi : i = 6 := by omega
      subst hi
      refine Or.inr ⟨acc, h4, ?_, ?_, ?_⟩
      · unfold qX7_wordAt_2
        rw [if_pos (show (6 : Int32) ≤ nI 6 by decide)]
      · unfold qX7_longestBeginning_4
        rw [if_pos (show (6 : Int32) ≤ nI 6 by decide)]
      · unfold qX9_word_4
        rw [if_pos (show (6 : Int32) ≤ nI 6 by decide), tl9_at, nI_add, ltt_e, ltt_e, tl9_a]
  | succ d ih =>
    intro fu i acc h1 h2 h3 h4
    match fu, h2 with
    | fu + 1, h2 =>
      have hi6 : i < 6 := by omega
      have hi : ¬ (6 : Int32) ≤ nI i := nI_ge (b := 6) (by omega) (by decide)
      have hs := fin_szb i hi6
      have hb := mle_b (L := L) (n := n) (k := i) (p := p) (sz i) 0
      have hb1 : ml L n p i ≤ sz i := by have := hb.2.1; unfold ml; omega
      have hb2 : p + ml L n p i ≤ n := hb.2.2 (by omega)
      have w9 : ∀ fu, qX9_word_4 (fu + 1) (tl9 y (nI p) f) (nI acc) (nI i) = qX9_word_66 (qX9_word_4 fu) (tl9 y (nI p) f) (nI acc) (nI i) (nI (ml L n p i)) := by
        intro fu
        rw [qX9_word_4, if_neg hi, show (0 : Int32) = nI 0 from rfl, word_in h hi6 hp _ _ (sz i) FU 0 (by omega) (by unfold FU; omega) (by omega)]
        rfl
      by_cases hm : ml L n p i = sz i
      · refine Or.inl ⟨i, hi6, by omega, ?_, ?_⟩
        · unfold qX7_wordAt_2
          rw [if_neg hi, fin_textOf i hi6, bind_s, beg8 h hi6 (by omega), bind_s, fin_len i hi6, bind_s, gk_ok hi6, if_pos (by rw [hm])]
        · rw [w9]
          unfold qX9_word_66
          rw [ga_ok hi6 (by decide), tl9_si, h.2.2.2.2.2.2.1, fin_sizes i hi6, if_pos (by rw [hm]), tl9_at, nI_add, ltt_e, ltt_e, tl9_a, hm]
      · have hne : ¬ nI (ml L n p i) = nI (sz i) := fun z => hm ((nI_eq (by omega) (by omega)).mp z)
        have w8 : ∀ fu, qX7_wordAt_2 t (nI p) (fu + 1) (nI i) = qX7_wordAt_2 t (nI p) fu (nI (i + 1)) := by
          intro fu
          rw [qX7_wordAt_2, if_neg hi, fin_textOf i hi6, bind_s, beg8 h hi6 (by omega), bind_s, fin_len i hi6, bind_s, gk_ok hi6, if_neg hne, ltt_e, nI_1]
        have l8 : ∀ fu, qX7_longestBeginning_4 t (nI p) (fu + 1) (nI acc) (nI i) = qX7_longestBeginning_4 t (nI p) fu (nI (if acc < ml L n p i then ml L n p i else acc)) (nI (i + 1)) := by
          intro fu
          rw [qX7_longestBeginning_4, if_neg hi, fin_textOf i hi6, bind_s, beg8 h hi6 (by omega), bind_s, ltt_e, ltt_e, nI_1]
          by_cases ha : acc < ml L n p i
          · rw [if_pos (nI_lt ha (by omega)), if_pos ha]
          · rw [if_neg (nI_nlt (by omega) (by omega)), if_neg ha]
        have k9 : ∀ fu, qX9_word_4 (fu + 1) (tl9 y (nI p) f) (nI acc) (nI i) = qX9_word_4 fu (tl9 y (nI p) f) (nI (if acc < ml L n p i then ml L n p i else acc)) (nI (i + 1)) := by
          intro fu
          rw [w9]
          unfold qX9_word_66 qX9_word_98
          rw [ga_ok hi6 (by decide), tl9_si, h.2.2.2.2.2.2.1, fin_sizes i hi6, if_neg hne, ltt_e, nI_1, ltt_e]
          by_cases ha : acc < ml L n p i
          · rw [if_neg (nI_ge ha (by omega)), if_pos ha]
          · rw [if_pos (nI_le (by omega) (by omega)), if_neg ha]
        rw [w8, l8, k9]
        refine ih fu (i + 1) _ (by omega) (by omega) ?_ ?_
        · split <;> omega
        · split <;> omega
