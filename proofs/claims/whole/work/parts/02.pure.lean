/-! bits of a long and of an int, ranks of the shown, the insertion -/
def sd_bl (x : Int64) (i : Nat) : Bool := x.toBitVec.getLsbD i
theorem sd_one : ∀ c, c < 32 → ((1 : Int64) <<< ((nI c).toInt64 &&& 63)).toBitVec = BitVec.twoPow 64 c := by decide +kernel
theorem sd_tp : ∀ c, c < 32 → BitVec.twoPow 64 c ≠ 0#64 := by decide +kernel
theorem sd_xb (x : Int64) {c : Nat} (hc : c < 32) : x &&& ((1 : Int64) <<< ((nI c).toInt64 &&& 63)) = 0 ↔ sd_bl x c = false := by
  rw [← Int64.toBitVec_inj, Int64.toBitVec_and, sd_one c hc, BitVec.and_twoPow]
  show _ = 0#64 ↔ _
  unfold sd_bl
  cases hb : x.toBitVec.getLsbD c
  · exact ⟨fun _ => rfl, fun _ => if_neg (by simp)⟩
  · exact ⟨fun z => absurd ((if_pos rfl).symm.trans z) (sd_tp c hc), fun z => by cases z⟩
theorem sd_one1 : ∀ c, c < 32 → ∀ i, i < 32 → sd_bl ((1 : Int64) <<< ((nI c).toInt64 &&& 63)) i = decide (i = c) := by decide +kernel
theorem sd_xor (x : Int64) {c i : Nat} (hc : c < 32) (hi : i < 32) : sd_bl (x ||| ((1 : Int64) <<< ((nI c).toInt64 &&& 63))) i = (sd_bl x i || decide (i = c)) := by
  rw [← sd_one1 c hc i hi]
  unfold sd_bl
  rw [Int64.toBitVec_or, BitVec.getLsbD_or]
theorem sd_bl0 (i : Nat) : sd_bl 0 i = false := BitVec.getLsbD_zero
theorem sd_b1 : ∀ i, i < 32 → bt 1 i = decide (i = 0) := by decide +kernel
theorem sd_yb (y : Int32) {c : Nat} (hc : c < 32) : (y >>> (nI c &&& 31)) &&& 1 = if bt y c = true then 1 else 0 := by
  apply b_ext
  intro i hi
  rw [b_and, b_sshr c hc _ hi, sd_b1 i hi]
  by_cases h : i = 0
  · subst h
    cases hb : bt y c <;> simp [hc, hb, b_0, sd_b1]
  · cases hb : bt y c <;> simp [h, b_0, sd_b1, hi]
theorem sd_yone : ∀ c, c < 32 → ∀ i, i < 32 → bt ((1 : Int32) <<< (nI c &&& 31)) i = decide (i = c) := by decide +kernel
theorem sd_yor (y : Int32) {c i : Nat} (hc : c < 32) (hi : i < 32) : bt (y ||| ((1 : Int32) <<< (nI c &&& 31))) i = (bt y i || decide (i = c)) := by
  rw [b_or, sd_yone c hc i hi]
/-- how many of the first j are so -/
def sd_rk (s : Nat → Bool) : Nat → Nat
  | 0 => 0
  | j + 1 => sd_rk s j + (if s j = true then 1 else 0)
theorem sd_rk_t {s : Nat → Bool} {j : Nat} (h : s j = true) : sd_rk s (j + 1) = sd_rk s j + 1 := by
  show sd_rk s j + (if s j = true then 1 else 0) = _
  rw [if_pos h]
theorem sd_rk_f {s : Nat → Bool} {j : Nat} (h : ¬ s j = true) : sd_rk s (j + 1) = sd_rk s j := by
  show sd_rk s j + (if s j = true then 1 else 0) = _
  rw [if_neg h, Nat.add_zero]
theorem sd_rk_le (s : Nat → Bool) : ∀ j, sd_rk s j ≤ j := by
  intro j
  induction j with
  | zero => exact Nat.le_refl _
  | succ j ih =>
    by_cases h : s j = true
    · rw [sd_rk_t h]; omega
    · rw [sd_rk_f h]; omega
theorem sd_rk_mono (s : Nat → Bool) {i : Nat} : ∀ {j}, i ≤ j → sd_rk s i ≤ sd_rk s j := by
  intro j
  induction j with
  | zero => intro h; rw [Nat.le_zero.mp h]; exact Nat.le_refl _
  | succ j ih =>
    intro h
    rcases Nat.lt_or_ge i (j + 1) with h1 | h1
    · have := ih (by omega)
      by_cases h : s j = true
      · rw [sd_rk_t h]; omega
      · rw [sd_rk_f h]; omega
    · rw [show i = j + 1 by omega]; exact Nat.le_refl _
theorem sd_rk_lt {s : Nat → Bool} {i j : Nat} (h : i < j) (hs : s i = true) : sd_rk s i < sd_rk s j := by
  have := sd_rk_mono s (i := i + 1) (j := j) h
  rw [sd_rk_t hs] at this
  omega
theorem sd_rk_inj {s : Nat → Bool} {i j : Nat} (hi : s i = true) (hj : s j = true) (h : sd_rk s i = sd_rk s j) : i = j := by
  rcases Nat.lt_trichotomy i j with h1 | h1 | h1
  · have := sd_rk_lt h1 hi; omega
  · exact h1
  · have := sd_rk_lt h1 hj; omega
theorem sd_rk_surj {s : Nat → Bool} {p : Nat} : ∀ {n}, p < sd_rk s n → ∃ i, i < n ∧ s i = true ∧ sd_rk s i = p := by
  intro n
  induction n with
  | zero => intro h; exact absurd h (Nat.not_lt_zero _)
  | succ n ih =>
    intro h
    rcases Nat.lt_or_ge p (sd_rk s n) with h1 | h1
    · obtain ⟨i, a, b, c⟩ := ih h1
      exact ⟨i, by omega, b, c⟩
    · by_cases hs : s n = true
      · rw [sd_rk_t hs] at h
        exact ⟨n, by omega, hs, by omega⟩
      · rw [sd_rk_f hs] at h; omega
theorem sd_pl (s : Nat → Bool) (n : Nat) : ∃ pl : Nat → Nat, ∀ p, p < sd_rk s n → pl p < n ∧ s (pl p) = true ∧ sd_rk s (pl p) = p := by
  refine ⟨fun p => if h : p < sd_rk s n then Classical.choose (sd_rk_surj h) else 0, fun p h => ?_⟩
  dsimp only
  rw [dif_pos h]
  exact Classical.choose_spec (sd_rk_surj h)
/-- the ranks of a smaller initial piece: nothing beyond m is so -/
theorem sd_rk_cut {s : Nat → Bool} {m : Nat} (h : ∀ c, m ≤ c → ¬ s c = true) : ∀ {n}, m ≤ n → sd_rk s n = sd_rk s m := by
  intro n
  induction n with
  | zero => intro hn; rw [Nat.le_zero.mp hn]
  | succ n ih =>
    intro hn
    rcases Nat.lt_or_ge m (n + 1) with h1 | h1
    · rw [sd_rk_f (h n (by omega))]; exact ih (by omega)
    · rw [show m = n + 1 by omega]
/-- sums of ints -/
def sd_F (w : Nat → Int32) : Nat → Int32
  | 0 => 0
  | p + 1 => sd_F w p + w p
theorem sd_F_cut {w : Nat → Int32} {m : Nat} (h : ∀ c, m ≤ c → w c = 0) : ∀ {n}, m ≤ n → sd_F w n = sd_F w m := by
  intro n
  induction n with
  | zero => intro hn; rw [Nat.le_zero.mp hn]
  | succ n ih =>
    intro hn
    rcases Nat.lt_or_ge m (n + 1) with h1 | h1
    · show sd_F w n + w n = _
      rw [h n (by omega), Int32.add_zero]; exact ih (by omega)
    · rw [show m = n + 1 by omega]
/-- small numbers are no codes -/
theorem sd_nn {n : Nat} (h : n < 2 ^ 31) {x : Int32} (hx : x < 0) : ¬ nI n = x := by
  intro e
  rw [← e] at hx
  exact nI_pos h hx
theorem sd_i1 {i : Int32} {j : Nat} (h : i = nI j) : i + 1 = nI (j + 1) := by rw [h, nI_1]
/-- the list with m put in at idx -/
theorem sd_ins {n m idx : Nat} {g h : Nat → Int32} {t : Nat → Int32} (hi : idx ≤ n) (hm : m < 2 ^ 31) (hg : ∀ j, j < n → ∃ c, c < m ∧ g j = nI c ∧ t c = 1) (hd : ∀ i j, i < n → j < n → g i = g j → i = j) (h1 : ∀ j, j < idx → h j = g j) (h2 : h idx = nI m) (h3 : ∀ j, idx ≤ j → j < n → h (j + 1) = g j) :
    (∀ j, j < n + 1 → h j = nI m ∨ ∃ i, i < n ∧ h j = g i) ∧ (∀ i j, i < n + 1 → j < n + 1 → h i = h j → i = j) := by
  have key : ∀ j, j < n + 1 → (j = idx ∧ h j = nI m) ∨ (∃ i, i < n ∧ h j = g i ∧ ((j < idx ∧ i = j) ∨ (idx < j ∧ i + 1 = j))) := by
    intro j hj
    rcases Nat.lt_trichotomy j idx with a | a | a
    · exact Or.inr ⟨j, by omega, h1 j a, Or.inl ⟨a, rfl⟩⟩
    · exact Or.inl ⟨a, by rw [a]; exact h2⟩
    · obtain ⟨i, rfl⟩ : ∃ i, j = i + 1 := ⟨j - 1, by omega⟩
      exact Or.inr ⟨i, by omega, h3 i (by omega) (by omega), Or.inr ⟨a, rfl⟩⟩
  have ne : ∀ i, i < n → ¬ g i = nI m := by
    intro i hi e
    obtain ⟨c, hc, ec, -⟩ := hg i hi
    rw [ec, nI_eq (by omega) hm] at e
    omega
  refine ⟨fun j hj => ?_, fun i j hi hj e => ?_⟩
  · rcases key j hj with ⟨-, b⟩ | ⟨i, a, b, -⟩
    · exact Or.inl b
    · exact Or.inr ⟨i, a, b⟩
  · rcases key i hi with ⟨a, b⟩ | ⟨p, a, b, c⟩
    · rcases key j hj with ⟨a', b'⟩ | ⟨p', a', b', c'⟩
      · omega
      · exact absurd (b'.symm.trans (e.symm.trans b)) (ne p' a')
    · rcases key j hj with ⟨a', b'⟩ | ⟨p', a', b', c'⟩
      · exact absurd (b.symm.trans (e.trans b')) (ne p a)
      · have := hd p p' a a' (b.symm.trans (e.trans b'))
        omega
