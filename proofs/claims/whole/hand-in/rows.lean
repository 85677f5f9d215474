section
/-! pasted from kit/rows (PURE-ROWS and BITS), as given for pasting -/
theorem pk_us {f : Nat → Int32} {k : Nat} {x : Int32} : upd f k x k = x := if_pos rfl
theorem pk_un {f : Nat → Int32} {k j : Nat} {x : Int32} (h : j ≠ k) : upd f k x j = f j := if_neg h
theorem pk_uLs {f : Nat → Int64} {k : Nat} {x : Int64} : vp_updL f k x k = x := if_pos rfl
theorem pk_uLn {f : Nat → Int64} {k j : Nat} {x : Int64} (h : j ≠ k) : vp_updL f k x j = f j := if_neg h
theorem pk_sub {a b : Nat} (h : b ≤ a) : nI a - nI b = nI (a - b) := by
  obtain ⟨c, rfl⟩ : ∃ c, a = c + b := ⟨a - b, by omega⟩
  rw [← nI_add, Int32.add_sub_cancel, Nat.add_sub_cancel]
theorem pk_m1 (n : Nat) : nI (n + 1) + (-1) = nI n := by
  rw [← nI_1, Int32.add_assoc, show (1 : Int32) + (-1) = 0 from rfl, Int32.add_zero]
theorem pk_mul (a b : Nat) : nI a * nI b = nI (a * b) := (Int32.ofNat_mul a b).symm
theorem pk_ix (x : Int32) {n : Nat} (hn : n < 2 ^ 31) : x < 0 ∨ nI n ≤ x ∨ ∃ j : Nat, j < n ∧ x = nI j := by
  by_cases h : x < 0
  · exact Or.inl h
  · obtain ⟨j, hj, rfl⟩ := nI_of h
    by_cases h2 : j < n
    · exact Or.inr (Or.inr ⟨j, h2, rfl⟩)
    · exact Or.inr (Or.inl (nI_le (by omega) hj))
theorem pk_le {x y : Int32} {A B : Prop} (a b : Nat) (f : a ≤ b → A) (g : b < a → B) (hx : x = nI a := by rfl) (hy : y = nI b := by rfl) (ha : a < 2 ^ 31 := by omega) (hb : b < 2 ^ 31 := by omega) : (x ≤ y → A) ∧ (¬ x ≤ y → B) := by
  subst hx hy
  rw [nI_leI ha hb]
  exact ⟨f, fun z => g (by omega)⟩
theorem pk_lt {x y : Int32} {A B : Prop} (a b : Nat) (f : a < b → A) (g : b ≤ a → B) (hx : x = nI a := by rfl) (hy : y = nI b := by rfl) (ha : a < 2 ^ 31 := by omega) (hb : b < 2 ^ 31 := by omega) : (x < y → A) ∧ (¬ x < y → B) := by
  subst hx hy
  rw [nI_ltI ha hb]
  exact ⟨f, fun z => g (by omega)⟩
theorem pk_eq {x y : Int32} {A B : Prop} (a b : Nat) (f : a = b → A) (g : a ≠ b → B) (hx : x = nI a := by rfl) (hy : y = nI b := by rfl) (ha : a < 2 ^ 31 := by omega) (hb : b < 2 ^ 31 := by omega) : (x = y → A) ∧ (¬ x = y → B) := by
  subst hx hy
  rw [nI_eq ha hb]
  exact ⟨f, g⟩
theorem pk_in {x : Int32} (n N : Nat) (h : n < N) (hx : x = nI n := by rfl) (hN : N < 2 ^ 31 := by omega) : vp_in x N := by
  subst hx
  exact vp_in_nI h hN
theorem pk_cl {x : Int32} (n : Nat) (hx : x = nI n := by rfl) (h : n < 2 ^ 31 := by omega) : x.toNatClampNeg = n := by
  subst hx
  exact nI_clamp h
theorem sb_m1 {p : Nat} (h : 0 < p) : nI p + (-1) = nI (p - 1) := by
  obtain ⟨q, rfl⟩ : ∃ q, p = q + 1 := ⟨p - 1, by omega⟩
  exact pk_m1 q
def bt (x : Int32) (i : Nat) : Bool := x.toBitVec.getLsbD i
theorem b_ext {x y : Int32} (h : ∀ i, i < 32 → bt x i = bt y i) : x = y := Int32.toBitVec_inj.mp (BitVec.eq_of_getLsbD_eq (fun i hi => h i hi))
theorem b_or (x y : Int32) (i : Nat) : bt (x ||| y) i = (bt x i || bt y i) := by unfold bt; rw [Int32.toBitVec_or, BitVec.getLsbD_or]
theorem b_and (x y : Int32) (i : Nat) : bt (x &&& y) i = (bt x i && bt y i) := by unfold bt; rw [Int32.toBitVec_and, BitVec.getLsbD_and]
theorem b_xor (x y : Int32) (i : Nat) : bt (x ^^^ y) i = (bt x i ^^ bt y i) := by unfold bt; rw [Int32.toBitVec_xor, BitVec.getLsbD_xor]
theorem b_big {x : Int32} {i : Nat} (h : 32 ≤ i) : bt x i = false := BitVec.getLsbD_of_ge _ _ h
theorem b_255 (i : Nat) : bt 255 i = decide (i < 8) := by
  rcases Nat.lt_or_ge i 32 with h | h
  · exact (by decide +kernel : ∀ i, i < 32 → bt 255 i = decide (i < 8)) i h
  · rw [b_big h, decide_eq_false (by omega)]
theorem b_65535 (i : Nat) : bt 65535 i = decide (i < 16) := by
  rcases Nat.lt_or_ge i 32 with h | h
  · exact (by decide +kernel : ∀ i, i < 32 → bt 65535 i = decide (i < 16)) i h
  · rw [b_big h, decide_eq_false (by omega)]
theorem b_m1 : ∀ i, i < 32 → bt (-1) i = true := by decide +kernel
theorem b_0 (i : Nat) : bt 0 i = false := BitVec.getLsbD_zero
theorem s_l : ∀ n, n < 32 → ((nI n &&& 31).toBitVec.smod 32).toNat = n := by decide +kernel
theorem s_u : ∀ n, n < 32 → (((nI n).toUInt32 &&& Int32.toUInt32 31).toBitVec % 32).toNat = n := by decide +kernel
theorem b_shl (n : Nat) (hn : n < 32) (x : Int32) {i : Nat} (hi : i < 32) : bt (x <<< (nI n &&& 31)) i = (decide (n ≤ i) && bt x (i - n)) := by
  unfold bt
  rw [Int32.toBitVec_shiftLeft]
  show (x.toBitVec <<< ((nI n &&& 31).toBitVec.smod 32).toNat).getLsbD i = _
  rw [s_l n hn, BitVec.getLsbD_shiftLeft]
  rcases Nat.lt_or_ge i n with h | h
  · simp [h, Nat.not_le.mpr h]
  · simp [hi, h, Nat.not_lt.mpr h]
theorem b_ushr (n : Nat) (hn : n < 32) (x : Int32) (i : Nat) : bt ((x.toUInt32 >>> ((nI n).toUInt32 &&& Int32.toUInt32 31)).toInt32) i = bt x (n + i) := by
  show (x.toUInt32 >>> ((nI n).toUInt32 &&& Int32.toUInt32 31)).toBitVec.getLsbD i = x.toUInt32.toBitVec.getLsbD (n + i)
  rw [UInt32.toBitVec_shiftRight]
  show (x.toUInt32.toBitVec >>> (((nI n).toUInt32 &&& Int32.toUInt32 31).toBitVec % 32).toNat).getLsbD i = _
  rw [s_u n hn, BitVec.getLsbD_ushiftRight]
theorem b_sshr (n : Nat) (hn : n < 32) (x : Int32) {i : Nat} (hi : i < 32) : bt (x >>> (nI n &&& 31)) i = if n + i < 32 then bt x (n + i) else bt x 31 := by
  unfold bt
  rw [Int32.toBitVec_shiftRight]
  show (x.toBitVec.sshiftRight ((nI n &&& 31).toBitVec.smod 32).toNat).getLsbD i = _
  rw [s_l n hn, BitVec.getLsbD_sshiftRight, BitVec.msb_eq_getLsbD_last]
  simp [hi]
theorem b_shl8 (x : Int32) {i : Nat} (hi : i < 32) : bt (x <<< ((8 : Int32) &&& 31)) i = (decide (8 ≤ i) && bt x (i - 8)) := b_shl 8 (by omega) x hi
theorem b_shl16 (x : Int32) {i : Nat} (hi : i < 32) : bt (x <<< ((16 : Int32) &&& 31)) i = (decide (16 ≤ i) && bt x (i - 16)) := b_shl 16 (by omega) x hi
theorem b_shl24 (x : Int32) {i : Nat} (hi : i < 32) : bt (x <<< ((24 : Int32) &&& 31)) i = (decide (24 ≤ i) && bt x (i - 24)) := b_shl 24 (by omega) x hi
theorem b_sshr8 (x : Int32) {i : Nat} (hi : i < 32) : bt (x >>> ((8 : Int32) &&& 31)) i = if 8 + i < 32 then bt x (8 + i) else bt x 31 := b_sshr 8 (by omega) x hi
end
section
/-! bits of a long and of an int, ranks of the shown, the insertion -/
def sd_bl (x : Int64) (i : Nat) : Bool := x.toBitVec.getLsbD i
theorem sd_one : ∀ c, c < 32 → ((1 : Int64) <<< ((nI c).toInt64 &&& 63)).toBitVec = BitVec.twoPow 64 c := by decide +kernel
theorem sd_tp : ∀ c, c < 32 → BitVec.twoPow 64 c ≠ 0#64 := by decide +kernel
theorem sd_xb (x : Int64) {c : Nat} (hc : c < 32) : x &&& ((1 : Int64) <<< ((nI c).toInt64 &&& 63)) = 0 ↔ sd_bl x c = false := by
  rw [← Int64.toBitVec_inj, Int64.toBitVec_and, sd_one c hc, BitVec.and_twoPow]
  show _ = 0#64 ↔ _
  unfold sd_bl
  cases hb : x.toBitVec.getLsbD c
  · exact ⟨fun _ => rfl, fun _ => if_neg (by simp)⟩
  · exact ⟨fun z => absurd ((if_pos rfl).symm.trans z) (sd_tp c hc), fun z => by cases z⟩
theorem sd_one1 : ∀ c, c < 32 → ∀ i, i < 32 → sd_bl ((1 : Int64) <<< ((nI c).toInt64 &&& 63)) i = decide (i = c) := by decide +kernel
theorem sd_xor (x : Int64) {c i : Nat} (hc : c < 32) (hi : i < 32) : sd_bl (x ||| ((1 : Int64) <<< ((nI c).toInt64 &&& 63))) i = (sd_bl x i || decide (i = c)) := by
  rw [← sd_one1 c hc i hi]
  unfold sd_bl
  rw [Int64.toBitVec_or, BitVec.getLsbD_or]
theorem sd_bl0 (i : Nat) : sd_bl 0 i = false := BitVec.getLsbD_zero
theorem sd_b1 : ∀ i, i < 32 → bt 1 i = decide (i = 0) := by decide +kernel
theorem sd_yb (y : Int32) {c : Nat} (hc : c < 32) : (y >>> (nI c &&& 31)) &&& 1 = if bt y c = true then 1 else 0 := by
  apply b_ext
  intro i hi
  rw [b_and, b_sshr c hc _ hi, sd_b1 i hi]
  by_cases h : i = 0
  · subst h
    cases hb : bt y c <;> simp [hc, hb, b_0, sd_b1]
  · cases hb : bt y c <;> simp [h, b_0, sd_b1, hi]
theorem sd_yone : ∀ c, c < 32 → ∀ i, i < 32 → bt ((1 : Int32) <<< (nI c &&& 31)) i = decide (i = c) := by decide +kernel
theorem sd_yor (y : Int32) {c i : Nat} (hc : c < 32) (hi : i < 32) : bt (y ||| ((1 : Int32) <<< (nI c &&& 31))) i = (bt y i || decide (i = c)) := by
  rw [b_or, sd_yone c hc i hi]
/-- how many of the first j are so -/
def sd_rk (s : Nat → Bool) : Nat → Nat
  | 0 => 0
  | j + 1 => sd_rk s j + (if s j = true then 1 else 0)
theorem sd_rk_t {s : Nat → Bool} {j : Nat} (h : s j = true) : sd_rk s (j + 1) = sd_rk s j + 1 := by
  show sd_rk s j + (if s j = true then 1 else 0) = _
  rw [if_pos h]
theorem sd_rk_f {s : Nat → Bool} {j : Nat} (h : ¬ s j = true) : sd_rk s (j + 1) = sd_rk s j := by
  show sd_rk s j + (if s j = true then 1 else 0) = _
  rw [if_neg h, Nat.add_zero]
theorem sd_rk_le (s : Nat → Bool) : ∀ j, sd_rk s j ≤ j := by
  intro j
  induction j with
  | zero => exact Nat.le_refl _
  | succ j ih =>
    by_cases h : s j = true
    · rw [sd_rk_t h]; omega
    · rw [sd_rk_f h]; omega
theorem sd_rk_mono (s : Nat → Bool) {i : Nat} : ∀ {j}, i ≤ j → sd_rk s i ≤ sd_rk s j := by
  intro j
  induction j with
  | zero => intro h; rw [Nat.le_zero.mp h]; exact Nat.le_refl _
  | succ j ih =>
    intro h
    rcases Nat.lt_or_ge i (j + 1) with h1 | h1
    · have := ih (by omega)
      by_cases h : s j = true
      · rw [sd_rk_t h]; omega
      · rw [sd_rk_f h]; omega
    · rw [show i = j + 1 by omega]; exact Nat.le_refl _
theorem sd_rk_lt {s : Nat → Bool} {i j : Nat} (h : i < j) (hs : s i = true) : sd_rk s i < sd_rk s j := by
  have := sd_rk_mono s (i := i + 1) (j := j) h
  rw [sd_rk_t hs] at this
  omega
theorem sd_rk_inj {s : Nat → Bool} {i j : Nat} (hi : s i = true) (hj : s j = true) (h : sd_rk s i = sd_rk s j) : i = j := by
  rcases Nat.lt_trichotomy i j with h1 | h1 | h1
  · have := sd_rk_lt h1 hi; omega
  · exact h1
  · have := sd_rk_lt h1 hj; omega
theorem sd_rk_surj {s : Nat → Bool} {p : Nat} : ∀ {n}, p < sd_rk s n → ∃ i, i < n ∧ s i = true ∧ sd_rk s i = p := by
  intro n
  induction n with
  | zero => intro h; exact absurd h (Nat.not_lt_zero _)
  | succ n ih =>
    intro h
    rcases Nat.lt_or_ge p (sd_rk s n) with h1 | h1
    · obtain ⟨i, a, b, c⟩ := ih h1
      exact ⟨i, by omega, b, c⟩
    · by_cases hs : s n = true
      · rw [sd_rk_t hs] at h
        exact ⟨n, by omega, hs, by omega⟩
      · rw [sd_rk_f hs] at h; omega
theorem sd_pl (s : Nat → Bool) (n : Nat) : ∃ pl : Nat → Nat, ∀ p, p < sd_rk s n → pl p < n ∧ s (pl p) = true ∧ sd_rk s (pl p) = p := by
  refine ⟨fun p => if h : p < sd_rk s n then Classical.choose (sd_rk_surj h) else 0, fun p h => ?_⟩
  dsimp only
  rw [dif_pos h]
  exact Classical.choose_spec (sd_rk_surj h)
/-- the ranks of a smaller initial piece: nothing beyond m is so -/
theorem sd_rk_cut {s : Nat → Bool} {m : Nat} (h : ∀ c, m ≤ c → ¬ s c = true) : ∀ {n}, m ≤ n → sd_rk s n = sd_rk s m := by
  intro n
  induction n with
  | zero => intro hn; rw [Nat.le_zero.mp hn]
  | succ n ih =>
    intro hn
    rcases Nat.lt_or_ge m (n + 1) with h1 | h1
    · rw [sd_rk_f (h n (by omega))]; exact ih (by omega)
    · rw [show m = n + 1 by omega]
/-- sums of ints -/
def sd_F (w : Nat → Int32) : Nat → Int32
  | 0 => 0
  | p + 1 => sd_F w p + w p
theorem sd_F_cut {w : Nat → Int32} {m : Nat} (h : ∀ c, m ≤ c → w c = 0) : ∀ {n}, m ≤ n → sd_F w n = sd_F w m := by
  intro n
  induction n with
  | zero => intro hn; rw [Nat.le_zero.mp hn]
  | succ n ih =>
    intro hn
    rcases Nat.lt_or_ge m (n + 1) with h1 | h1
    · show sd_F w n + w n = _
      rw [h n (by omega), Int32.add_zero]; exact ih (by omega)
    · rw [show m = n + 1 by omega]
/-- small numbers are no codes -/
theorem sd_nn {n : Nat} (h : n < 2 ^ 31) {x : Int32} (hx : x < 0) : ¬ nI n = x := by
  intro e
  rw [← e] at hx
  exact nI_pos h hx
theorem sd_i1 {i : Int32} {j : Nat} (h : i = nI j) : i + 1 = nI (j + 1) := by rw [h, nI_1]
/-- the list with m put in at idx -/
theorem sd_ins {n m idx : Nat} {g h : Nat → Int32} {t : Nat → Int32} (hi : idx ≤ n) (hm : m < 2 ^ 31) (hg : ∀ j, j < n → ∃ c, c < m ∧ g j = nI c ∧ t c = 1) (hd : ∀ i j, i < n → j < n → g i = g j → i = j) (h1 : ∀ j, j < idx → h j = g j) (h2 : h idx = nI m) (h3 : ∀ j, idx ≤ j → j < n → h (j + 1) = g j) :
    (∀ j, j < n + 1 → h j = nI m ∨ ∃ i, i < n ∧ h j = g i) ∧ (∀ i j, i < n + 1 → j < n + 1 → h i = h j → i = j) := by
  have key : ∀ j, j < n + 1 → (j = idx ∧ h j = nI m) ∨ (∃ i, i < n ∧ h j = g i ∧ ((j < idx ∧ i = j) ∨ (idx < j ∧ i + 1 = j))) := by
    intro j hj
    rcases Nat.lt_trichotomy j idx with a | a | a
    · exact Or.inr ⟨j, by omega, h1 j a, Or.inl ⟨a, rfl⟩⟩
    · exact Or.inl ⟨a, by rw [a]; exact h2⟩
    · obtain ⟨i, rfl⟩ : ∃ i, j = i + 1 := ⟨j - 1, by omega⟩
      exact Or.inr ⟨i, by omega, h3 i (by omega) (by omega), Or.inr ⟨a, rfl⟩⟩
  have ne : ∀ i, i < n → ¬ g i = nI m := by
    intro i hi e
    obtain ⟨c, hc, ec, -⟩ := hg i hi
    rw [ec, nI_eq (by omega) hm] at e
    omega
  refine ⟨fun j hj => ?_, fun i j hi hj e => ?_⟩
  · rcases key j hj with ⟨-, b⟩ | ⟨i, a, b, -⟩
    · exact Or.inl b
    · exact Or.inr ⟨i, a, b⟩
  · rcases key i hi with ⟨a, b⟩ | ⟨p, a, b, c⟩
    · rcases key j hj with ⟨a', b'⟩ | ⟨p', a', b', c'⟩
      · omega
      · exact absurd (b'.symm.trans (e.symm.trans b)) (ne p' a')
    · rcases key j hj with ⟨a', b'⟩ | ⟨p', a', b', c'⟩
      · exact absurd (b.symm.trans (e.trans b')) (ne p a)
      · have := hd p p' a a' (b.symm.trans (e.trans b'))
        omega
end
section
/-! what holds of the two states' contents: n characters in the list g, m changes, o: on, lx ly: letters, t: types, cx cy: covers -/
def sd_Inv (n m : Nat) (g o lx ly t cy : Nat → Int32) (cx : Nat → Int64) : Prop :=
  n ≤ m ∧ m ≤ 32 ∧
  (∀ j, j < n → ∃ c, c < m ∧ g j = nI c ∧ t c = 1) ∧
  (∀ i j, i < n → j < n → g i = g j → i = j) ∧
  (∀ k, o k = 0 ∨ o k = 1) ∧
  (∀ k, k < m → (t k = 1 ∧ lx k = ly k ∧ ¬ lx k = -1) ∨ (t k = 0 ∧ lx k = -1)) ∧
  (∀ k, k < m → ∀ c, c < 32 → sd_bl (cx k) c = bt (cy k) c ∧ (bt (cy k) c = true → c < m))
theorem sd_inv0 : sd_Inv 0 0 (fun _ => 0) (fun _ => 0) (fun _ => 0) (fun _ => 0) (fun _ => 0) (fun _ => 0) (fun _ => 0) :=
  ⟨Nat.le_refl _, by omega, fun j h => absurd h (Nat.not_lt_zero j), fun i j h => absurd h (Nat.not_lt_zero i), fun _ => Or.inl rfl, fun j h => absurd h (Nat.not_lt_zero j), fun j h => absurd h (Nat.not_lt_zero j)⟩
/-- does the k-th change cover c, and is it on -/
def sd_on (o cy : Nat → Int32) (c : Nat) (k : Nat) : Bool := decide (¬ o k = 0) && bt (cy k) c
theorem sd_on_iff {o cy : Nat → Int32} {c k : Nat} : sd_on o cy c k = true ↔ ¬ o k = 0 ∧ bt (cy k) c = true := by
  unfold sd_on
  rw [Bool.and_eq_true, decide_eq_true_iff]
/-- is the character c shown -/
def sd_sh (o cy : Nat → Int32) (m c : Nat) : Bool := decide (¬ o c = 0) && decide (sd_rk (sd_on o cy c) m = 0)
theorem sd_sh_iff {o cy : Nat → Int32} {m c : Nat} : sd_sh o cy m c = true ↔ ¬ o c = 0 ∧ sd_rk (sd_on o cy c) m = 0 := by
  unfold sd_sh
  rw [Bool.and_eq_true, decide_eq_true_iff, decide_eq_true_iff]
/-- is the j-th of the list shown -/
def sd_s (g o cy : Nat → Int32) (m j : Nat) : Bool := sd_sh o cy m (g j).toNatClampNeg
theorem sd_s_of {g o cy : Nat → Int32} {m j c : Nat} (h : g j = nI c) (hc : c < 2 ^ 31) : sd_s g o cy m j = sd_sh o cy m c := by
  unfold sd_s
  rw [h, nI_clamp hc]
/-- switching keeps all -/
theorem sd_inv_on {n m : Nat} {g o lx ly t cy : Nat → Int32} {cx : Nat → Int64} (I : sd_Inv n m g o lx ly t cy cx) {o' : Nat → Int32} (h : ∀ k, o' k = 0 ∨ o' k = 1) : sd_Inv n m g o' lx ly t cy cx :=
  ⟨I.1, I.2.1, I.2.2.1, I.2.2.2.1, h, I.2.2.2.2.2.1, I.2.2.2.2.2.2⟩
theorem sd_01u {o : Nat → Int32} (h : ∀ k, o k = 0 ∨ o k = 1) {i : Nat} {x : Int32} (hx : x = 0 ∨ x = 1) : ∀ k, upd o i x k = 0 ∨ upd o i x k = 1 := by
  intro k
  by_cases e : k = i
  · subst e; rw [pk_us]; exact hx
  · rw [pk_un e]; exact h k
/-- the list with the cells above a moved up by one -/
def sd_A (g : Nat → Int32) (n a : Nat) : Nat → Int32 := fun j => if j ≤ a then g j else if j ≤ n then g (j - 1) else g j
theorem sd_A_le {g : Nat → Int32} {n a j : Nat} (h : j ≤ a) : sd_A g n a j = g j := if_pos h
theorem sd_A_gt {g : Nat → Int32} {n a j : Nat} (h : a < j) (h2 : j ≤ n) : sd_A g n a j = g (j - 1) := by
  unfold sd_A
  rw [if_neg (by omega), if_pos h2]
theorem sd_A_n (g : Nat → Int32) (n : Nat) : sd_A g n n = g := by
  funext j
  unfold sd_A
  by_cases h : j ≤ n
  · rw [if_pos h]
  · rw [if_neg h, if_neg h]
theorem sd_A_s {g : Nat → Int32} {n a : Nat} (h : a + 1 ≤ n) : upd (sd_A g n (a + 1)) (a + 1) (sd_A g n (a + 1) a) = sd_A g n a := by
  funext j
  by_cases e : j = a + 1
  · subst e
    rw [pk_us, sd_A_le (Nat.le_succ a), sd_A_gt (j := a + 1) (by omega) h, Nat.add_sub_cancel]
  · rw [pk_un e]
    unfold sd_A
    by_cases h1 : j ≤ a
    · rw [if_pos h1, if_pos (by omega)]
    · rw [if_neg h1, if_neg (by omega)]
/-- a typed change -/
theorem sd_inv_type {n m : Nat} {g o lx ly t cy : Nat → Int32} {cx : Nat → Int64} (I : sd_Inv n m g o lx ly t cy cx) (hm : m < 32) {idx : Nat} (hi : idx ≤ n) {c : Int32} (hc : ¬ c = -1) :
    sd_Inv (n + 1) (m + 1) (upd (sd_A g n idx) idx (nI m)) (upd o m 1) (upd lx m c) (upd ly m c) (upd t m 1) (upd cy m 0) (vp_updL cx m 0) := by
  obtain ⟨i1, i2, i3, i4, i5, i6, i7⟩ := I
  obtain ⟨k1, k2⟩ := sd_ins (h := upd (sd_A g n idx) idx (nI m)) (m := m) hi (by omega) i3 i4 (fun j hj => by rw [pk_un (by omega), sd_A_le (by omega)]) pk_us (fun j h1 h2 => by rw [pk_un (by omega), sd_A_gt (by omega) (by omega), Nat.add_sub_cancel])
  refine ⟨by omega, by omega, fun j hj => ?_, k2, sd_01u i5 (Or.inr rfl), fun k hk => ?_, fun k hk b hb => ?_⟩
  · rcases k1 j hj with e | ⟨i, hi, e⟩
    · exact ⟨m, by omega, e, pk_us⟩
    · obtain ⟨b, hb, eb, tb⟩ := i3 i hi
      exact ⟨b, by omega, e.trans eb, by rw [pk_un (by omega)]; exact tb⟩
  · by_cases e : k = m
    · subst e
      exact Or.inl ⟨pk_us, by rw [pk_us, pk_us], by rw [pk_us]; exact hc⟩
    · rw [pk_un e, pk_un e, pk_un e]
      exact i6 k (by omega)
  · by_cases e : k = m
    · subst e
      rw [pk_us, pk_uLs, b_0, sd_bl0]
      exact ⟨rfl, fun z => by cases z⟩
    · rw [pk_un e, pk_uLn e]
      obtain ⟨x, y⟩ := i7 k (by omega) b hb
      exact ⟨x, fun z => by have := y z; omega⟩
/-- an erasing change -/
theorem sd_inv_erase {n m : Nat} {g o lx ly t cy : Nat → Int32} {cx : Nat → Int64} (I : sd_Inv n m g o lx ly t cy cx) (hm : m < 32) {X : Int64} {Y : Int32} (hb : ∀ c, c < 32 → sd_bl X c = bt Y c ∧ (bt Y c = true → c < m)) :
    sd_Inv n (m + 1) g (upd o m 1) (upd lx m (-1)) ly (upd t m 0) (upd cy m Y) (vp_updL cx m X) := by
  obtain ⟨i1, i2, i3, i4, i5, i6, i7⟩ := I
  refine ⟨by omega, by omega, fun j hj => ?_, i4, sd_01u i5 (Or.inr rfl), fun k hk => ?_, fun k hk b h => ?_⟩
  · obtain ⟨b, hb, eb, tb⟩ := i3 j hj
    exact ⟨b, by omega, eb, by rw [pk_un (by omega)]; exact tb⟩
  · by_cases e : k = m
    · subst e
      exact Or.inr ⟨pk_us, pk_us⟩
    · rw [pk_un e, pk_un e]
      exact i6 k (by omega)
  · by_cases e : k = m
    · subst e
      rw [pk_us, pk_uLs]
      obtain ⟨x, y⟩ := hb b h
      exact ⟨x, fun z => by have := y z; omega⟩
    · rw [pk_un e, pk_uLn e]
      obtain ⟨x, y⟩ := i7 k (by omega) b h
      exact ⟨x, fun z => by have := y z; omega⟩
end
section
/-! the covers that an erasing change gets, the digest's sum, the number of covers: the pure side -/
theorem sd_ex_s {P : Nat → Prop} {a : Nat} : (∃ b, b < a + 1 ∧ P b) ↔ (∃ b, b < a ∧ P b) ∨ P a := by
  constructor
  · rintro ⟨b, h, p⟩
    by_cases e : b = a
    · subst e; exact Or.inr p
    · exact Or.inl ⟨b, by omega, p⟩
  · rintro (⟨b, h, p⟩ | p)
    · exact ⟨b, by omega, p⟩
    · exact ⟨a, by omega, p⟩
def sd_PX (s : Nat → Bool) (g : Nat → Int32) (i j c b : Nat) : Prop := s b = true ∧ i ≤ sd_rk s b ∧ sd_rk s b < j ∧ g b = nI c
def sd_XB (s : Nat → Bool) (g : Nat → Int32) (i j : Nat) (X : Int64) (a : Nat) : Prop := ∀ c, c < 32 → (sd_bl X c = true ↔ ∃ b, b < a ∧ sd_PX s g i j c b)
theorem sd_XB0 {s : Nat → Bool} {g : Nat → Int32} {i j : Nat} : sd_XB s g i j 0 0 := by
  intro c _
  rw [sd_bl0]
  exact ⟨(fun z => nomatch z), fun ⟨b, h, _⟩ => absurd h (Nat.not_lt_zero b)⟩
theorem sd_XB_in {s : Nat → Bool} {g : Nat → Int32} {i j a ca : Nat} {X : Int64} (h : sd_XB s g i j X a) (hs : s a = true) (h1 : i ≤ sd_rk s a) (h2 : sd_rk s a < j) (hca : ca < 32) (hg : g a = nI ca) :
    sd_XB s g i j (X ||| ((1 : Int64) <<< ((nI ca).toInt64 &&& 63))) (a + 1) := by
  intro c hc
  rw [sd_xor X hca hc, Bool.or_eq_true, decide_eq_true_iff, h c hc, sd_ex_s]
  have e : c = ca ↔ sd_PX s g i j c a := by
    constructor
    · intro e; exact ⟨hs, h1, h2, by rw [e]; exact hg⟩
    · rintro ⟨-, -, -, e⟩
      rw [hg, nI_eq (by omega) (by omega)] at e
      exact e.symm
  rw [e]
theorem sd_XB_out {s : Nat → Bool} {g : Nat → Int32} {i j a : Nat} {X : Int64} (h : sd_XB s g i j X a) (hn : ¬ (s a = true ∧ i ≤ sd_rk s a ∧ sd_rk s a < j)) : sd_XB s g i j X (a + 1) := by
  intro c hc
  rw [h c hc, sd_ex_s]
  exact ⟨fun z => Or.inl z, fun z => z.elim id (fun p => absurd ⟨p.1, p.2.1, p.2.2.1⟩ hn)⟩
def sd_YB (g : Nat → Int32) (pl : Nat → Nat) (i : Nat) (Y : Int32) (p : Nat) : Prop := ∀ c, c < 32 → (bt Y c = true ↔ ∃ b, b < p ∧ (i ≤ b ∧ g (pl b) = nI c))
theorem sd_YB0 {g : Nat → Int32} {pl : Nat → Nat} {i : Nat} : sd_YB g pl i 0 i := by
  intro c _
  rw [b_0]
  exact ⟨(fun z => nomatch z), fun ⟨b, h, h2, _⟩ => absurd h (Nat.not_lt.mpr h2)⟩
theorem sd_YB_s {g : Nat → Int32} {pl : Nat → Nat} {i p cp : Nat} {Y : Int32} (h : sd_YB g pl i Y p) (h1 : i ≤ p) (hcp : cp < 32) (hg : g (pl p) = nI cp) :
    sd_YB g pl i (Y ||| ((1 : Int32) <<< (nI cp &&& 31))) (p + 1) := by
  intro c hc
  rw [sd_yor Y hcp hc, Bool.or_eq_true, decide_eq_true_iff, h c hc, sd_ex_s]
  have e : c = cp ↔ (i ≤ p ∧ g (pl p) = nI c) := by
    constructor
    · intro e; exact ⟨h1, by rw [e]; exact hg⟩
    · rintro ⟨-, e⟩
      rw [hg, nI_eq (by omega) (by omega)] at e
      exact e.symm
  rw [e]
theorem sd_bits {n m i j : Nat} {s : Nat → Bool} {g : Nat → Int32} {pl : Nat → Nat} {X : Int64} {Y : Int32} (hm : m ≤ 32) (hg : ∀ b, b < n → ∃ c, c < m ∧ g b = nI c) (hpl : ∀ p, p < sd_rk s n → pl p < n ∧ s (pl p) = true ∧ sd_rk s (pl p) = p) (hj : j ≤ sd_rk s n) (hX : sd_XB s g i j X n) (hY : sd_YB g pl i Y j) :
    ∀ c, c < 32 → sd_bl X c = bt Y c ∧ (bt Y c = true → c < m) := by
  intro c hc
  have e : (∃ b, b < n ∧ sd_PX s g i j c b) ↔ (∃ b, b < j ∧ (i ≤ b ∧ g (pl b) = nI c)) := by
    constructor
    · rintro ⟨b, hb, h1, h2, h3, h4⟩
      obtain ⟨q1, q2, q3⟩ := hpl (sd_rk s b) (by omega)
      have := sd_rk_inj q2 h1 q3
      exact ⟨sd_rk s b, h3, h2, by rw [this]; exact h4⟩
    · rintro ⟨b, hb, h1, h2⟩
      obtain ⟨q1, q2, q3⟩ := hpl b (by omega)
      exact ⟨pl b, q1, q2, by omega, by omega, h2⟩
  refine ⟨?_, fun z => ?_⟩
  · have := (hX c hc).trans (e.trans (hY c hc).symm)
    cases h1 : sd_bl X c <;> cases h2 : bt Y c <;> simp_all
  · obtain ⟨b, hb, h1, h2⟩ := (hY c hc).mp z
    obtain ⟨q1, q2, q3⟩ := hpl b (by omega)
    obtain ⟨d, hd, ed⟩ := hg (pl b) q1
    rw [ed, nI_eq (by omega) (by omega)] at h2
    omega
/-- the digest's terms by place -/
theorem sd_w {n : Nat} (s : Nat → Bool) (f : Nat → Int32) : ∃ w : Nat → Int32, (∀ j, j < n → s j = true → (nI (sd_rk s j) + 1) * f j = w (sd_rk s j)) ∧ (∀ p, sd_rk s n ≤ p → w p = 0) := by
  obtain ⟨pl, hpl⟩ := sd_pl s n
  refine ⟨fun p => if p < sd_rk s n then (nI p + 1) * f (pl p) else 0, fun j hj hs => ?_, fun p hp => if_neg (by omega)⟩
  have h := sd_rk_lt hj hs
  obtain ⟨q1, q2, q3⟩ := hpl _ h
  have := sd_rk_inj q2 hs q3
  show _ = if sd_rk s j < sd_rk s n then (nI (sd_rk s j) + 1) * f (pl (sd_rk s j)) else 0
  rw [if_pos h, this]
theorem sd_covn {n m : Nat} {g o lx ly t cy : Nat → Int32} {cx : Nat → Int64} (I : sd_Inv n m g o lx ly t cy cx) {k : Nat} (hk : k < m) : sd_rk (fun c => bt (cy k) c) 32 = sd_rk (fun c => bt (cy k) c) m := by
  refine sd_rk_cut (fun c hc hb => ?_) I.2.1
  rcases Nat.lt_or_ge c 32 with h | h
  · have := (I.2.2.2.2.2.2 k hk c h).2 hb
    omega
  · have hb' : bt (cy k) c = true := hb
    rw [b_big h] at hb'
    cases hb'
end
section
/-! the component's walks, each against the pure picture -/
theorem sd_vb0 : vp_nar .boolean 0 = 0 := by decide
theorem sd_vb1 : vp_nar .boolean 1 = 1 := by decide
theorem sd_ui {f : Nat → Int32} {k : Nat} {x y : Int32} (hk : k < 2 ^ 31) (h : x = y) : upd f (nI k).toNatClampNeg x = upd f k y := by rw [nI_clamp hk, h]
theorem sd_uLi {f : Nat → Int64} {k : Nat} {x : Int64} (hk : k < 2 ^ 31) : vp_updL f (nI k).toNatClampNeg x = vp_updL f k x := by rw [nI_clamp hk]
section
variable {n m : Nat} {g o lx ly t cy : Nat → Int32} {cx : Nat → Int64}
theorem sd_xcov_l (I : sd_Inv n m g o lx ly t cy cx) {c : Nat} (hc : c < 32) (post : Int32 → Prop) (hp : post (nI (sd_rk (sd_on o cy c) m))) :
    ∀ d k : Nat, k + d = m → wX_coversThatAreOn_12 post ((1 : Int64) <<< ((nI c).toInt64 &&& 63)) (nI n) (nI m) g o lx cx (d + 1) (nI (sd_rk (sd_on o cy c) k)) (nI k) := by
  have hm := I.2.1
  intro d
  induction d with
  | zero =>
    intro k hk
    have e : k = m := by omega
    subst e
    exact br_t (nI_le (Nat.le_refl _) (by omega)) hp
  | succ d ih =>
    intro k hk
    have J := ih (k + 1) (by omega)
    refine br_f (nI_ge (by omega) (by omega)) ⟨vp_in_nI (by omega) (by omega), ?_⟩
    have hB := (I.2.2.2.2.2.2 k (by omega) c hc).1
    rw [nI_clamp (by omega)]
    by_cases ho : o k = 0
    · rw [sd_rk_f (fun z => (sd_on_iff.mp z).1 ho)] at J
      exact br_t ho (nm_r (nI_1 k) J)
    · refine br_f ho ⟨vp_in_nI (by omega) (by omega), ?_⟩
      cases hb : bt (cy k) c
      · rw [sd_rk_f (fun z => by rw [(sd_on_iff.mp z).2] at hb; cases hb)] at J
        exact br_t ((sd_xb _ hc).mpr (hB.trans hb)) (nm_r (nI_1 k) J)
      · rw [sd_rk_t (sd_on_iff.mpr ⟨ho, hb⟩)] at J
        exact br_f (fun z => by rw [sd_xb _ hc, hB, hb] at z; cases z) (nm_r (nI_1 _) (nm_r (nI_1 k) J))
theorem sd_xcov (I : sd_Inv n m g o lx ly t cy cx) {c : Nat} (hc : c < 32) (post : Int32 → Prop) (hp : post (nI (sd_rk (sd_on o cy c) m))) : wpX_coversThatAreOn post (nI n, nI m, g, o, lx, cx) (nI c) := by
  unfold wpX_coversThatAreOn wpX_bitOf
  exact ⟨m + 1, sd_xcov_l I hc post hp m 0 (by omega)⟩
theorem sd_xsh (I : sd_Inv n m g o lx ly t cy cx) {x : Int32} {c : Nat} (hx : x = nI c) (hc : c < m) (post : Int32 → Prop) (h1 : sd_sh o cy m c = true → post 1) (h0 : ¬ sd_sh o cy m c = true → post 0) : wpX_isShown post (nI n, nI m, g, o, lx, cx) x := by
  subst hx
  have hm := I.2.1
  have hr := sd_rk_le (sd_on o cy c) m
  unfold wpX_isShown
  refine ⟨vp_in_nI (by omega) (by omega), ?_⟩
  rw [nI_clamp (by omega)]
  by_cases ho : o c = 0
  · exact br_t ho (h0 (fun z => (sd_sh_iff.mp z).1 ho))
  · refine br_f ho (sd_xcov I (by omega) _ ?_)
    by_cases hz : sd_rk (sd_on o cy c) m = 0
    · exact br_t (by rw [hz]; rfl) (h1 (sd_sh_iff.mpr ⟨ho, hz⟩))
    · exact br_f (nI_ne0 (by omega) (by omega)) (h0 (fun z => hz (sd_sh_iff.mp z).2))
theorem sd_xshj (I : sd_Inv n m g o lx ly t cy cx) {j : Nat} (hj : j < n) {x : Int32} (hx : x = g j) (post : Int32 → Prop) (h1 : sd_s g o cy m j = true → post 1) (h0 : ¬ sd_s g o cy m j = true → post 0) : wpX_isShown post (nI n, nI m, g, o, lx, cx) x := by
  have hm := I.2.1
  obtain ⟨c, hc, e, -⟩ := I.2.2.1 j hj
  have es : sd_s g o cy m j = sd_sh o cy m c := sd_s_of e (by omega)
  exact sd_xsh I (hx.trans e) hc post (fun z => h1 (es.trans z)) (fun z => h0 (fun y => z (es.symm.trans y)))
theorem sd_xlen_l (I : sd_Inv n m g o lx ly t cy cx) (post : Int32 → Prop) (hp : post (nI (sd_rk (sd_s g o cy m) n))) :
    ∀ d j : Nat, j + d = n → wX_length_4 post (nI n) (nI m) g o lx cx (d + 1) (nI (sd_rk (sd_s g o cy m) j)) (nI j) := by
  have hm := I.2.1
  have hn := I.1
  intro d
  induction d with
  | zero =>
    intro j hj
    have e : j = n := by omega
    subst e
    exact br_t (nI_le (Nat.le_refl _) (by omega)) hp
  | succ d ih =>
    intro j hj
    have J := ih (j + 1) (by omega)
    refine br_f (nI_ge (by omega) (by omega)) ⟨vp_in_nI (by omega) (by omega), sd_xshj I (j := j) (by omega) (congrArg g (nI_clamp (by omega))) _ (fun z => ?_) (fun z => ?_)⟩
    · rw [sd_rk_t z] at J
      exact br_f (by decide) (nm_r (nI_1 _) (nm_r (nI_1 _) J))
    · rw [sd_rk_f z] at J
      exact br_t rfl (nm_r (nI_1 _) J)
theorem sd_xlen (I : sd_Inv n m g o lx ly t cy cx) (post : Int32 → Prop) (hp : post (nI (sd_rk (sd_s g o cy m) n))) : wpX_length post (nI n, nI m, g, o, lx, cx) := by
  unfold wpX_length
  exact ⟨n + 1, sd_xlen_l I post hp n 0 (by omega)⟩
theorem sd_xidx_l (I : sd_Inv n m g o lx ly t cy cx) (p : Int32) (post : Int32 → Prop) (h1 : ∀ i, i < n → sd_s g o cy m i = true → nI (sd_rk (sd_s g o cy m) i) = p → post (nI i)) (h0 : (∀ i, i < n → sd_s g o cy m i = true → ¬ nI (sd_rk (sd_s g o cy m) i) = p) → post (-4)) :
    ∀ d j : Nat, j + d = n → (∀ i, i < j → sd_s g o cy m i = true → ¬ nI (sd_rk (sd_s g o cy m) i) = p) → wX_listIndexOfPlace_4 post p (nI n) (nI m) g o lx cx (d + 1) (nI (sd_rk (sd_s g o cy m) j)) (nI j) := by
  have hm := I.2.1
  have hn := I.1
  intro d
  induction d with
  | zero =>
    intro j hj hb
    have e : j = n := by omega
    subst e
    exact br_t (nI_le (Nat.le_refl _) (by omega)) (h0 hb)
  | succ d ih =>
    intro j hj hb
    have J := ih (j + 1) (by omega)
    refine br_f (nI_ge (by omega) (by omega)) ⟨vp_in_nI (by omega) (by omega), sd_xshj I (j := j) (by omega) (congrArg g (nI_clamp (by omega))) _ (fun z => ?_) (fun z => ?_)⟩
    · rw [sd_rk_t z] at J
      exact br_f (by decide) (br_c (fun e => h1 j (by omega) z e) (fun e => nm_r (nI_1 _) (nm_r (nI_1 _) (J (lt_s hb (fun _ => e))))))
    · rw [sd_rk_f z] at J
      exact br_t rfl (nm_r (nI_1 _) (J (lt_s hb (fun y => absurd y z))))
theorem sd_xidx (I : sd_Inv n m g o lx ly t cy cx) (p : Int32) (post : Int32 → Prop) (h1 : ∀ i, i < n → sd_s g o cy m i = true → nI (sd_rk (sd_s g o cy m) i) = p → post (nI i)) (h0 : (∀ i, i < n → sd_s g o cy m i = true → ¬ nI (sd_rk (sd_s g o cy m) i) = p) → post (-4)) : wpX_listIndexOfPlace post (nI n, nI m, g, o, lx, cx) p := by
  unfold wpX_listIndexOfPlace
  exact ⟨n + 1, sd_xidx_l I p post h1 h0 n 0 (by omega) lt_0⟩
theorem sd_xwh_l (I : sd_Inv n m g o lx ly t cy cx) (p : Int32) (post : Int32 → Prop) (h1 : ∀ i, i < n → sd_s g o cy m i = true → g i = p → post (nI (sd_rk (sd_s g o cy m) i))) (h0 : (∀ i, i < n → sd_s g o cy m i = true → ¬ g i = p) → post (-4)) :
    ∀ d j : Nat, j + d = n → (∀ i, i < j → sd_s g o cy m i = true → ¬ g i = p) → wX_where_4 post p (nI n) (nI m) g o lx cx (d + 1) (nI (sd_rk (sd_s g o cy m) j)) (nI j) := by
  have hm := I.2.1
  have hn := I.1
  intro d
  induction d with
  | zero =>
    intro j hj hb
    have e : j = n := by omega
    subst e
    exact br_t (nI_le (Nat.le_refl _) (by omega)) (h0 hb)
  | succ d ih =>
    intro j hj hb
    have J := ih (j + 1) (by omega)
    refine br_f (nI_ge (by omega) (by omega)) ⟨vp_in_nI (by omega) (by omega), nm_r (congrArg g (nI_clamp (by omega))) (sd_xshj I (j := j) (by omega) rfl _ (fun z => ?_) (fun z => ?_))⟩
    · rw [sd_rk_t z] at J
      exact br_f (by decide) (br_c (fun e => h1 j (by omega) z e) (fun e => nm_r (nI_1 _) (nm_r (nI_1 _) (J (lt_s hb (fun _ => e))))))
    · rw [sd_rk_f z] at J
      exact br_t rfl (nm_r (nI_1 _) (J (lt_s hb (fun y => absurd y z))))
theorem sd_xwh (I : sd_Inv n m g o lx ly t cy cx) (p : Int32) (post : Int32 → Prop) (h1 : ∀ i, i < n → sd_s g o cy m i = true → g i = p → post (nI (sd_rk (sd_s g o cy m) i))) (h0 : (∀ i, i < n → sd_s g o cy m i = true → ¬ g i = p) → post (-4)) : wpX_where post (nI n, nI m, g, o, lx, cx) p := by
  unfold wpX_where
  exact ⟨n + 1, sd_xwh_l I p post h1 h0 n 0 (by omega) lt_0⟩
theorem sd_xbit (post : Int64 → Prop) (u : SX) (x : Int32) (hp : post ((1 : Int64) <<< (x.toInt64 &&& 63))) : wpX_bitOf post u x := hp
theorem sd_xcp_l (I : sd_Inv n m g o lx ly t cy cx) {i j : Nat} (hi : i < 2 ^ 31) (hj : j < 2 ^ 31) (post : Int64 → Prop) (hp : ∀ X, sd_XB (sd_s g o cy m) g i j X n → post X) :
    ∀ (d a : Nat) (X : Int64), a + d = n → sd_XB (sd_s g o cy m) g i j X a → wX_coverOfPlaces_8 post (nI i) (nI j) (nI n) (nI m) g o lx cx (d + 1) X (nI (sd_rk (sd_s g o cy m) a)) (nI a) := by
  have hm := I.2.1
  have hn := I.1
  intro d
  induction d with
  | zero =>
    intro a X ha hX
    have e : a = n := by omega
    subst e
    exact br_t (nI_le (Nat.le_refl _) (by omega)) (hp X hX)
  | succ d ih =>
    intro a X ha hX
    have hr := sd_rk_le (sd_s g o cy m) a
    have J := fun Z => ih (a + 1) Z (by omega)
    refine br_f (nI_ge (by omega) (by omega)) ⟨vp_in_nI (by omega) (by omega), nm_r (congrArg g (nI_clamp (by omega))) (sd_xshj I (j := a) (by omega) rfl _ (fun z => ?_) (fun z => ?_))⟩
    · rw [sd_rk_t z] at J
      refine br_f (by decide) (pk_lt (sd_rk (sd_s g o cy m) a) i (fun h => ?_) (fun h => pk_le j (sd_rk (sd_s g o cy m) a) (fun h2 => ?_) (fun h2 => sd_xbit _ _ _ ?_)))
      · exact nm_r (nI_1 _) (nm_r (nI_1 _) (J X (sd_XB_out hX (fun y => by omega))))
      · exact nm_r (nI_1 _) (nm_r (nI_1 _) (J X (sd_XB_out hX (fun y => by omega))))
      · obtain ⟨c, hc, e, -⟩ := I.2.2.1 a (by omega)
        exact nm_r (by rw [e]) (nm_r (nI_1 _) (nm_r (nI_1 _) (J _ (sd_XB_in hX z h h2 (by omega) e))))
    · rw [sd_rk_f z] at J
      exact br_t rfl (nm_r (nI_1 _) (J X (sd_XB_out hX (fun y => z y.1))))
theorem sd_xcp (I : sd_Inv n m g o lx ly t cy cx) {i j : Nat} (hi : i < 2 ^ 31) (hj : j < 2 ^ 31) (post : Int64 → Prop) (hp : ∀ X, sd_XB (sd_s g o cy m) g i j X n → post X) : wpX_coverOfPlaces post (nI n, nI m, g, o, lx, cx) (nI i) (nI j) := by
  unfold wpX_coverOfPlaces
  exact ⟨n + 1, sd_xcp_l I hi hj post hp n 0 0 (by omega) sd_XB0⟩
theorem sd_xins_l {idx : Nat} (hi : idx ≤ n) (hn : n < 48) (post : SX → Prop) (x : Int32) (hp : post (nI (n + 1), nI m, upd (sd_A g n idx) idx x, o, lx, cx)) :
    ∀ d : Nat, idx + d ≤ n → wX_insertIntoList_5 post (nI idx) x (nI n) (nI m) (d + 1) (nI (idx + d)) (sd_A g n (idx + d)) o lx cx := by
  intro d
  induction d with
  | zero =>
    intro hd
    exact br_t (nI_le (Nat.le_refl _) (by omega)) ⟨vp_in_nI (by omega) (by omega), nm_r (sd_ui (by omega) rfl) (nm_r (nI_1 n) hp)⟩
  | succ d ih =>
    intro hd
    have e : nI (idx + (d + 1)) - 1 = nI (idx + d) := nI_pred (idx + d)
    refine br_f (nI_ge (by omega) (by omega)) ?_
    rw [e]
    refine ⟨vp_in_nI (by omega) (by omega), vp_in_nI (by omega) (by omega), nm_r ?_ (nm_r (pk_m1 (idx + d)) (ih (by omega)))⟩
    rw [nI_clamp (by omega), nI_clamp (by omega)]
    exact sd_A_s (by omega)
theorem sd_xins {idx : Nat} (hi : idx ≤ n) (hn : n < 48) (post : SX → Prop) (x : Int32) (hp : post (nI (n + 1), nI m, upd (sd_A g n idx) idx x, o, lx, cx)) : wpX_insertIntoList post (nI n, nI m, g, o, lx, cx) (nI idx) x := by
  have J := sd_xins_l (m := m) (g := g) (o := o) (lx := lx) (cx := cx) hi hn post x hp (n - idx) (by omega)
  rw [show idx + (n - idx) = n by omega, sd_A_n] at J
  unfold wpX_insertIntoList
  exact ⟨n - idx + 1, J⟩
theorem sd_xadd (hm : m < 32) (post : Int32 → SX → Prop) (x : Int32) (y : Int64) (hp : post (nI m) (nI n, nI (m + 1), g, upd o m 1, upd lx m x, vp_updL cx m y)) : wpX_addChange post (nI n, nI m, g, o, lx, cx) x y := by
  have h : vp_in (nI m) 32 := vp_in_nI hm (by omega)
  unfold wpX_addChange
  exact ⟨h, nm_r (sd_ui (by omega) rfl) ⟨h, nm_r (sd_uLi (by omega)) ⟨h, nm_r (sd_ui (by omega) sd_vb1) (nm_r (nI_1 m) hp)⟩⟩⟩
theorem sd_xdig_l (I : sd_Inv n m g o lx ly t cy cx) (w : Nat → Int32) (hw : ∀ j, j < n → sd_s g o cy m j = true → (nI (sd_rk (sd_s g o cy m) j) + 1) * (lx (g j).toNatClampNeg + 1) = w (sd_rk (sd_s g o cy m) j)) (post : Int32 → Prop) (hp : post (sd_F w (sd_rk (sd_s g o cy m) n))) :
    ∀ d j : Nat, j + d = n → wX_digest_6 post (nI n) (nI m) g o lx cx (d + 1) (sd_F w (sd_rk (sd_s g o cy m) j)) (nI (sd_rk (sd_s g o cy m) j)) (nI j) := by
  have hm := I.2.1
  have hn := I.1
  intro d
  induction d with
  | zero =>
    intro j hj
    have e : j = n := by omega
    subst e
    exact br_t (nI_le (Nat.le_refl _) (by omega)) hp
  | succ d ih =>
    intro j hj
    have J := ih (j + 1) (by omega)
    obtain ⟨c, hc, e, -⟩ := I.2.2.1 j (by omega)
    refine br_f (nI_ge (by omega) (by omega)) ⟨vp_in_nI (by omega) (by omega), nm_r (congrArg g (nI_clamp (by omega))) (sd_xshj I (j := j) (by omega) rfl _ (fun z => ?_) (fun z => ?_))⟩
    · rw [sd_rk_t z] at J
      exact br_f (by decide) ⟨by rw [e]; exact vp_in_nI (by omega) (by omega), nm_r (by rw [hw j (by omega) z]; rfl) (nm_r (nI_1 _) (nm_r (nI_1 _) J))⟩
    · rw [sd_rk_f z] at J
      exact br_t rfl (nm_r (nI_1 _) J)
theorem sd_xdig (I : sd_Inv n m g o lx ly t cy cx) (w : Nat → Int32) (hw : ∀ j, j < n → sd_s g o cy m j = true → (nI (sd_rk (sd_s g o cy m) j) + 1) * (lx (g j).toNatClampNeg + 1) = w (sd_rk (sd_s g o cy m) j)) (post : Int32 → Prop) (hp : post (sd_F w (sd_rk (sd_s g o cy m) n))) : wpX_digest post (nI n, nI m, g, o, lx, cx) := by
  unfold wpX_digest
  exact ⟨n + 1, sd_xdig_l I w hw post hp n 0 (by omega)⟩
theorem sd_xcn_l (I : sd_Inv n m g o lx ly t cy cx) {k : Nat} (hk : k < m) (post : Int32 → Prop) (hp : post (nI (sd_rk (fun c => bt (cy k) c) m))) :
    ∀ d c : Nat, c + d = m → wX_covers_14 post (nI k) (nI n) (nI m) g o lx cx (d + 1) (nI (sd_rk (fun c => bt (cy k) c) c)) (nI c) := by
  have hm := I.2.1
  intro d
  induction d with
  | zero =>
    intro c hc
    have e : c = m := by omega
    subst e
    exact br_t (nI_le (Nat.le_refl _) (by omega)) hp
  | succ d ih =>
    intro c hc
    have J := ih (c + 1) (by omega)
    have hB := (I.2.2.2.2.2.2 k hk c (by omega)).1
    refine br_f (nI_ge (by omega) (by omega)) ⟨vp_in_nI (by omega) (by omega), sd_xbit _ _ _ ?_⟩
    rw [nI_clamp (by omega)]
    cases hb : bt (cy k) c
    · rw [sd_rk_f (s := fun c => bt (cy k) c) (fun z => by rw [show bt (cy k) c = true from z] at hb; cases hb)] at J
      exact br_t ((sd_xb _ (by omega)).mpr (hB.trans hb)) (nm_r (nI_1 _) J)
    · rw [sd_rk_t (s := fun c => bt (cy k) c) hb] at J
      exact br_f (fun z => by rw [sd_xb _ (by omega), hB, hb] at z; cases z) (nm_r (nI_1 _) (nm_r (nI_1 _) J))
theorem sd_xic0 {x : Int32} (h : x < 0 ∨ nI m ≤ x) (post : Int32 → Prop) (hp : post 0) : wpX_isChange post (nI n, nI m, g, o, lx, cx) x := by
  unfold wpX_isChange
  by_cases h0 : x < 0
  · exact br_t h0 hp
  · exact br_f h0 (br_t (h.resolve_left h0) hp)
theorem sd_xic1 {k : Nat} (hk : k < m) (hm : m ≤ 32) (post : Int32 → Prop) (hp : post 1) : wpX_isChange post (nI n, nI m, g, o, lx, cx) (nI k) := by
  unfold wpX_isChange
  exact br_f (nI_pos (by omega)) (br_f (nI_ge hk (by omega)) hp)
end
end
section
/-! the reference's walks, each against the pure picture -/
section
variable {n m : Nat} {g o lx ly t cy : Nat → Int32} {cx : Nat → Int64}
theorem sd_ycov_l (I : sd_Inv n m g o lx ly t cy cx) {c : Nat} (hc : c < 32) (post : Int32 → Prop) (hp : post (nI (sd_rk (sd_on o cy c) m))) :
    ∀ d k : Nat, k + d = m → wY_coversOf_4 post (nI c) (nI n) (nI m) g t ly cy o (d + 1) (nI (sd_rk (sd_on o cy c) k)) (nI k) := by
  have hm := I.2.1
  intro d
  induction d with
  | zero =>
    intro k hk
    have e : k = m := by omega
    subst e
    exact br_t (nI_le (Nat.le_refl _) (by omega)) hp
  | succ d ih =>
    intro k hk
    have J := ih (k + 1) (by omega)
    refine br_f (nI_ge (by omega) (by omega)) ⟨vp_in_nI (by omega) (by omega), ?_⟩
    rw [nI_clamp (by omega)]
    by_cases ho : o k = 0
    · rw [sd_rk_f (fun z => (sd_on_iff.mp z).1 ho)] at J
      exact br_t ho (nm_r (nI_1 k) J)
    · refine br_f ho ⟨vp_in_nI (by omega) (by omega), ?_⟩
      rw [sd_yb _ hc]
      by_cases hb : bt (cy k) c = true
      · rw [sd_rk_t (sd_on_iff.mpr ⟨ho, hb⟩)] at J
        exact br_t (if_pos hb) (nm_r (nI_1 _) (nm_r (nI_1 k) J))
      · rw [sd_rk_f (fun z => hb (sd_on_iff.mp z).2)] at J
        exact br_f (by rw [if_neg hb]; decide) (nm_r (nI_1 k) J)
theorem sd_ycov (I : sd_Inv n m g o lx ly t cy cx) {c : Nat} (hc : c < 32) (post : Int32 → Prop) (hp : post (nI (sd_rk (sd_on o cy c) m))) : wpY_coversOf post (nI n, nI m, g, t, ly, cy, o) (nI c) := by
  unfold wpY_coversOf
  exact ⟨m + 1, sd_ycov_l I hc post hp m 0 (by omega)⟩
theorem sd_ysh (I : sd_Inv n m g o lx ly t cy cx) {x : Int32} {c : Nat} (hx : x = nI c) (hc : c < m) (post : Int32 → Prop) (h1 : sd_sh o cy m c = true → post 1) (h0 : ¬ sd_sh o cy m c = true → post 0) : wpY_isShown post (nI n, nI m, g, t, ly, cy, o) x := by
  subst hx
  have hm := I.2.1
  have hr := sd_rk_le (sd_on o cy c) m
  unfold wpY_isShown
  refine ⟨vp_in_nI (by omega) (by omega), ?_⟩
  rw [nI_clamp (by omega)]
  by_cases ho : o c = 0
  · exact br_t ho (h0 (fun z => (sd_sh_iff.mp z).1 ho))
  · refine br_f ho (sd_ycov I (by omega) _ ?_)
    by_cases hz : sd_rk (sd_on o cy c) m = 0
    · exact br_t (by rw [hz]; rfl) (h1 (sd_sh_iff.mpr ⟨ho, hz⟩))
    · exact br_f (nI_ne0 (by omega) (by omega)) (h0 (fun z => hz (sd_sh_iff.mp z).2))
theorem sd_yshj (I : sd_Inv n m g o lx ly t cy cx) {j : Nat} (hj : j < n) {x : Int32} (hx : x = g j) (post : Int32 → Prop) (h1 : sd_s g o cy m j = true → post 1) (h0 : ¬ sd_s g o cy m j = true → post 0) : wpY_isShown post (nI n, nI m, g, t, ly, cy, o) x := by
  have hm := I.2.1
  obtain ⟨c, hc, e, -⟩ := I.2.2.1 j hj
  have es : sd_s g o cy m j = sd_sh o cy m c := sd_s_of e (by omega)
  exact sd_ysh I (hx.trans e) hc post (fun z => h1 (es.trans z)) (fun z => h0 (fun y => z (es.symm.trans y)))
theorem sd_ylen_l (I : sd_Inv n m g o lx ly t cy cx) (post : Int32 → Prop) (hp : post (nI (sd_rk (sd_s g o cy m) n))) :
    ∀ d j : Nat, j + d = n → wY_length_4 post (nI n) (nI m) g t ly cy o (d + 1) (nI (sd_rk (sd_s g o cy m) j)) (nI j) := by
  have hm := I.2.1
  have hn := I.1
  intro d
  induction d with
  | zero =>
    intro j hj
    have e : j = n := by omega
    subst e
    exact br_t (nI_le (Nat.le_refl _) (by omega)) hp
  | succ d ih =>
    intro j hj
    have J := ih (j + 1) (by omega)
    refine br_f (nI_ge (by omega) (by omega)) ⟨vp_in_nI (by omega) (by omega), sd_yshj I (j := j) (by omega) (congrArg g (nI_clamp (by omega))) _ (fun z => ?_) (fun z => ?_)⟩
    · rw [sd_rk_t z] at J
      exact br_f (by decide) (nm_r (nI_1 _) (nm_r (nI_1 _) J))
    · rw [sd_rk_f z] at J
      exact br_t rfl (nm_r (nI_1 _) J)
theorem sd_ylen (I : sd_Inv n m g o lx ly t cy cx) (post : Int32 → Prop) (hp : post (nI (sd_rk (sd_s g o cy m) n))) : wpY_length post (nI n, nI m, g, t, ly, cy, o) := by
  unfold wpY_length
  exact ⟨n + 1, sd_ylen_l I post hp n 0 (by omega)⟩
theorem sd_ych_l (I : sd_Inv n m g o lx ly t cy cx) (p : Int32) (post : Int32 → Prop) (h1 : ∀ i, i < n → sd_s g o cy m i = true → nI (sd_rk (sd_s g o cy m) i) = p → post (g i)) (h0 : (∀ i, i < n → sd_s g o cy m i = true → ¬ nI (sd_rk (sd_s g o cy m) i) = p) → post (-4)) :
    ∀ d j : Nat, j + d = n → (∀ i, i < j → sd_s g o cy m i = true → ¬ nI (sd_rk (sd_s g o cy m) i) = p) → wY_charAt_4 post p (nI n) (nI m) g t ly cy o (d + 1) (nI (sd_rk (sd_s g o cy m) j)) (nI j) := by
  have hm := I.2.1
  have hn := I.1
  intro d
  induction d with
  | zero =>
    intro j hj hb
    have e : j = n := by omega
    subst e
    exact br_t (nI_le (Nat.le_refl _) (by omega)) (h0 hb)
  | succ d ih =>
    intro j hj hb
    have J := ih (j + 1) (by omega)
    have hv : vp_in (nI j) 32 := vp_in_nI (by omega) (by omega)
    refine br_f (nI_ge (by omega) (by omega)) ⟨hv, sd_yshj I (j := j) (by omega) (congrArg g (nI_clamp (by omega))) _ (fun z => ?_) (fun z => ?_)⟩
    · rw [sd_rk_t z] at J
      refine br_f (by decide) (br_c (fun e => ⟨hv, ?_⟩) (fun e => nm_r (nI_1 _) (nm_r (nI_1 _) (J (lt_s hb (fun _ => e))))))
      rw [nI_clamp (by omega)]
      exact h1 j (by omega) z e
    · rw [sd_rk_f z] at J
      exact br_t rfl (nm_r (nI_1 _) (J (lt_s hb (fun y => absurd y z))))
theorem sd_ych (I : sd_Inv n m g o lx ly t cy cx) (p : Int32) (post : Int32 → Prop) (h1 : ∀ i, i < n → sd_s g o cy m i = true → nI (sd_rk (sd_s g o cy m) i) = p → post (g i)) (h0 : (∀ i, i < n → sd_s g o cy m i = true → ¬ nI (sd_rk (sd_s g o cy m) i) = p) → post (-4)) : wpY_charAt post (nI n, nI m, g, t, ly, cy, o) p := by
  unfold wpY_charAt
  exact ⟨n + 1, sd_ych_l I p post h1 h0 n 0 (by omega) lt_0⟩
/-- the reference's where: place by place -/
theorem sd_ywh_l (I : sd_Inv n m g o lx ly t cy cx) (p : Int32) (post : Int32 → Prop) (h1 : ∀ i, i < n → sd_s g o cy m i = true → g i = p → post (nI (sd_rk (sd_s g o cy m) i))) (h0 : (∀ i, i < n → sd_s g o cy m i = true → ¬ g i = p) → post (-4)) :
    ∀ d q : Nat, q + d = 32 → (∀ i, i < n → sd_s g o cy m i = true → sd_rk (sd_s g o cy m) i < q → ¬ g i = p) → wY_where_2 post p (nI n) (nI m) g t ly cy o (d + 1) (nI q) := by
  have hm := I.2.1
  have hn := I.1
  intro d
  induction d with
  | zero =>
    intro q hq hb
    have e : q = 32 := by omega
    subst e
    exact br_t (nI_le (Nat.le_refl 32) (by omega)) (h0 (fun i hi si => hb i hi si (by have := sd_rk_le (sd_s g o cy m) i; omega)))
  | succ d ih =>
    intro q hq hb
    have J := ih (q + 1) (by omega)
    refine br_f (nI_ge (b := 32) (by omega) (by decide)) (sd_ych I (nI q) _ (fun i hi si e => ?_) (fun hz => ?_))
    · have hr := sd_rk_le (sd_s g o cy m) i
      rw [nI_eq (by omega) (by omega)] at e
      obtain ⟨c, hc, ec, -⟩ := I.2.2.1 i hi
      refine br_c (fun e2 => br_f (by rw [ec]; exact nI_pos (by omega)) (by rw [← e]; exact h1 i hi si e2)) (fun e2 => nm_r (nI_1 _) (J (fun i' hi' si' hr' => ?_)))
      by_cases e3 : sd_rk (sd_s g o cy m) i' = q
      · rw [sd_rk_inj si' si (e3.trans e.symm)]; exact e2
      · exact hb i' hi' si' (by omega)
    · have J2 := J (fun i' hi' si' hr' => by
        by_cases e3 : sd_rk (sd_s g o cy m) i' = q
        · exact absurd (congrArg nI e3) (hz i' hi' si')
        · exact hb i' hi' si' (by omega))
      exact br_c (fun _ => br_t (by decide) (nm_r (nI_1 _) J2)) (fun _ => nm_r (nI_1 _) J2)
theorem sd_ywh (I : sd_Inv n m g o lx ly t cy cx) (p : Int32) (post : Int32 → Prop) (h1 : ∀ i, i < n → sd_s g o cy m i = true → g i = p → post (nI (sd_rk (sd_s g o cy m) i))) (h0 : (∀ i, i < n → sd_s g o cy m i = true → ¬ g i = p) → post (-4)) : wpY_where post (nI n, nI m, g, t, ly, cy, o) p := by
  unfold wpY_where
  exact ⟨32 + 1, sd_ywh_l I p post h1 h0 32 0 (by omega) (fun i _ _ h => absurd h (Nat.not_lt_zero _))⟩
/-- the reference's digest: place by place -/
theorem sd_ydig_l (I : sd_Inv n m g o lx ly t cy cx) (w : Nat → Int32) (hw : ∀ j, j < n → sd_s g o cy m j = true → (nI (sd_rk (sd_s g o cy m) j) + 1) * (ly (g j).toNatClampNeg + 1) = w (sd_rk (sd_s g o cy m) j)) (hw0 : ∀ p, sd_rk (sd_s g o cy m) n ≤ p → w p = 0) (post : Int32 → Prop) (hp : post (sd_F w 32)) :
    ∀ d q : Nat, q + d = 32 → wY_digest_4 post (nI n) (nI m) g t ly cy o (d + 1) (sd_F w q) (nI q) := by
  have hm := I.2.1
  have hn := I.1
  intro d
  induction d with
  | zero =>
    intro q hq
    have e : q = 32 := by omega
    subst e
    exact br_t (nI_le (Nat.le_refl 32) (by omega)) hp
  | succ d ih =>
    intro q hq
    have J := ih (q + 1) (by omega)
    refine br_f (nI_ge (b := 32) (by omega) (by decide)) (sd_ych I (nI q) _ (fun i hi si e => ?_) (fun hz => ?_))
    · have hr := sd_rk_le (sd_s g o cy m) i
      rw [nI_eq (by omega) (by omega)] at e
      obtain ⟨c, hc, ec, -⟩ := I.2.2.1 i hi
      have hv := hw i hi si
      rw [e] at hv
      exact br_t (by rw [ec]; exact nI_pos' (by omega)) ⟨by rw [ec]; exact vp_in_nI (by omega) (by omega), nm_r (by rw [hv]; rfl) (nm_r (nI_1 _) J)⟩
    · have hq2 : sd_rk (sd_s g o cy m) n ≤ q := by
        rcases Nat.lt_or_ge q (sd_rk (sd_s g o cy m) n) with h | h
        · obtain ⟨i, hi, si, e⟩ := sd_rk_surj h
          exact absurd (congrArg nI e) (hz i hi si)
        · exact h
      have e : sd_F w (q + 1) = sd_F w q := by
        show sd_F w q + w q = _
        rw [hw0 q hq2, Int32.add_zero]
      rw [e] at J
      exact br_f (by decide) (nm_r (nI_1 _) J)
theorem sd_ydig (I : sd_Inv n m g o lx ly t cy cx) (w : Nat → Int32) (hw : ∀ j, j < n → sd_s g o cy m j = true → (nI (sd_rk (sd_s g o cy m) j) + 1) * (ly (g j).toNatClampNeg + 1) = w (sd_rk (sd_s g o cy m) j)) (hw0 : ∀ p, sd_rk (sd_s g o cy m) n ≤ p → w p = 0) (post : Int32 → Prop) (hp : post (sd_F w 32)) : wpY_digest post (nI n, nI m, g, t, ly, cy, o) := by
  unfold wpY_digest
  exact ⟨32 + 1, sd_ydig_l I w hw hw0 post hp 32 0 (by omega)⟩
theorem sd_ycn_l (hm : m ≤ 32) {k : Nat} (hk : k < m) (post : Int32 → Prop) (hp : post (nI (sd_rk (fun c => bt (cy k) c) 32))) :
    ∀ d c : Nat, c + d = 32 → wY_covers_14 post (nI k) (nI n) (nI m) g t ly cy o (d + 1) (nI (sd_rk (fun c => bt (cy k) c) c)) (nI c) := by
  intro d
  induction d with
  | zero =>
    intro c hc
    have e : c = 32 := by omega
    subst e
    exact br_t (nI_le (Nat.le_refl 32) (by omega)) hp
  | succ d ih =>
    intro c hc
    have J := ih (c + 1) (by omega)
    refine br_f (nI_ge (b := 32) (by omega) (by decide)) ⟨vp_in_nI (by omega) (by omega), ?_⟩
    rw [nI_clamp (by omega), sd_yb _ (by omega)]
    by_cases hb : bt (cy k) c = true
    · rw [sd_rk_t (s := fun c => bt (cy k) c) hb] at J
      exact nm_r (by rw [if_pos hb]; exact nI_1 _) (nm_r (nI_1 _) J)
    · rw [sd_rk_f (s := fun c => bt (cy k) c) hb] at J
      exact nm_r (by rw [if_neg hb]; exact Int32.add_zero _) (nm_r (nI_1 _) J)
theorem sd_yty99 (hm : m < 32) {idx : Nat} (hi : idx ≤ n) (hn : n ≤ m) (x : Int32) (G : Nat → Int32) (post : Int32 → SY → Prop) (hp : post (nI m) (nI (n + 1), nI (m + 1), upd G idx (nI m), upd t m 1, upd ly m x, upd cy m 0, upd o m 1)) : wY_type_99 post x (nI idx) (nI n) (nI m) G t ly cy o := by
  have h : vp_in (nI m) 32 := vp_in_nI hm (by omega)
  unfold wY_type_99
  refine ⟨vp_in_nI (by omega) (by omega), nm_r (sd_ui (by omega) rfl) (nm_r (nI_1 n) ⟨h, nm_r (sd_ui (by omega) sd_vb1) ⟨h, nm_r (sd_ui (by omega) rfl) ⟨h, nm_r (sd_ui (by omega) rfl) ⟨h, nm_r (sd_ui (by omega) sd_vb1) (nm_r (nI_1 m) ?_)⟩⟩⟩⟩)⟩
  rw [nI_pred]
  exact hp
theorem sd_yty_l (hm : m < 32) (hn : n ≤ m) {idx : Nat} (hi : idx ≤ n) {b : Int32} (h1 : ∀ j, idx ≤ j → j < n → ¬ g j = b) (h2 : idx = 0 ∨ ∃ i, idx = i + 1 ∧ g i = b) (x : Int32) (post : Int32 → SY → Prop) (hp : post (nI m) (nI (n + 1), nI (m + 1), upd (sd_A g n idx) idx (nI m), upd t m 1, upd ly m x, upd cy m 0, upd o m 1)) :
    ∀ d : Nat, idx + d ≤ n → wY_type_59 post x b (nI n) (nI m) (d + 1) (nI (idx + d)) (sd_A g n (idx + d)) t ly cy o := by
  intro d
  induction d with
  | zero =>
    intro hd
    have J := sd_yty99 (t := t) (ly := ly) (cy := cy) (o := o) hm hi hn x (sd_A g n idx) post hp
    rcases h2 with rfl | ⟨i, rfl, e⟩
    · exact br_t (nI_le (a := 0) (b := 0) (Nat.le_refl 0) (by decide)) J
    · refine br_f (nI_nle (by omega) (by omega)) ?_
      have e1 : nI (i + 1 + 0) - 1 = nI i := nI_pred i
      rw [e1]
      refine ⟨vp_in_nI (by omega) (by omega), br_t ?_ J⟩
      rw [nI_clamp (by omega), sd_A_le (by omega)]
      exact e
  | succ d ih =>
    intro hd
    have e : nI (idx + (d + 1)) - 1 = nI (idx + d) := nI_pred (idx + d)
    refine br_f (nI_nle (by omega) (by omega)) ?_
    rw [e]
    refine ⟨vp_in_nI (by omega) (by omega), br_f ?_ ⟨vp_in_nI (by omega) (by omega), vp_in_nI (by omega) (by omega), nm_r ?_ (nm_r (pk_m1 (idx + d)) (ih (by omega)))⟩⟩
    · rw [nI_clamp (by omega), sd_A_le (by omega)]
      exact h1 (idx + d) (by omega) (by omega)
    · rw [nI_clamp (by omega), nI_clamp (by omega)]
      exact sd_A_s (by omega)
theorem sd_yty (hm : m < 32) (hn : n ≤ m) {idx : Nat} (hi : idx ≤ n) {b : Int32} (h1 : ∀ j, idx ≤ j → j < n → ¬ g j = b) (h2 : idx = 0 ∨ ∃ i, idx = i + 1 ∧ g i = b) (x : Int32) (post : Int32 → SY → Prop) (hp : post (nI m) (nI (n + 1), nI (m + 1), upd (sd_A g n idx) idx (nI m), upd t m 1, upd ly m x, upd cy m 0, upd o m 1)) : ∃ n59 : Nat, wY_type_59 post x b (nI n) (nI m) n59 (nI n) g t ly cy o := by
  have J := sd_yty_l (g := g) (t := t) (ly := ly) (cy := cy) (o := o) hm hn hi h1 h2 x post hp (n - idx) (by omega)
  rw [show idx + (n - idx) = n by omega, sd_A_n] at J
  exact ⟨n - idx + 1, J⟩
theorem sd_yer_l (I : sd_Inv n m g o lx ly t cy cx) (hm : m < 32) {i j : Nat} {pl : Nat → Nat} (hpl : ∀ p, p < sd_rk (sd_s g o cy m) n → pl p < n ∧ sd_s g o cy m (pl p) = true ∧ sd_rk (sd_s g o cy m) (pl p) = p) (hj : j ≤ sd_rk (sd_s g o cy m) n) (post : Int32 → SY → Prop) (hp : ∀ Y, sd_YB g pl i Y j → post (nI m) (nI n, nI (m + 1), g, upd t m 0, ly, upd cy m Y, upd o m 1)) :
    ∀ (d p : Nat) (Y : Int32), p + d = j → i ≤ p → sd_YB g pl i Y p → wY_erase_36 post (nI j) (nI n) (nI m) g t ly cy o (d + 1) Y (nI p) := by
  have hn := I.1
  have hrn := sd_rk_le (sd_s g o cy m) n
  intro d
  induction d with
  | zero =>
    intro p Y hpj hip hY
    have e : p = j := by omega
    subst e
    have h : vp_in (nI m) 32 := vp_in_nI hm (by omega)
    refine br_t (nI_le (Nat.le_refl _) (by omega)) ⟨h, nm_r (sd_ui (by omega) sd_vb0) ⟨h, nm_r (sd_ui (by omega) rfl) ⟨h, nm_r (sd_ui (by omega) sd_vb1) (nm_r (nI_1 m) ?_)⟩⟩⟩
    rw [nI_pred]
    exact hp Y hY
  | succ d ih =>
    intro p Y hpj hip hY
    obtain ⟨q1, q2, q3⟩ := hpl p (by omega)
    refine br_f (nI_ge (by omega) (by omega)) (sd_ych I (nI p) _ (fun a ha sa e => ?_) (fun hz => absurd (congrArg nI q3) (hz _ q1 q2)))
    have hr := sd_rk_le (sd_s g o cy m) a
    rw [nI_eq (by omega) (by omega)] at e
    have ea : a = pl p := sd_rk_inj sa q2 (e.trans q3.symm)
    obtain ⟨c, hc, ec, -⟩ := I.2.2.1 a ha
    rw [ec]
    exact br_t (nI_pos' (by omega)) (nm_e (nm_r (nI_1 _) (ih (p + 1) _ (by omega) (by omega) (sd_YB_s hY hip (by omega) (by rw [← ea]; exact ec)))))
theorem sd_yic0 {x : Int32} (h : x < 0 ∨ nI m ≤ x) (post : Int32 → Prop) (hp : post 0) : wpY_isChange post (nI n, nI m, g, t, ly, cy, o) x := by
  unfold wpY_isChange
  by_cases h0 : x < 0
  · exact br_t h0 hp
  · exact br_f h0 (br_t (h.resolve_left h0) hp)
theorem sd_yic1 {k : Nat} (hk : k < m) (hm : m ≤ 32) (post : Int32 → Prop) (hp : post 1) : wpY_isChange post (nI n, nI m, g, t, ly, cy, o) (nI k) := by
  unfold wpY_isChange
  exact br_f (nI_pos (by omega)) (br_f (nI_ge hk (by omega)) hp)
end
end
section
/-! both at once: undo, redo, flip, put -/
section
variable {n m : Nat} {g o lx ly t cy : Nat → Int32} {cx : Nat → Int64}
theorem sd_sub1 (d : Nat) : nI d + (-1) = nI d - 1 := (Int32.sub_eq_add_neg (nI d) 1).symm
theorem sd_undo_l (hm : m ≤ 32) (h01 : ∀ k, o k = 0 ∨ o k = 1) : ∀ d : Nat, d ≤ m → ∃ (r : Int32) (o' : Nat → Int32), (∀ k, o' k = 0 ∨ o' k = 1) ∧ (∀ post : Int32 → SX → Prop, post r (nI n, nI m, g, o', lx, cx) → wX_undo_7 post (nI n) (nI m) g o lx cx (d + 1) (nI d - 1)) ∧ (∀ post : Int32 → SY → Prop, post r (nI n, nI m, g, t, ly, cy, o') → wY_undo_7 post (nI n) (nI m) g t ly cy o (d + 1) (nI d - 1)) := by
  intro d
  induction d with
  | zero =>
    intro _
    have h : nI 0 - 1 < 0 := by decide
    exact ⟨-4, o, h01, fun post hp => br_t h hp, fun post hp => br_t h hp⟩
  | succ d ih =>
    intro hd
    rw [nI_pred]
    have hv : vp_in (nI d) 32 := vp_in_nI (by omega) (by omega)
    have h0 : ¬ nI d < 0 := nI_pos (by omega)
    have hc : (nI d).toNatClampNeg = d := nI_clamp (by omega)
    by_cases ho : o d = 0
    · obtain ⟨r, o', h, hX, hY⟩ := ih (by omega)
      exact ⟨r, o', h, fun post hp => br_f h0 ⟨hv, br_t (by rw [hc]; exact ho) (nm_r (sd_sub1 d) (hX post hp))⟩, fun post hp => br_f h0 ⟨hv, br_t (by rw [hc]; exact ho) (nm_r (sd_sub1 d) (hY post hp))⟩⟩
    · exact ⟨nI d, upd o d 0, sd_01u h01 (Or.inl rfl), fun post hp => br_f h0 ⟨hv, br_f (by rw [hc]; exact ho) ⟨hv, nm_r (sd_ui (by omega) sd_vb0) hp⟩⟩, fun post hp => br_f h0 ⟨hv, br_f (by rw [hc]; exact ho) ⟨hv, nm_r (sd_ui (by omega) sd_vb0) hp⟩⟩⟩
theorem sd_redo_l (hm : m ≤ 32) (h01 : ∀ k, o k = 0 ∨ o k = 1) : ∀ d k : Nat, k + d = m → ∃ (r : Int32) (o' : Nat → Int32), (∀ k, o' k = 0 ∨ o' k = 1) ∧ (∀ post : Int32 → SX → Prop, post r (nI n, nI m, g, o', lx, cx) → wX_redo_2 post (nI n) (nI m) g o lx cx (d + 1) (nI k)) ∧ (∀ post : Int32 → SY → Prop, post r (nI n, nI m, g, t, ly, cy, o') → wY_redo_2 post (nI n) (nI m) g t ly cy o (d + 1) (nI k)) := by
  intro d
  induction d with
  | zero =>
    intro k hk
    have h : nI m ≤ nI k := nI_le (by omega) (by omega)
    exact ⟨-4, o, h01, fun post hp => br_t h hp, fun post hp => br_t h hp⟩
  | succ d ih =>
    intro k hk
    have hv : vp_in (nI k) 32 := vp_in_nI (by omega) (by omega)
    have h0 : ¬ nI m ≤ nI k := nI_ge (by omega) (by omega)
    have hc : (nI k).toNatClampNeg = k := nI_clamp (by omega)
    by_cases ho : o k = 0
    · exact ⟨nI k, upd o k 1, sd_01u h01 (Or.inr rfl), fun post hp => br_f h0 ⟨hv, br_t (by rw [hc]; exact ho) ⟨hv, nm_r (sd_ui (by omega) sd_vb1) hp⟩⟩, fun post hp => br_f h0 ⟨hv, br_t (by rw [hc]; exact ho) ⟨hv, nm_r (sd_ui (by omega) sd_vb1) hp⟩⟩⟩
    · obtain ⟨r, o', h, hX, hY⟩ := ih (k + 1) (by omega)
      exact ⟨r, o', h, fun post hp => br_f h0 ⟨hv, br_f (by rw [hc]; exact ho) (nm_r (nI_1 k) (hX post hp))⟩, fun post hp => br_f h0 ⟨hv, br_f (by rw [hc]; exact ho) (nm_r (nI_1 k) (hY post hp))⟩⟩
theorem sd_flip_l (hm : m ≤ 32) {b : Nat} (hb : b < m) : ∀ (d k : Nat) (x : Int32) (o : Nat → Int32), (∀ k, o k = 0 ∨ o k = 1) → k + d = b + 1 → ∃ (r : Int32) (o' : Nat → Int32), (∀ k, o' k = 0 ∨ o' k = 1) ∧ (∀ post : Int32 → SX → Prop, post r (nI n, nI m, g, o', lx, cx) → wX_flip_24 post (nI b) (nI n) (nI m) (d + 1) x (nI k) g o lx cx) ∧ (∀ post : Int32 → SY → Prop, post r (nI n, nI m, g, t, ly, cy, o') → wY_flip_24 post (nI b) (nI n) (nI m) (d + 1) x (nI k) g t ly cy o) := by
  intro d
  induction d with
  | zero =>
    intro k x o h01 hk
    have h : nI b < nI k := nI_lt (by omega) (by omega)
    exact ⟨x, o, h01, fun post hp => br_t h hp, fun post hp => br_t h hp⟩
  | succ d ih =>
    intro k x o h01 hk
    have hv : vp_in (nI k) 32 := vp_in_nI (by omega) (by omega)
    have h0 : ¬ nI b < nI k := nI_nlt (by omega) (by omega)
    have hc : (nI k).toNatClampNeg = k := nI_clamp (by omega)
    by_cases ho : o k = 0
    · obtain ⟨r, o', h, hX, hY⟩ := ih (k + 1) (x + 1) (upd o k 1) (sd_01u h01 (Or.inr rfl)) (by omega)
      have hz : ¬ upd o k 1 (nI k).toNatClampNeg = 0 := by rw [hc, pk_us]; decide
      refine ⟨r, o', h, fun post hp => br_f h0 ⟨hv, br_t (by rw [hc]; exact ho) ?_⟩, fun post hp => br_f h0 ⟨hv, br_t (by rw [hc]; exact ho) ?_⟩⟩
      · unfold wX_flip_51
        exact ⟨hv, nm_r (sd_ui (by omega) sd_vb1) ⟨hv, br_f hz (nm_e (nm_r (nI_1 k) (hX post hp)))⟩⟩
      · unfold wY_flip_51
        exact ⟨hv, nm_r (sd_ui (by omega) sd_vb1) ⟨hv, br_f hz (nm_e (nm_r (nI_1 k) (hY post hp)))⟩⟩
    · obtain ⟨r, o', h, hX, hY⟩ := ih (k + 1) x (upd o k 0) (sd_01u h01 (Or.inl rfl)) (by omega)
      have hz : upd o k 0 (nI k).toNatClampNeg = 0 := by rw [hc, pk_us]
      refine ⟨r, o', h, fun post hp => br_f h0 ⟨hv, br_f (by rw [hc]; exact ho) ?_⟩, fun post hp => br_f h0 ⟨hv, br_f (by rw [hc]; exact ho) ?_⟩⟩
      · unfold wX_flip_51
        exact ⟨hv, nm_r (sd_ui (by omega) sd_vb0) ⟨hv, br_t hz (nm_r (nI_1 k) (hX post hp))⟩⟩
      · unfold wY_flip_51
        exact ⟨hv, nm_r (sd_ui (by omega) sd_vb0) ⟨hv, br_t hz (nm_r (nI_1 k) (hY post hp))⟩⟩
/-- put's store -/
def sd_put (v : Int32) : Int32 := if v = 0 then 0 else 1
theorem sd_put01 (v : Int32) : sd_put v = 0 ∨ sd_put v = 1 := by
  unfold sd_put
  by_cases h : v = 0
  · rw [if_pos h]; exact Or.inl rfl
  · rw [if_neg h]; exact Or.inr rfl
theorem sd_xput {k : Nat} (hk : k < 32) (v z : Int32) (post : Int32 → SX → Prop) (hp : post z (nI n, nI m, g, upd o k (sd_put v), lx, cx)) : wX_put_24 post (nI k) v z (nI n) (nI m) g o lx cx := by
  have hv : vp_in (nI k) 32 := vp_in_nI hk (by omega)
  unfold wX_put_24
  unfold sd_put at hp
  by_cases h : v = 0
  · rw [if_pos h] at hp
    exact br_t h ⟨hv, nm_r (sd_ui (by omega) sd_vb0) hp⟩
  · rw [if_neg h] at hp
    exact br_f h ⟨hv, nm_r (sd_ui (by omega) sd_vb1) hp⟩
theorem sd_yput {k : Nat} (hk : k < 32) (v z : Int32) (post : Int32 → SY → Prop) (hp : post z (nI n, nI m, g, t, ly, cy, upd o k (sd_put v))) : wY_put_24 post (nI k) v z (nI n) (nI m) g t ly cy o := by
  have hv : vp_in (nI k) 32 := vp_in_nI hk (by omega)
  unfold wY_put_24
  unfold sd_put at hp
  by_cases h : v = 0
  · rw [if_pos h] at hp
    exact br_t h ⟨hv, nm_r (sd_ui (by omega) sd_vb0) hp⟩
  · rw [if_neg h] at hp
    exact br_f h ⟨hv, nm_r (sd_ui (by omega) sd_vb1) hp⟩
/-- effect's turning there and back: z, then its contrary z' -/
theorem sd_xeff (I : sd_Inv n m g o lx ly t cy cx) {k : Nat} (hk : k < m) {z z' : Int32} (hz : (z = 1 ∧ z' = 0) ∨ (z = 0 ∧ z' = 1)) (x2 : Int32) (post : Int32 → SX → Prop) (hp : post (nI (sd_rk (sd_s g (upd o k z) cy m) n) - x2) (nI n, nI m, g, upd (upd o k z) k z', lx, cx)) : wX_effect_34 post (nI k) x2 z (nI k) (nI n) (nI m) g o lx cx := by
  have hm := I.2.1
  have hv : vp_in (nI k) 32 := vp_in_nI (by omega) (by omega)
  have hc : (nI k).toNatClampNeg = k := nI_clamp (by omega)
  have h01 : ∀ j, upd o k z j = 0 ∨ upd o k z j = 1 := sd_01u I.2.2.2.2.1 (by rcases hz with ⟨h, _⟩ | ⟨h, _⟩; exact Or.inr h; exact Or.inl h)
  have hn : vp_nar .boolean z = z := by rcases hz with ⟨h, _⟩ | ⟨h, _⟩ <;> rw [h] <;> decide
  unfold wX_effect_34
  refine ⟨hv, nm_r (sd_ui (by omega) hn) (sd_xlen (sd_inv_on I h01) _ ⟨hv, ?_⟩)⟩
  rcases hz with ⟨h, h'⟩ | ⟨h, h'⟩
  · subst h h'
    exact br_f (by rw [hc, pk_us]; decide) ⟨hv, nm_r (sd_ui (by omega) sd_vb0) hp⟩
  · subst h h'
    exact br_t (by rw [hc, pk_us]) ⟨hv, nm_r (sd_ui (by omega) sd_vb1) hp⟩
theorem sd_yeff (I : sd_Inv n m g o lx ly t cy cx) {k : Nat} (hk : k < m) {z z' : Int32} (hz : (z = 1 ∧ z' = 0) ∨ (z = 0 ∧ z' = 1)) (x2 : Int32) (post : Int32 → SY → Prop) (hp : post (nI (sd_rk (sd_s g (upd o k z) cy m) n) - x2) (nI n, nI m, g, t, ly, cy, upd (upd o k z) k z')) : wY_effect_34 post (nI k) x2 z (nI k) (nI n) (nI m) g t ly cy o := by
  have hm := I.2.1
  have hv : vp_in (nI k) 32 := vp_in_nI (by omega) (by omega)
  have hc : (nI k).toNatClampNeg = k := nI_clamp (by omega)
  have h01 : ∀ j, upd o k z j = 0 ∨ upd o k z j = 1 := sd_01u I.2.2.2.2.1 (by rcases hz with ⟨h, _⟩ | ⟨h, _⟩; exact Or.inr h; exact Or.inl h)
  have hn : vp_nar .boolean z = z := by rcases hz with ⟨h, _⟩ | ⟨h, _⟩ <;> rw [h] <;> decide
  unfold wY_effect_34
  refine ⟨hv, nm_r (sd_ui (by omega) hn) (sd_ylen (sd_inv_on I h01) _ ⟨hv, ?_⟩)⟩
  rcases hz with ⟨h, h'⟩ | ⟨h, h'⟩
  · subst h h'
    exact br_f (by rw [hc, pk_us]; decide) ⟨hv, nm_r (sd_ui (by omega) sd_vb0) hp⟩
  · subst h h'
    exact br_t (by rw [hc, pk_us]) ⟨hv, nm_r (sd_ui (by omega) sd_vb1) hp⟩
end
end
section
/-! what is owed -/
/-- the same list, the same switches; letters and covers alike where they count -/
def i_Rel (k : Nat) (u : SX) (v : SY) : Prop := ∃ (n m : Nat) (g o lx ly t cy : Nat → Int32) (cx : Nat → Int64), u = (nI n, nI m, g, o, lx, cx) ∧ v = (nI n, nI m, g, t, ly, cy, o) ∧ sd_Inv n m g o lx ly t cy cx
theorem sd_mk {k n m : Nat} {g o lx ly t cy : Nat → Int32} {cx : Nat → Int64} (I : sd_Inv n m g o lx ly t cy cx) : i_Rel k (nI n, nI m, g, o, lx, cx) (nI n, nI m, g, t, ly, cy, o) := ⟨n, m, g, o, lx, ly, t, cy, cx, rfl, rfl, I⟩
theorem sd_ix (x : Int32) {m : Nat} (hm : m ≤ 32) : (x < 0 ∨ nI m ≤ x) ∨ ∃ j : Nat, j < m ∧ x = nI j := by
  rcases pk_ix x (n := m) (by omega) with h | h | h
  · exact Or.inl (Or.inl h)
  · exact Or.inl (Or.inr h)
  · exact Or.inr h
theorem i_up {k : Nat} {u : SX} {v : SY} (h : i_Rel k u v) : i_Rel (k + 3) u v := h
theorem i_vc0 : wpX_init (fun u => wpY_init (fun v => i_Rel 0 u v)) := sd_mk (k := 0) (n := 0) (m := 0) sd_inv0
theorem i_vc_type {k : Nat} {u : SX} {v : SY} (I : i_Rel k u v) (hk : k + 3 ≤ 1536) (v1 : Int32) (v2 : Int32) : wpX_type (fun r u' => wpY_type (fun r' v' => r' = r ∧ i_Rel (k + 3) u' v') v v1 v2) u v1 v2 := by
  obtain ⟨n, m, g, o, lx, ly, t, cy, cx, rfl, rfl, I⟩ := I
  have hm := I.2.1
  have hn := I.1
  have hr := sd_rk_le (sd_s g o cy m) n
  unfold wpX_type wpY_type
  by_cases c0 : v2 < 0
  · exact br_t c0 (br_t c0 ⟨rfl, sd_mk I⟩)
  obtain ⟨C, hC, rfl⟩ := nI_of c0
  by_cases c1 : 26 ≤ C
  · exact br_f c0 (br_t (nI_le (a := 26) c1 hC) (br_f c0 (br_t (nI_lt (a := 25) (by omega) hC) ⟨rfl, sd_mk I⟩)))
  have x1 : ¬ (26 : Int32) ≤ nI C := nI_ge (b := 26) (by omega) (by decide)
  have y1 : ¬ (25 : Int32) < nI C := nI_nlt (a := 25) (by omega) (by decide)
  by_cases p0 : v1 < 0
  · exact br_f c0 (br_f x1 (br_t p0 (br_f c0 (br_f y1 (br_t p0 ⟨rfl, sd_mk I⟩)))))
  obtain ⟨P, hP, rfl⟩ := nI_of p0
  by_cases q : P ≤ sd_rk (sd_s g o cy m) n
  rotate_left
  · have q' : ¬ nI P ≤ nI (sd_rk (sd_s g o cy m) n) := nI_ge (by omega) (by omega)
    exact br_f c0 (br_f x1 (br_f p0 (sd_xlen I _ (br_f q' (br_f c0 (br_f y1 (br_f p0 (sd_ylen I _ (br_f q' ⟨rfl, sd_mk I⟩)))))))))
  have q' : nI P ≤ nI (sd_rk (sd_s g o cy m) n) := nI_le q (by omega)
  by_cases f : m = 32
  · subst f
    exact br_f c0 (br_f x1 (br_f p0 (sd_xlen I _ (br_t q' (br_t (nI_le (a := 32) (Nat.le_refl 32) (by decide)) (br_f c0 (br_f y1 (br_f p0 (sd_ylen I _ (br_t q' (br_t rfl ⟨rfl, sd_mk I⟩)))))))))))
  have xf : ¬ (32 : Int32) ≤ nI m := nI_ge (b := 32) (by omega) (by decide)
  have yf : ¬ nI m = 32 := fun e => f ((nI_eq (b := 32) (by omega) (by decide)).mp e)
  have cm : ¬ nI C = -1 := sd_nn hC (by decide)
  have X61 : ∀ idx, idx ≤ n → ∀ post : Int32 → SX → Prop, post (nI m) (nI (n + 1), nI (m + 1), upd (sd_A g n idx) idx (nI m), upd o m 1, upd lx m (nI C), vp_updL cx m 0) → wX_type_61 post (nI C) (nI idx) (nI n) (nI m) g o lx cx := by
    intro idx hi post hp
    unfold wX_type_61
    exact sd_xins hi (by omega) _ _ (sd_xadd (by omega) _ _ _ hp)
  refine br_f c0 (br_f x1 (br_f p0 (sd_xlen I _ (br_t q' (br_f xf (br_t (nI_lt (b := 48) (by omega) (by decide)) ?_))))))
  by_cases z : P = 0
  · subst z
    refine br_t (nI_le (a := 0) (b := 0) (Nat.le_refl 0) (by decide)) (X61 0 (Nat.zero_le n) _ ?_)
    refine br_f c0 (br_f y1 (br_f p0 (sd_ylen I _ (br_t q' (br_f yf (br_t rfl (sd_yty (by omega) hn (Nat.zero_le n) (fun j _ hj => ?_) (Or.inl rfl) _ _ ⟨rfl, sd_mk (sd_inv_type I (by omega) (Nat.zero_le n) cm)⟩)))))))
    obtain ⟨c, hc, ec, -⟩ := I.2.2.1 j hj
    rw [ec]
    exact sd_nn (by omega) (by decide)
  · obtain ⟨Q, rfl⟩ : ∃ Q, P = Q + 1 := ⟨P - 1, by omega⟩
    refine br_f (nI_nle (by omega) hP) ?_
    rw [nI_pred]
    obtain ⟨a, ha, sa, ea⟩ := sd_rk_surj (s := sd_s g o cy m) (p := Q) (n := n) (by omega)
    refine sd_xidx I (nI Q) _ (fun i hi si e => nm_r (nI_1 i) (X61 (i + 1) hi _ ?_)) (fun hz => absurd (congrArg nI ea) (hz a ha sa))
    refine br_f c0 (br_f y1 (br_f p0 (sd_ylen I _ (br_t q' (br_f yf (br_f (nI_ne0 (by omega) hP) (sd_ych I (nI Q) _ (fun i' hi' si' e' => ?_) (fun hz => absurd e (hz i hi si)))))))))
    have hri := sd_rk_le (sd_s g o cy m) i
    have hri' := sd_rk_le (sd_s g o cy m) i'
    have ei : i' = i := sd_rk_inj si' si ((nI_eq (by omega) (by omega)).mp (e'.trans e.symm))
    subst ei
    exact sd_yty (by omega) hn hi (fun j hj1 hj2 ej => by have := I.2.2.2.1 j i' hj2 hi ej; omega) (Or.inr ⟨i', rfl, rfl⟩) _ _ ⟨rfl, sd_mk (sd_inv_type I (by omega) hi cm)⟩
theorem i_vc_erase {k : Nat} {u : SX} {v : SY} (I : i_Rel k u v) (hk : k + 3 ≤ 1536) (v1 : Int32) (v2 : Int32) : wpX_erase (fun r u' => wpY_erase (fun r' v' => r' = r ∧ i_Rel (k + 3) u' v') v v1 v2) u v1 v2 := by
  obtain ⟨n, m, g, o, lx, ly, t, cy, cx, rfl, rfl, I⟩ := I
  have hm := I.2.1
  have hn := I.1
  have hr := sd_rk_le (sd_s g o cy m) n
  unfold wpX_erase wpY_erase
  by_cases c0 : v1 < 0
  · exact br_t c0 (br_t c0 ⟨rfl, sd_mk I⟩)
  by_cases c1 : v2 ≤ v1
  · exact br_f c0 (br_t c1 (br_f c0 (br_t c1 ⟨rfl, sd_mk I⟩)))
  obtain ⟨A, hA, rfl⟩ := nI_of c0
  have c2 : ¬ v2 < 0 := fun h => c1 (Int32.le_trans (Int32.le_of_lt h) (nI_pos' hA))
  obtain ⟨B, hB, rfl⟩ := nI_of c2
  have hAB : A < B := by
    rw [nI_leI hB hA] at c1
    omega
  by_cases q : B ≤ sd_rk (sd_s g o cy m) n
  rotate_left
  · have q' : ¬ nI B ≤ nI (sd_rk (sd_s g o cy m) n) := nI_ge (by omega) (by omega)
    exact br_f c0 (br_f c1 (sd_xlen I _ (br_f q' (br_f c0 (br_f c1 (sd_ylen I _ (br_f q' ⟨rfl, sd_mk I⟩)))))))
  have q' : nI B ≤ nI (sd_rk (sd_s g o cy m) n) := nI_le q (by omega)
  by_cases f : m = 32
  · subst f
    exact br_f c0 (br_f c1 (sd_xlen I _ (br_t q' (br_f (nI_nlt (a := 32) (b := 32) (Nat.le_refl 32) (by decide)) (br_f c0 (br_f c1 (sd_ylen I _ (br_t q' (br_t rfl ⟨rfl, sd_mk I⟩)))))))))
  have xf : nI m < (32 : Int32) := nI_lt (b := 32) (by omega) (by decide)
  have yf : ¬ nI m = 32 := fun e => f ((nI_eq (b := 32) (by omega) (by decide)).mp e)
  obtain ⟨pl, hpl⟩ := sd_pl (sd_s g o cy m) n
  have hg : ∀ b, b < n → ∃ c, c < m ∧ g b = nI c := fun b hb => by
    obtain ⟨c, h1, h2, -⟩ := I.2.2.1 b hb
    exact ⟨c, h1, h2⟩
  refine br_f c0 (br_f c1 (sd_xlen I _ (br_t q' (br_t xf (sd_xcp I hA hB _ (fun X hX => sd_xadd (by omega) _ _ _ ?_))))))
  refine br_f c0 (br_f c1 (sd_ylen I _ (br_t q' (br_f yf ⟨B - A + 1, sd_yer_l I (by omega) hpl q _ (fun Y hY => ?_) (B - A) A 0 (by omega) (Nat.le_refl _) sd_YB0⟩))))
  exact ⟨rfl, sd_mk (sd_inv_erase I (by omega) (sd_bits hm hg hpl q hX hY))⟩
theorem i_vc_put {k : Nat} {u : SX} {v : SY} (I : i_Rel k u v) (hk : k + 3 ≤ 1536) (v1 : Int32) (v2 : Int32) : wpX_put (fun r u' => wpY_put (fun r' v' => r' = r ∧ i_Rel (k + 3) u' v') v v1 v2) u v1 v2 := by
  obtain ⟨n, m, g, o, lx, ly, t, cy, cx, rfl, rfl, I⟩ := I
  have hm := I.2.1
  unfold wpX_put wpY_put
  dsimp only
  rcases sd_ix v1 hm with h | ⟨c, hc, rfl⟩
  · exact sd_xic0 h _ (br_t rfl (sd_yic0 h _ (br_t rfl ⟨rfl, sd_mk I⟩)))
  · have hv : vp_in (nI c) 32 := vp_in_nI (by omega) (by omega)
    have ec : (nI c).toNatClampNeg = c := nI_clamp (by omega)
    have J := sd_mk (k := k + 3) (sd_inv_on I (sd_01u I.2.2.2.2.1 (i := c) (sd_put01 v2)))
    refine sd_xic1 hc hm _ (br_f (by decide) ⟨hv, ?_⟩)
    by_cases ho : o c = 0
    · exact br_t (by rw [ec]; exact ho) (sd_xput (by omega) _ _ _ (sd_yic1 hc hm _ (br_f (by decide) ⟨hv, br_t (by rw [ec]; exact ho) (sd_yput (by omega) _ _ _ ⟨rfl, J⟩)⟩)))
    · exact br_f (by rw [ec]; exact ho) (sd_xput (by omega) _ _ _ (sd_yic1 hc hm _ (br_f (by decide) ⟨hv, br_f (by rw [ec]; exact ho) (sd_yput (by omega) _ _ _ ⟨rfl, J⟩)⟩)))
theorem i_vc_undo {k : Nat} {u : SX} {v : SY} (I : i_Rel k u v) (hk : k + 3 ≤ 1536) : wpX_undo (fun r u' => wpY_undo (fun r' v' => r' = r ∧ i_Rel (k + 3) u' v') v) u := by
  obtain ⟨n, m, g, o, lx, ly, t, cy, cx, rfl, rfl, I⟩ := I
  obtain ⟨r, o', h, hX, hY⟩ := sd_undo_l (n := n) (g := g) (lx := lx) (ly := ly) (t := t) (cy := cy) (cx := cx) I.2.1 I.2.2.2.2.1 m (Nat.le_refl m)
  unfold wpX_undo wpY_undo
  exact nm_e ⟨m + 1, hX _ (nm_e ⟨m + 1, hY _ ⟨rfl, sd_mk (sd_inv_on I h)⟩⟩)⟩
theorem i_vc_redo {k : Nat} {u : SX} {v : SY} (I : i_Rel k u v) (hk : k + 3 ≤ 1536) : wpX_redo (fun r u' => wpY_redo (fun r' v' => r' = r ∧ i_Rel (k + 3) u' v') v) u := by
  obtain ⟨n, m, g, o, lx, ly, t, cy, cx, rfl, rfl, I⟩ := I
  obtain ⟨r, o', h, hX, hY⟩ := sd_redo_l (n := n) (g := g) (lx := lx) (ly := ly) (t := t) (cy := cy) (cx := cx) I.2.1 I.2.2.2.2.1 m 0 (Nat.zero_add m)
  unfold wpX_redo wpY_redo
  exact ⟨m + 1, hX _ ⟨m + 1, hY _ ⟨rfl, sd_mk (sd_inv_on I h)⟩⟩⟩
theorem i_vc_flip {k : Nat} {u : SX} {v : SY} (I : i_Rel k u v) (hk : k + 3 ≤ 1536) (v1 : Int32) (v2 : Int32) : wpX_flip (fun r u' => wpY_flip (fun r' v' => r' = r ∧ i_Rel (k + 3) u' v') v v1 v2) u v1 v2 := by
  obtain ⟨n, m, g, o, lx, ly, t, cy, cx, rfl, rfl, I⟩ := I
  have hm := I.2.1
  unfold wpX_flip wpY_flip
  by_cases c0 : v1 < 0
  · exact br_t c0 (br_t c0 ⟨rfl, sd_mk I⟩)
  by_cases c1 : v2 < v1
  · exact br_f c0 (br_t c1 (br_f c0 (br_t c1 ⟨rfl, sd_mk I⟩)))
  by_cases c2 : v2 < nI m
  rotate_left
  · exact br_f c0 (br_f c1 (br_f c2 (br_f c0 (br_f c1 (br_f c2 ⟨rfl, sd_mk I⟩)))))
  obtain ⟨A, hA, rfl⟩ := nI_of c0
  have c3 : ¬ v2 < 0 := fun h => c1 (Int32.lt_of_lt_of_le h (nI_pos' hA))
  obtain ⟨B, hB, rfl⟩ := nI_of c3
  have hAB : A ≤ B := by
    rw [nI_ltI hB hA] at c1
    omega
  have hBm : B < m := (nI_ltI hB (by omega)).mp c2
  obtain ⟨r, o', h, hX, hY⟩ := sd_flip_l (n := n) (g := g) (lx := lx) (ly := ly) (t := t) (cy := cy) (cx := cx) hm hBm (B + 1 - A) A 0 o I.2.2.2.2.1 (by omega)
  exact br_f c0 (br_f c1 (br_t c2 ⟨_, hX _ (br_f c0 (br_f c1 (br_t c2 ⟨_, hY _ ⟨rfl, sd_mk (sd_inv_on I h)⟩⟩)))⟩))
theorem i_vc_changes {k : Nat} {u : SX} {v : SY} (I : i_Rel k u v) (hk : k + 3 ≤ 1536) : wpX_changes (fun r => wpY_changes (fun r' => r' = r ∧ i_Rel (k + 3) u v) v) u := by
  obtain ⟨n, m, g, o, lx, ly, t, cy, cx, rfl, rfl, I⟩ := I
  exact ⟨rfl, sd_mk I⟩
theorem i_vc_isOn {k : Nat} {u : SX} {v : SY} (I : i_Rel k u v) (hk : k + 3 ≤ 1536) (v1 : Int32) : wpX_isOn (fun r => wpY_isOn (fun r' => r' = r ∧ i_Rel (k + 3) u v) v v1) u v1 := by
  obtain ⟨n, m, g, o, lx, ly, t, cy, cx, rfl, rfl, I⟩ := I
  have hm := I.2.1
  unfold wpX_isOn wpY_isOn
  dsimp only
  rcases sd_ix v1 hm with h | ⟨c, hc, rfl⟩
  · exact sd_xic0 h _ (br_t rfl (sd_yic0 h _ (br_t rfl ⟨rfl, sd_mk I⟩)))
  · have hv : vp_in (nI c) 32 := vp_in_nI (by omega) (by omega)
    refine sd_xic1 hc hm _ (br_f (by decide) ⟨hv, br_c (fun e => ?_) (fun e => ?_)⟩)
    · exact sd_yic1 hc hm _ (br_f (by decide) ⟨hv, br_t e ⟨rfl, sd_mk I⟩⟩)
    · exact sd_yic1 hc hm _ (br_f (by decide) ⟨hv, br_f e ⟨rfl, sd_mk I⟩⟩)
theorem i_vc_length {k : Nat} {u : SX} {v : SY} (I : i_Rel k u v) (hk : k + 3 ≤ 1536) : wpX_length (fun r => wpY_length (fun r' => r' = r ∧ i_Rel (k + 3) u v) v) u := by
  obtain ⟨n, m, g, o, lx, ly, t, cy, cx, rfl, rfl, I⟩ := I
  exact sd_xlen I _ (sd_ylen I _ ⟨rfl, sd_mk I⟩)
theorem i_vc_letter {k : Nat} {u : SX} {v : SY} (I : i_Rel k u v) (hk : k + 3 ≤ 1536) (v1 : Int32) : wpX_letter (fun r => wpY_letter (fun r' => r' = r ∧ i_Rel (k + 3) u v) v v1) u v1 := by
  obtain ⟨n, m, g, o, lx, ly, t, cy, cx, rfl, rfl, I⟩ := I
  have hm := I.2.1
  have hn := I.1
  unfold wpX_letter wpY_letter
  dsimp only
  refine sd_xidx I v1 _ (fun i hi si e => ?_) (fun hz => br_t rfl (sd_ych I v1 _ (fun i hi si e => absurd e (hz i hi si)) (fun _ => br_f (by decide) ⟨rfl, sd_mk I⟩)))
  obtain ⟨c, hc, ec, tc⟩ := I.2.2.1 i hi
  refine br_f (sd_nn (by omega) (by decide)) ⟨vp_in_nI (by omega) (by omega), ?_⟩
  rw [nI_clamp (by omega), ec]
  refine ⟨vp_in_nI (by omega) (by omega), sd_ych I v1 _ (fun i' hi' si' e' => ?_) (fun hz => absurd e (hz i hi si))⟩
  have hr := sd_rk_le (sd_s g o cy m) i
  have hr' := sd_rk_le (sd_s g o cy m) i'
  have ei : i' = i := sd_rk_inj si' si ((nI_eq (by omega) (by omega)).mp (e'.trans e.symm))
  subst ei
  rw [ec, nI_clamp (by omega)]
  refine br_t (nI_pos' (by omega)) ⟨vp_in_nI (by omega) (by omega), ?_, sd_mk I⟩
  rcases I.2.2.2.2.2.1 c hc with ⟨-, h, -⟩ | ⟨h, -⟩
  · exact h.symm
  · rw [tc] at h; exact absurd h (by decide)
theorem i_vc_origin {k : Nat} {u : SX} {v : SY} (I : i_Rel k u v) (hk : k + 3 ≤ 1536) (v1 : Int32) : wpX_origin (fun r => wpY_origin (fun r' => r' = r ∧ i_Rel (k + 3) u v) v v1) u v1 := by
  obtain ⟨n, m, g, o, lx, ly, t, cy, cx, rfl, rfl, I⟩ := I
  have hm := I.2.1
  have hn := I.1
  unfold wpX_origin wpY_origin
  dsimp only
  refine sd_xidx I v1 _ (fun i hi si e => ?_) (fun hz => br_t rfl (sd_ych I v1 _ (fun i hi si e => absurd e (hz i hi si)) (fun _ => ⟨rfl, sd_mk I⟩)))
  refine br_f (sd_nn (by omega) (by decide)) ⟨vp_in_nI (by omega) (by omega), ?_⟩
  rw [nI_clamp (by omega)]
  refine sd_ych I v1 _ (fun i' hi' si' e' => ?_) (fun hz => absurd e (hz i hi si))
  have hr := sd_rk_le (sd_s g o cy m) i
  have hr' := sd_rk_le (sd_s g o cy m) i'
  have ei : i' = i := sd_rk_inj si' si ((nI_eq (by omega) (by omega)).mp (e'.trans e.symm))
  subst ei
  exact ⟨rfl, sd_mk I⟩
theorem i_vc_where {k : Nat} {u : SX} {v : SY} (I : i_Rel k u v) (hk : k + 3 ≤ 1536) (v1 : Int32) : wpX_where (fun r => wpY_where (fun r' => r' = r ∧ i_Rel (k + 3) u v) v v1) u v1 := by
  obtain ⟨n, m, g, o, lx, ly, t, cy, cx, rfl, rfl, I⟩ := I
  refine sd_xwh I v1 _ (fun i hi si e => sd_ywh I v1 _ (fun i' hi' si' e' => ?_) (fun hz => absurd e (hz i hi si))) (fun hz => sd_ywh I v1 _ (fun i' hi' si' e' => absurd e' (hz i' hi' si')) (fun _ => ⟨rfl, sd_mk I⟩))
  have ei : i' = i := I.2.2.2.1 i' i hi' hi (e'.trans e.symm)
  subst ei
  exact ⟨rfl, sd_mk I⟩
theorem i_vc_covers {k : Nat} {u : SX} {v : SY} (I : i_Rel k u v) (hk : k + 3 ≤ 1536) (v1 : Int32) : wpX_covers (fun r => wpY_covers (fun r' => r' = r ∧ i_Rel (k + 3) u v) v v1) u v1 := by
  obtain ⟨n, m, g, o, lx, ly, t, cy, cx, rfl, rfl, I⟩ := I
  have hm := I.2.1
  unfold wpX_covers wpY_covers
  dsimp only
  rcases sd_ix v1 hm with h | ⟨c, hc, rfl⟩
  · exact sd_xic0 h _ (br_t rfl (sd_yic0 h _ (br_t rfl ⟨rfl, sd_mk I⟩)))
  · refine sd_xic1 hc hm _ (br_f (by decide) ⟨m + 1, sd_xcn_l I hc _ ?_ m 0 (Nat.zero_add m)⟩)
    refine sd_yic1 hc hm _ (br_f (by decide) ⟨32 + 1, sd_ycn_l hm hc _ ?_ 32 0 rfl⟩)
    exact ⟨congrArg nI (sd_covn I hc), sd_mk I⟩
theorem i_vc_coveredBy {k : Nat} {u : SX} {v : SY} (I : i_Rel k u v) (hk : k + 3 ≤ 1536) (v1 : Int32) : wpX_coveredBy (fun r => wpY_coveredBy (fun r' => r' = r ∧ i_Rel (k + 3) u v) v v1) u v1 := by
  obtain ⟨n, m, g, o, lx, ly, t, cy, cx, rfl, rfl, I⟩ := I
  have hm := I.2.1
  unfold wpX_coveredBy wpY_coveredBy
  dsimp only
  rcases sd_ix v1 hm with h | ⟨c, hc, rfl⟩
  · exact sd_xic0 h _ (br_t rfl (sd_yic0 h _ (br_t rfl ⟨rfl, sd_mk I⟩)))
  · have hv : vp_in (nI c) 32 := vp_in_nI (by omega) (by omega)
    have ec : (nI c).toNatClampNeg = c := nI_clamp (by omega)
    rcases I.2.2.2.2.2.1 c hc with ⟨h1, h2, h3⟩ | ⟨h1, h2⟩
    · exact sd_xic1 hc hm _ (br_f (by decide) ⟨hv, br_f (by rw [ec]; exact h3) (sd_xcov I (by omega) _ (sd_yic1 hc hm _ (br_f (by decide) ⟨hv, br_f (by rw [ec, h1]; decide) (sd_ycov I (by omega) _ ⟨rfl, sd_mk I⟩)⟩)))⟩)
    · exact sd_xic1 hc hm _ (br_f (by decide) ⟨hv, br_t (by rw [ec]; exact h2) (sd_yic1 hc hm _ (br_f (by decide) ⟨hv, br_t (by rw [ec]; exact h1) ⟨rfl, sd_mk I⟩⟩))⟩)
theorem i_vc_effect {k : Nat} {u : SX} {v : SY} (I : i_Rel k u v) (hk : k + 3 ≤ 1536) (v1 : Int32) : wpX_effect (fun r u' => wpY_effect (fun r' v' => r' = r ∧ i_Rel (k + 3) u' v') v v1) u v1 := by
  obtain ⟨n, m, g, o, lx, ly, t, cy, cx, rfl, rfl, I⟩ := I
  have hm := I.2.1
  unfold wpX_effect wpY_effect
  dsimp only
  rcases sd_ix v1 hm with h | ⟨c, hc, rfl⟩
  · exact sd_xic0 h _ (br_t rfl (sd_yic0 h _ (br_t rfl ⟨rfl, sd_mk I⟩)))
  · have hv : vp_in (nI c) 32 := vp_in_nI (by omega) (by omega)
    have ec : (nI c).toNatClampNeg = c := nI_clamp (by omega)
    by_cases ho : o c = 0
    · exact sd_xic1 hc hm _ (br_f (by decide) (sd_xlen I _ ⟨hv, br_t (by rw [ec]; exact ho) (sd_xeff I hc (z := 1) (z' := 0) (Or.inl ⟨rfl, rfl⟩) _ _ (sd_yic1 hc hm _ (br_f (by decide) (sd_ylen I _ ⟨hv, br_t (by rw [ec]; exact ho) (sd_yeff I hc (z := 1) (z' := 0) (Or.inl ⟨rfl, rfl⟩) _ _ ⟨rfl, sd_mk (sd_inv_on I (sd_01u (sd_01u I.2.2.2.2.1 (Or.inr rfl)) (Or.inl rfl)))⟩)⟩))))⟩))
    · exact sd_xic1 hc hm _ (br_f (by decide) (sd_xlen I _ ⟨hv, br_f (by rw [ec]; exact ho) (sd_xeff I hc (z := 0) (z' := 1) (Or.inr ⟨rfl, rfl⟩) _ _ (sd_yic1 hc hm _ (br_f (by decide) (sd_ylen I _ ⟨hv, br_f (by rw [ec]; exact ho) (sd_yeff I hc (z := 0) (z' := 1) (Or.inr ⟨rfl, rfl⟩) _ _ ⟨rfl, sd_mk (sd_inv_on I (sd_01u (sd_01u I.2.2.2.2.1 (Or.inl rfl)) (Or.inr rfl)))⟩)⟩))))⟩))
theorem i_vc_digest {k : Nat} {u : SX} {v : SY} (I : i_Rel k u v) (hk : k + 3 ≤ 1536) : wpX_digest (fun r => wpY_digest (fun r' => r' = r ∧ i_Rel (k + 3) u v) v) u := by
  obtain ⟨n, m, g, o, lx, ly, t, cy, cx, rfl, rfl, I⟩ := I
  have hm := I.2.1
  have hn := I.1
  obtain ⟨w, hw, hw0⟩ := sd_w (n := n) (sd_s g o cy m) (fun j => lx (g j).toNatClampNeg + 1)
  have hr := sd_rk_le (sd_s g o cy m) n
  refine sd_xdig I w hw _ (sd_ydig I w (fun j hj sj => ?_) hw0 _ ⟨sd_F_cut hw0 (by omega), sd_mk I⟩)
  obtain ⟨c, hc, ec, tc⟩ := I.2.2.1 j hj
  have e : lx (g j).toNatClampNeg = ly (g j).toNatClampNeg := by
    rw [ec, nI_clamp (by omega)]
    rcases I.2.2.2.2.2.1 c hc with ⟨-, h, -⟩ | ⟨h, -⟩
    · exact h
    · rw [tc] at h; exact absurd h (by decide)
  rw [← e]
  exact hw j hj sj
end
