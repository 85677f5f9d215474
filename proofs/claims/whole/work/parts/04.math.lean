/-! the covers that an erasing change gets, the digest's sum, the number of covers: the pure side -/
theorem sd_ex_s {P : Nat → Prop} {a : Nat} : (∃ b, b < a + 1 ∧ P b) ↔ (∃ b, b < a ∧ P b) ∨ P a := by
  constructor
  · rintro ⟨b, h, p⟩
    by_cases e : b = a
    · subst e; exact Or.inr p
    · exact Or.inl ⟨b, by omega, p⟩
  · rintro (⟨b, h, p⟩ | p)
    · exact ⟨b, by omega, p⟩
    · exact ⟨a, by omega, p⟩
def sd_PX (s : Nat → Bool) (g : Nat → Int32) (i j c b : Nat) : Prop := s b = true ∧ i ≤ sd_rk s b ∧ sd_rk s b < j ∧ g b = nI c
def sd_XB (s : Nat → Bool) (g : Nat → Int32) (i j : Nat) (X : Int64) (a : Nat) : Prop := ∀ c, c < 32 → (sd_bl X c = true ↔ ∃ b, b < a ∧ sd_PX s g i j c b)
theorem sd_XB0 {s : Nat → Bool} {g : Nat → Int32} {i j : Nat} : sd_XB s g i j 0 0 := by
  intro c _
  rw [sd_bl0]
  exact ⟨(fun z => nomatch z), fun ⟨b, h, _⟩ => absurd h (Nat.not_lt_zero b)⟩
theorem sd_XB_in {s : Nat → Bool} {g : Nat → Int32} {i j a ca : Nat} {X : Int64} (h : sd_XB s g i j X a) (hs : s a = true) (h1 : i ≤ sd_rk s a) (h2 : sd_rk s a < j) (hca : ca < 32) (hg : g a = nI ca) :
    sd_XB s g i j (X ||| ((1 : Int64) <<< ((nI ca).toInt64 &&& 63))) (a + 1) := by
  intro c hc
  rw [sd_xor X hca hc, Bool.or_eq_true, decide_eq_true_iff, h c hc, sd_ex_s]
  have e : c = ca ↔ sd_PX s g i j c a := by
    constructor
    · intro e; exact ⟨hs, h1, h2, by rw [e]; exact hg⟩
    · rintro ⟨-, -, -, e⟩
      rw [hg, nI_eq (by omega) (by omega)] at e
      exact e.symm
  rw [e]
theorem sd_XB_out {s : Nat → Bool} {g : Nat → Int32} {i j a : Nat} {X : Int64} (h : sd_XB s g i j X a) (hn : ¬ (s a = true ∧ i ≤ sd_rk s a ∧ sd_rk s a < j)) : sd_XB s g i j X (a + 1) := by
  intro c hc
  rw [h c hc, sd_ex_s]
  exact ⟨fun z => Or.inl z, fun z => z.elim id (fun p => absurd ⟨p.1, p.2.1, p.2.2.1⟩ hn)⟩
def sd_YB (g : Nat → Int32) (pl : Nat → Nat) (i : Nat) (Y : Int32) (p : Nat) : Prop := ∀ c, c < 32 → (bt Y c = true ↔ ∃ b, b < p ∧ (i ≤ b ∧ g (pl b) = nI c))
theorem sd_YB0 {g : Nat → Int32} {pl : Nat → Nat} {i : Nat} : sd_YB g pl i 0 i := by
  intro c _
  rw [b_0]
  exact ⟨(fun z => nomatch z), fun ⟨b, h, h2, _⟩ => absurd h (Nat.not_lt.mpr h2)⟩
theorem sd_YB_s {g : Nat → Int32} {pl : Nat → Nat} {i p cp : Nat} {Y : Int32} (h : sd_YB g pl i Y p) (h1 : i ≤ p) (hcp : cp < 32) (hg : g (pl p) = nI cp) :
    sd_YB g pl i (Y ||| ((1 : Int32) <<< (nI cp &&& 31))) (p + 1) := by
  intro c hc
  rw [sd_yor Y hcp hc, Bool.or_eq_true, decide_eq_true_iff, h c hc, sd_ex_s]
  have e : c = cp ↔ (i ≤ p ∧ g (pl p) = nI c) := by
    constructor
    · intro e; exact ⟨h1, by rw [e]; exact hg⟩
    · rintro ⟨-, e⟩
      rw [hg, nI_eq (by omega) (by omega)] at e
      exact e.symm
  rw [e]
theorem sd_bits {n m i j : Nat} {s : Nat → Bool} {g : Nat → Int32} {pl : Nat → Nat} {X : Int64} {Y : Int32} (hm : m ≤ 32) (hg : ∀ b, b < n → ∃ c, c < m ∧ g b = nI c) (hpl : ∀ p, p < sd_rk s n → pl p < n ∧ s (pl p) = true ∧ sd_rk s (pl p) = p) (hj : j ≤ sd_rk s n) (hX : sd_XB s g i j X n) (hY : sd_YB g pl i Y j) :
    ∀ c, c < 32 → sd_bl X c = bt Y c ∧ (bt Y c = true → c < m) := by
  intro c hc
  have e : (∃ b, b < n ∧ sd_PX s g i j c b) ↔ (∃ b, b < j ∧ (i ≤ b ∧ g (pl b) = nI c)) := by
    constructor
    · rintro ⟨b, hb, h1, h2, h3, h4⟩
      obtain ⟨q1, q2, q3⟩ := hpl (sd_rk s b) (by omega)
      have := sd_rk_inj q2 h1 q3
      exact ⟨sd_rk s b, h3, h2, by rw [this]; exact h4⟩
    · rintro ⟨b, hb, h1, h2⟩
      obtain ⟨q1, q2, q3⟩ := hpl b (by omega)
      exact ⟨pl b, q1, q2, by omega, by omega, h2⟩
  refine ⟨?_, fun z => ?_⟩
  · have := (hX c hc).trans (e.trans (hY c hc).symm)
    cases h1 : sd_bl X c <;> cases h2 : bt Y c <;> simp_all
  · obtain ⟨b, hb, h1, h2⟩ := (hY c hc).mp z
    obtain ⟨q1, q2, q3⟩ := hpl b (by omega)
    obtain ⟨d, hd, ed⟩ := hg (pl b) q1
    rw [ed, nI_eq (by omega) (by omega)] at h2
    omega
/-- the digest's terms by place -/
theorem sd_w {n : Nat} (s : Nat → Bool) (f : Nat → Int32) : ∃ w : Nat → Int32, (∀ j, j < n → s j = true → (nI (sd_rk s j) + 1) * f j = w (sd_rk s j)) ∧ (∀ p, sd_rk s n ≤ p → w p = 0) := by
  obtain ⟨pl, hpl⟩ := sd_pl s n
  refine ⟨fun p => if p < sd_rk s n then (nI p + 1) * f (pl p) else 0, fun j hj hs => ?_, fun p hp => if_neg (by omega)⟩
  have h := sd_rk_lt hj hs
  obtain ⟨q1, q2, q3⟩ := hpl _ h
  have := sd_rk_inj q2 hs q3
  show _ = if sd_rk s j < sd_rk s n then (nI (sd_rk s j) + 1) * f (pl (sd_rk s j)) else 0
  rw [if_pos h, this]
theorem sd_covn {n m : Nat} {g o lx ly t cy : Nat → Int32} {cx : Nat → Int64} (I : sd_Inv n m g o lx ly t cy cx) {k : Nat} (hk : k < m) : sd_rk (fun c => bt (cy k) c) 32 = sd_rk (fun c => bt (cy k) c) m := by
  refine sd_rk_cut (fun c hc hb => ?_) I.2.1
  rcases Nat.lt_or_ge c 32 with h | h
  · have := (I.2.2.2.2.2.2 k hk c h).2 hb
    omega
  · have hb' : bt (cy k) c = true := hb
    rw [b_big h] at hb'
    cases hb'
