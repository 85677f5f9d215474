/-! what holds of the two states' contents: n characters in the list g, m changes, o: on, lx ly: letters, t: types, cx cy: covers -/
def sd_Inv (n m : Nat) (g o lx ly t cy : Nat → Int32) (cx : Nat → Int64) : Prop :=
  n ≤ m ∧ m ≤ 32 ∧
  (∀ j, j < n → ∃ c, c < m ∧ g j = nI c ∧ t c = 1) ∧
  (∀ i j, i < n → j < n → g i = g j → i = j) ∧
  (∀ k, o k = 0 ∨ o k = 1) ∧
  (∀ k, k < m → (t k = 1 ∧ lx k = ly k ∧ ¬ lx k = -1) ∨ (t k = 0 ∧ lx k = -1)) ∧
  (∀ k, k < m → ∀ c, c < 32 → sd_bl (cx k) c = bt (cy k) c ∧ (bt (cy k) c = true → c < m))
theorem sd_inv0 : sd_Inv 0 0 (fun _ => 0) (fun _ => 0) (fun _ => 0) (fun _ => 0) (fun _ => 0) (fun _ => 0) (fun _ => 0) :=
  ⟨Nat.le_refl _, by omega, fun j h => absurd h (Nat.not_lt_zero j), fun i j h => absurd h (Nat.not_lt_zero i), fun _ => Or.inl rfl, fun j h => absurd h (Nat.not_lt_zero j), fun j h => absurd h (Nat.not_lt_zero j)⟩
/-- does the k-th change cover c, and is it on -/
def sd_on (o cy : Nat → Int32) (c : Nat) (k : Nat) : Bool := decide (¬ o k = 0) && bt (cy k) c
theorem sd_on_iff {o cy : Nat → Int32} {c k : Nat} : sd_on o cy c k = true ↔ ¬ o k = 0 ∧ bt (cy k) c = true := by
  unfold sd_on
  rw [Bool.and_eq_true, decide_eq_true_iff]
/-- is the character c shown -/
def sd_sh (o cy : Nat → Int32) (m c : Nat) : Bool := decide (¬ o c = 0) && decide (sd_rk (sd_on o cy c) m = 0)
theorem sd_sh_iff {o cy : Nat → Int32} {m c : Nat} : sd_sh o cy m c = true ↔ ¬ o c = 0 ∧ sd_rk (sd_on o cy c) m = 0 := by
  unfold sd_sh
  rw [Bool.and_eq_true, decide_eq_true_iff, decide_eq_true_iff]
/-- is the j-th of the list shown -/
def sd_s (g o cy : Nat → Int32) (m j : Nat) : Bool := sd_sh o cy m (g j).toNatClampNeg
theorem sd_s_of {g o cy : Nat → Int32} {m j c : Nat} (h : g j = nI c) (hc : c < 2 ^ 31) : sd_s g o cy m j = sd_sh o cy m c := by
  unfold sd_s
  rw [h, nI_clamp hc]
/-- switching keeps all -/
theorem sd_inv_on {n m : Nat} {g o lx ly t cy : Nat → Int32} {cx : Nat → Int64} (I : sd_Inv n m g o lx ly t cy cx) {o' : Nat → Int32} (h : ∀ k, o' k = 0 ∨ o' k = 1) : sd_Inv n m g o' lx ly t cy cx :=
  ⟨I.1, I.2.1, I.2.2.1, I.2.2.2.1, h, I.2.2.2.2.2.1, I.2.2.2.2.2.2⟩
theorem sd_01u {o : Nat → Int32} (h : ∀ k, o k = 0 ∨ o k = 1) {i : Nat} {x : Int32} (hx : x = 0 ∨ x = 1) : ∀ k, upd o i x k = 0 ∨ upd o i x k = 1 := by
  intro k
  by_cases e : k = i
  · subst e; rw [pk_us]; exact hx
  · rw [pk_un e]; exact h k
/-- the list with the cells above a moved up by one -/
def sd_A (g : Nat → Int32) (n a : Nat) : Nat → Int32 := fun j => if j ≤ a then g j else if j ≤ n then g (j - 1) else g j
theorem sd_A_le {g : Nat → Int32} {n a j : Nat} (h : j ≤ a) : sd_A g n a j = g j := if_pos h
theorem sd_A_gt {g : Nat → Int32} {n a j : Nat} (h : a < j) (h2 : j ≤ n) : sd_A g n a j = g (j - 1) := by
  unfold sd_A
  rw [if_neg (by omega), if_pos h2]
theorem sd_A_n (g : Nat → Int32) (n : Nat) : sd_A g n n = g := by
  funext j
  unfold sd_A
  by_cases h : j ≤ n
  · rw [if_pos h]
  · rw [if_neg h, if_neg h]
theorem sd_A_s {g : Nat → Int32} {n a : Nat} (h : a + 1 ≤ n) : upd (sd_A g n (a + 1)) (a + 1) (sd_A g n (a + 1) a) = sd_A g n a := by
  funext j
  by_cases e : j = a + 1
  · subst e
    rw [pk_us, sd_A_le (Nat.le_succ a), sd_A_gt (j := a + 1) (by omega) h, Nat.add_sub_cancel]
  · rw [pk_un e]
    unfold sd_A
    by_cases h1 : j ≤ a
    · rw [if_pos h1, if_pos (by omega)]
    · rw [if_neg h1, if_neg (by omega)]
/-- a typed change -/
theorem sd_inv_type {n m : Nat} {g o lx ly t cy : Nat → Int32} {cx : Nat → Int64} (I : sd_Inv n m g o lx ly t cy cx) (hm : m < 32) {idx : Nat} (hi : idx ≤ n) {c : Int32} (hc : ¬ c = -1) :
    sd_Inv (n + 1) (m + 1) (upd (sd_A g n idx) idx (nI m)) (upd o m 1) (upd lx m c) (upd ly m c) (upd t m 1) (upd cy m 0) (vp_updL cx m 0) := by
  obtain ⟨i1, i2, i3, i4, i5, i6, i7⟩ := I
  obtain ⟨k1, k2⟩ := sd_ins (h := upd (sd_A g n idx) idx (nI m)) (m := m) hi (by omega) i3 i4 (fun j hj => by rw [pk_un (by omega), sd_A_le (by omega)]) pk_us (fun j h1 h2 => by rw [pk_un (by omega), sd_A_gt (by omega) (by omega), Nat.add_sub_cancel])
  refine ⟨by omega, by omega, fun j hj => ?_, k2, sd_01u i5 (Or.inr rfl), fun k hk => ?_, fun k hk b hb => ?_⟩
  · rcases k1 j hj with e | ⟨i, hi, e⟩
    · exact ⟨m, by omega, e, pk_us⟩
    · obtain ⟨b, hb, eb, tb⟩ := i3 i hi
      exact ⟨b, by omega, e.trans eb, by rw [pk_un (by omega)]; exact tb⟩
  · by_cases e : k = m
    · subst e
      exact Or.inl ⟨pk_us, by rw [pk_us, pk_us], by rw [pk_us]; exact hc⟩
    · rw [pk_un e, pk_un e, pk_un e]
      exact i6 k (by omega)
  · by_cases e : k = m
    · subst e
      rw [pk_us, pk_uLs, b_0, sd_bl0]
      exact ⟨rfl, fun z => by cases z⟩
    · rw [pk_un e, pk_uLn e]
      obtain ⟨x, y⟩ := i7 k (by omega) b hb
      exact ⟨x, fun z => by have := y z; omega⟩
/-- an erasing change -/
theorem sd_inv_erase {n m : Nat} {g o lx ly t cy : Nat → Int32} {cx : Nat → Int64} (I : sd_Inv n m g o lx ly t cy cx) (hm : m < 32) {X : Int64} {Y : Int32} (hb : ∀ c, c < 32 → sd_bl X c = bt Y c ∧ (bt Y c = true → c < m)) :
    sd_Inv n (m + 1) g (upd o m 1) (upd lx m (-1)) ly (upd t m 0) (upd cy m Y) (vp_updL cx m X) := by
  obtain ⟨i1, i2, i3, i4, i5, i6, i7⟩ := I
  refine ⟨by omega, by omega, fun j hj => ?_, i4, sd_01u i5 (Or.inr rfl), fun k hk => ?_, fun k hk b h => ?_⟩
  · obtain ⟨b, hb, eb, tb⟩ := i3 j hj
    exact ⟨b, by omega, eb, by rw [pk_un (by omega)]; exact tb⟩
  · by_cases e : k = m
    · subst e
      exact Or.inr ⟨pk_us, pk_us⟩
    · rw [pk_un e, pk_un e]
      exact i6 k (by omega)
  · by_cases e : k = m
    · subst e
      rw [pk_us, pk_uLs]
      obtain ⟨x, y⟩ := hb b h
      exact ⟨x, fun z => by have := y z; omega⟩
    · rw [pk_un e, pk_uLn e]
      obtain ⟨x, y⟩ := i7 k (by omega) b h
      exact ⟨x, fun z => by have := y z; omega⟩
