/-! both at once: undo, redo, flip, put -/
section
variable {n m : Nat} {g o lx ly t cy : Nat → Int32} {cx : Nat → Int64}
theorem sd_sub1 (d : Nat) : nI d + (-1) = nI d - 1 := (Int32.sub_eq_add_neg (nI d) 1).symm
theorem sd_undo_l (hm : m ≤ 32) (h01 : ∀ k, o k = 0 ∨ o k = 1) : ∀ d : Nat, d ≤ m → ∃ (r : Int32) (o' : Nat → Int32), (∀ k, o' k = 0 ∨ o' k = 1) ∧ (∀ post : Int32 → SX → Prop, post r (nI n, nI m, g, o', lx, cx) → wX_undo_7 post (nI n) (nI m) g o lx cx (d + 1) (nI d - 1)) ∧ (∀ post : Int32 → SY → Prop, post r (nI n, nI m, g, t, ly, cy, o') → wY_undo_7 post (nI n) (nI m) g t ly cy o (d + 1) (nI d - 1)) := by
  intro d
  induction d with
  | zero =>
    intro _
    have h : nI 0 - 1 < 0 := by decide
    exact ⟨-4, o, h01, fun post hp => br_t h hp, fun post hp => br_t h hp⟩
  | succ d ih =>
    intro hd
    rw [nI_pred]
    have hv : vp_in (nI d) 32 := vp_in_nI (by omega) (by omega)
    have h0 : ¬ nI d < 0 := nI_pos (by omega)
    have hc : (nI d).toNatClampNeg = d := nI_clamp (by omega)
    by_cases ho : o d = 0
    · obtain ⟨r, o', h, hX, hY⟩ := ih (by omega)
      exact ⟨r, o', h, fun post hp => br_f h0 ⟨hv, br_t (by rw [hc]; exact ho) (nm_r (sd_sub1 d) (hX post hp))⟩, fun post hp => br_f h0 ⟨hv, br_t (by rw [hc]; exact ho) (nm_r (sd_sub1 d) (hY post hp))⟩⟩
    · exact ⟨nI d, upd o d 0, sd_01u h01 (Or.inl rfl), fun post hp => br_f h0 ⟨hv, br_f (by rw [hc]; exact ho) ⟨hv, nm_r (sd_ui (by omega) sd_vb0) hp⟩⟩, fun post hp => br_f h0 ⟨hv, br_f (by rw [hc]; exact ho) ⟨hv, nm_r (sd_ui (by omega) sd_vb0) hp⟩⟩⟩
theorem sd_redo_l (hm : m ≤ 32) (h01 : ∀ k, o k = 0 ∨ o k = 1) : ∀ d k : Nat, k + d = m → ∃ (r : Int32) (o' : Nat → Int32), (∀ k, o' k = 0 ∨ o' k = 1) ∧ (∀ post : Int32 → SX → Prop, post r (nI n, nI m, g, o', lx, cx) → wX_redo_2 post (nI n) (nI m) g o lx cx (d + 1) (nI k)) ∧ (∀ post : Int32 → SY → Prop, post r (nI n, nI m, g, t, ly, cy, o') → wY_redo_2 post (nI n) (nI m) g t ly cy o (d + 1) (nI k)) := by
  intro d
  induction d with
  | zero =>
    intro k hk
    have h : nI m ≤ nI k := nI_le (by omega) (by omega)
    exact ⟨-4, o, h01, fun post hp => br_t h hp, fun post hp => br_t h hp⟩
  | succ d ih =>
    intro k hk
    have hv : vp_in (nI k) 32 := vp_in_nI (by omega) (by omega)
    have h0 : ¬ nI m ≤ nI k := nI_ge (by omega) (by omega)
    have hc : (nI k).toNatClampNeg = k := nI_clamp (by omega)
    by_cases ho : o k = 0
    · exact ⟨nI k, upd o k 1, sd_01u h01 (Or.inr rfl), fun post hp => br_f h0 ⟨hv, br_t (by rw [hc]; exact ho) ⟨hv, nm_r (sd_ui (by omega) sd_vb1) hp⟩⟩, fun post hp => br_f h0 ⟨hv, br_t (by rw [hc]; exact ho) ⟨hv, nm_r (sd_ui (by omega) sd_vb1) hp⟩⟩⟩
    · obtain ⟨r, o', h, hX, hY⟩ := ih (k + 1) (by omega)
      exact ⟨r, o', h, fun post hp => br_f h0 ⟨hv, br_f (by rw [hc]; exact ho) (nm_r (nI_1 k) (hX post hp))⟩, fun post hp => br_f h0 ⟨hv, br_f (by rw [hc]; exact ho) (nm_r (nI_1 k) (hY post hp))⟩⟩
theorem sd_flip_l (hm : m ≤ 32) {b : Nat} (hb : b < m) : ∀ (d k : Nat) (x : Int32) (o : Nat → Int32), (∀ k, o k = 0 ∨ o k = 1) → k + d = b + 1 → ∃ (r : Int32) (o' : Nat → Int32), (∀ k, o' k = 0 ∨ o' k = 1) ∧ (∀ post : Int32 → SX → Prop, post r (nI n, nI m, g, o', lx, cx) → wX_flip_24 post (nI b) (nI n) (nI m) (d + 1) x (nI k) g o lx cx) ∧ (∀ post : Int32 → SY → Prop, post r (nI n, nI m, g, t, ly, cy, o') → wY_flip_24 post (nI b) (nI n) (nI m) (d + 1) x (nI k) g t ly cy o) := by
  intro d
  induction d with
  | zero =>
    intro k x o h01 hk
    have h : nI b < nI k := nI_lt (by omega) (by omega)
    exact ⟨x, o, h01, fun post hp => br_t h hp, fun post hp => br_t h hp⟩
  | succ d ih =>
    intro k x o h01 hk
    have hv : vp_in (nI k) 32 := vp_in_nI (by omega) (by omega)
    have h0 : ¬ nI b < nI k := nI_nlt (by omega) (by omega)
    have hc : (nI k).toNatClampNeg = k := nI_clamp (by omega)
    by_cases ho : o k = 0
    · obtain ⟨r, o', h, hX, hY⟩ := ih (k + 1) (x + 1) (upd o k 1) (sd_01u h01 (Or.inr rfl)) (by omega)
      have hz : ¬ upd o k 1 (nI k).toNatClampNeg = 0 := by rw [hc, pk_us]; decide
      refine ⟨r, o', h, fun post hp => br_f h0 ⟨hv, br_t (by rw [hc]; exact ho) ?_⟩, fun post hp => br_f h0 ⟨hv, br_t (by rw [hc]; exact ho) ?_⟩⟩
      · unfold wX_flip_51
        exact ⟨hv, nm_r (sd_ui (by omega) sd_vb1) ⟨hv, br_f hz (nm_e (nm_r (nI_1 k) (hX post hp)))⟩⟩
      · unfold wY_flip_51
        exact ⟨hv, nm_r (sd_ui (by omega) sd_vb1) ⟨hv, br_f hz (nm_e (nm_r (nI_1 k) (hY post hp)))⟩⟩
    · obtain ⟨r, o', h, hX, hY⟩ := ih (k + 1) x (upd o k 0) (sd_01u h01 (Or.inl rfl)) (by omega)
      have hz : upd o k 0 (nI k).toNatClampNeg = 0 := by rw [hc, pk_us]
      refine ⟨r, o', h, fun post hp => br_f h0 ⟨hv, br_f (by rw [hc]; exact ho) ?_⟩, fun post hp => br_f h0 ⟨hv, br_f (by rw [hc]; exact ho) ?_⟩⟩
      · unfold wX_flip_51
        exact ⟨hv, nm_r (sd_ui (by omega) sd_vb0) ⟨hv, br_t hz (nm_r (nI_1 k) (hX post hp))⟩⟩
      · unfold wY_flip_51
        exact ⟨hv, nm_r (sd_ui (by omega) sd_vb0) ⟨hv, br_t hz (nm_r (nI_1 k) (hY post hp))⟩⟩
/-- put's store -/
def sd_put (v : Int32) : Int32 := if v = 0 then 0 else 1
theorem sd_put01 (v : Int32) : sd_put v = 0 ∨ sd_put v = 1 := by
  unfold sd_put
  by_cases h : v = 0
  · rw [if_pos h]; exact Or.inl rfl
  · rw [if_neg h]; exact Or.inr rfl
theorem sd_xput {k : Nat} (hk : k < 32) (v z : Int32) (post : Int32 → SX → Prop) (hp : post z (nI n, nI m, g, upd o k (sd_put v), lx, cx)) : wX_put_24 post (nI k) v z (nI n) (nI m) g o lx cx := by
  have hv : vp_in (nI k) 32 := vp_in_nI hk (by omega)
  unfold wX_put_24
  unfold sd_put at hp
  by_cases h : v = 0
  · rw [if_pos h] at hp
    exact br_t h ⟨hv, nm_r (sd_ui (by omega) sd_vb0) hp⟩
  · rw [if_neg h] at hp
    exact br_f h ⟨hv, nm_r (sd_ui (by omega) sd_vb1) hp⟩
theorem sd_yput {k : Nat} (hk : k < 32) (v z : Int32) (post : Int32 → SY → Prop) (hp : post z (nI n, nI m, g, t, ly, cy, upd o k (sd_put v))) : wY_put_24 post (nI k) v z (nI n) (nI m) g t ly cy o := by
  have hv : vp_in (nI k) 32 := vp_in_nI hk (by omega)
  unfold wY_put_24
  unfold sd_put at hp
  by_cases h : v = 0
  · rw [if_pos h] at hp
    exact br_t h ⟨hv, nm_r (sd_ui (by omega) sd_vb0) hp⟩
  · rw [if_neg h] at hp
    exact br_f h ⟨hv, nm_r (sd_ui (by omega) sd_vb1) hp⟩
/-- effect's turning there and back: z, then its contrary z' -/
theorem sd_xeff (I : sd_Inv n m g o lx ly t cy cx) {k : Nat} (hk : k < m) {z z' : Int32} (hz : (z = 1 ∧ z' = 0) ∨ (z = 0 ∧ z' = 1)) (x2 : Int32) (post : Int32 → SX → Prop) (hp : post (nI (sd_rk (sd_s g (upd o k z) cy m) n) - x2) (nI n, nI m, g, upd (upd o k z) k z', lx, cx)) : wX_effect_34 post (nI k) x2 z (nI k) (nI n) (nI m) g o lx cx := by
  have hm := I.2.1
  have hv : vp_in (nI k) 32 := vp_in_nI (by omega) (by omega)
  have hc : (nI k).toNatClampNeg = k := nI_clamp (by omega)
  have h01 : ∀ j, upd o k z j = 0 ∨ upd o k z j = 1 := sd_01u I.2.2.2.2.1 (by rcases hz with ⟨h, _⟩ | ⟨h, _⟩; exact Or.inr h; exact Or.inl h)
  have hn : vp_nar .boolean z = z := by rcases hz with ⟨h, _⟩ | ⟨h, _⟩ <;> rw [h] <;> decide
  unfold wX_effect_34
  refine ⟨hv, nm_r (sd_ui (by omega) hn) (sd_xlen (sd_inv_on I h01) _ ⟨hv, ?_⟩)⟩
  rcases hz with ⟨h, h'⟩ | ⟨h, h'⟩
  · subst h h'
    exact br_f (by rw [hc, pk_us]; decide) ⟨hv, nm_r (sd_ui (by omega) sd_vb0) hp⟩
  · subst h h'
    exact br_t (by rw [hc, pk_us]) ⟨hv, nm_r (sd_ui (by omega) sd_vb1) hp⟩
theorem sd_yeff (I : sd_Inv n m g o lx ly t cy cx) {k : Nat} (hk : k < m) {z z' : Int32} (hz : (z = 1 ∧ z' = 0) ∨ (z = 0 ∧ z' = 1)) (x2 : Int32) (post : Int32 → SY → Prop) (hp : post (nI (sd_rk (sd_s g (upd o k z) cy m) n) - x2) (nI n, nI m, g, t, ly, cy, upd (upd o k z) k z')) : wY_effect_34 post (nI k) x2 z (nI k) (nI n) (nI m) g t ly cy o := by
  have hm := I.2.1
  have hv : vp_in (nI k) 32 := vp_in_nI (by omega) (by omega)
  have hc : (nI k).toNatClampNeg = k := nI_clamp (by omega)
  have h01 : ∀ j, upd o k z j = 0 ∨ upd o k z j = 1 := sd_01u I.2.2.2.2.1 (by rcases hz with ⟨h, _⟩ | ⟨h, _⟩; exact Or.inr h; exact Or.inl h)
  have hn : vp_nar .boolean z = z := by rcases hz with ⟨h, _⟩ | ⟨h, _⟩ <;> rw [h] <;> decide
  unfold wY_effect_34
  refine ⟨hv, nm_r (sd_ui (by omega) hn) (sd_ylen (sd_inv_on I h01) _ ⟨hv, ?_⟩)⟩
  rcases hz with ⟨h, h'⟩ | ⟨h, h'⟩
  · subst h h'
    exact br_f (by rw [hc, pk_us]; decide) ⟨hv, nm_r (sd_ui (by omega) sd_vb0) hp⟩
  · subst h h'
    exact br_t (by rw [hc, pk_us]) ⟨hv, nm_r (sd_ui (by omega) sd_vb1) hp⟩
end
