/-! the component's walks, each against the pure picture -/
theorem sd_vb0 : vp_nar .boolean 0 = 0 := by decide
theorem sd_vb1 : vp_nar .boolean 1 = 1 := by decide
theorem sd_ui {f : Nat → Int32} {k : Nat} {x y : Int32} (hk : k < 2 ^ 31) (h : x = y) : upd f (nI k).toNatClampNeg x = upd f k y := by rw [nI_clamp hk, h]
theorem sd_uLi {f : Nat → Int64} {k : Nat} {x : Int64} (hk : k < 2 ^ 31) : vp_updL f (nI k).toNatClampNeg x = vp_updL f k x := by rw [nI_clamp hk]
section
variable {n m : Nat} {g o lx ly t cy : Nat → Int32} {cx : Nat → Int64}
theorem sd_xcov_l (I : sd_Inv n m g o lx ly t cy cx) {c : Nat} (hc : c < 32) (post : Int32 → Prop) (hp : post (nI (sd_rk (sd_on o cy c) m))) :
    ∀ d k : Nat, k + d = m → wX_coversThatAreOn_12 post ((1 : Int64) <<< ((nI c).toInt64 &&& 63)) (nI n) (nI m) g o lx cx (d + 1) (nI (sd_rk (sd_on o cy c) k)) (nI k) := by
  have hm := I.2.1
  intro d
  induction d with
  | zero =>
    intro k hk
    have e : k = m := by omega
    subst e
    exact br_t (nI_le (Nat.le_refl _) (by omega)) hp
  | succ d ih =>
    intro k hk
    have J := ih (k + 1) (by omega)
    refine br_f (nI_ge (by omega) (by omega)) ⟨vp_in_nI (by omega) (by omega), ?_⟩
    have hB := (I.2.2.2.2.2.2 k (by omega) c hc).1
    rw [nI_clamp (by omega)]
    by_cases ho : o k = 0
    · rw [sd_rk_f (fun z => (sd_on_iff.mp z).1 ho)] at J
      exact br_t ho (nm_r (nI_1 k) J)
    · refine br_f ho ⟨vp_in_nI (by omega) (by omega), ?_⟩
      cases hb : bt (cy k) c
      · rw [sd_rk_f (fun z => by rw [(sd_on_iff.mp z).2] at hb; cases hb)] at J
        exact br_t ((sd_xb _ hc).mpr (hB.trans hb)) (nm_r (nI_1 k) J)
      · rw [sd_rk_t (sd_on_iff.mpr ⟨ho, hb⟩)] at J
        exact br_f (fun z => by rw [sd_xb _ hc, hB, hb] at z; cases z) (nm_r (nI_1 _) (nm_r (nI_1 k) J))
theorem sd_xcov (I : sd_Inv n m g o lx ly t cy cx) {c : Nat} (hc : c < 32) (post : Int32 → Prop) (hp : post (nI (sd_rk (sd_on o cy c) m))) : wpX_coversThatAreOn post (nI n, nI m, g, o, lx, cx) (nI c) := by
  unfold wpX_coversThatAreOn wpX_bitOf
  exact ⟨m + 1, sd_xcov_l I hc post hp m 0 (by omega)⟩
theorem sd_xsh (I : sd_Inv n m g o lx ly t cy cx) {x : Int32} {c : Nat} (hx : x = nI c) (hc : c < m) (post : Int32 → Prop) (h1 : sd_sh o cy m c = true → post 1) (h0 : ¬ sd_sh o cy m c = true → post 0) : wpX_isShown post (nI n, nI m, g, o, lx, cx) x := by
  subst hx
  have hm := I.2.1
  have hr := sd_rk_le (sd_on o cy c) m
  unfold wpX_isShown
  refine ⟨vp_in_nI (by omega) (by omega), ?_⟩
  rw [nI_clamp (by omega)]
  by_cases ho : o c = 0
  · exact br_t ho (h0 (fun z => (sd_sh_iff.mp z).1 ho))
  · refine br_f ho (sd_xcov I (by omega) _ ?_)
    by_cases hz : sd_rk (sd_on o cy c) m = 0
    · exact br_t (by rw [hz]; rfl) (h1 (sd_sh_iff.mpr ⟨ho, hz⟩))
    · exact br_f (nI_ne0 (by omega) (by omega)) (h0 (fun z => hz (sd_sh_iff.mp z).2))
theorem sd_xshj (I : sd_Inv n m g o lx ly t cy cx) {j : Nat} (hj : j < n) {x : Int32} (hx : x = g j) (post : Int32 → Prop) (h1 : sd_s g o cy m j = true → post 1) (h0 : ¬ sd_s g o cy m j = true → post 0) : wpX_isShown post (nI n, nI m, g, o, lx, cx) x := by
  have hm := I.2.1
  obtain ⟨c, hc, e, -⟩ := I.2.2.1 j hj
  have es : sd_s g o cy m j = sd_sh o cy m c := sd_s_of e (by omega)
  exact sd_xsh I (hx.trans e) hc post (fun z => h1 (es.trans z)) (fun z => h0 (fun y => z (es.symm.trans y)))
theorem sd_xlen_l (I : sd_Inv n m g o lx ly t cy cx) (post : Int32 → Prop) (hp : post (nI (sd_rk (sd_s g o cy m) n))) :
    ∀ d j : Nat, j + d = n → wX_length_4 post (nI n) (nI m) g o lx cx (d + 1) (nI (sd_rk (sd_s g o cy m) j)) (nI j) := by
  have hm := I.2.1
  have hn := I.1
  intro d
  induction d with
  | zero =>
    intro j hj
    have e : j = n := by omega
    subst e
    exact br_t (nI_le (Nat.le_refl _) (by omega)) hp
  | succ d ih =>
    intro j hj
    have J := ih (j + 1) (by omega)
    refine br_f (nI_ge (by omega) (by omega)) ⟨vp_in_nI (by omega) (by omega), sd_xshj I (j := j) (by omega) (congrArg g (nI_clamp (by omega))) _ (fun z => ?_) (fun z => ?_)⟩
    · rw [sd_rk_t z] at J
      exact br_f (by decide) (nm_r (nI_1 _) (nm_r (nI_1 _) J))
    · rw [sd_rk_f z] at J
      exact br_t rfl (nm_r (nI_1 _) J)
theorem sd_xlen (I : sd_Inv n m g o lx ly t cy cx) (post : Int32 → Prop) (hp : post (nI (sd_rk (sd_s g o cy m) n))) : wpX_length post (nI n, nI m, g, o, lx, cx) := by
  unfold wpX_length
  exact ⟨n + 1, sd_xlen_l I post hp n 0 (by omega)⟩
theorem sd_xidx_l (I : sd_Inv n m g o lx ly t cy cx) (p : Int32) (post : Int32 → Prop) (h1 : ∀ i, i < n → sd_s g o cy m i = true → nI (sd_rk (sd_s g o cy m) i) = p → post (nI i)) (h0 : (∀ i, i < n → sd_s g o cy m i = true → ¬ nI (sd_rk (sd_s g o cy m) i) = p) → post (-4)) :
    ∀ d j : Nat, j + d = n → (∀ i, i < j → sd_s g o cy m i = true → ¬ nI (sd_rk (sd_s g o cy m) i) = p) → wX_listIndexOfPlace_4 post p (nI n) (nI m) g o lx cx (d + 1) (nI (sd_rk (sd_s g o cy m) j)) (nI j) := by
  have hm := I.2.1
  have hn := I.1
  intro d
  induction d with
  | zero =>
    intro j hj hb
    have e : j = n := by omega
    subst e
    exact br_t (nI_le (Nat.le_refl _) (by omega)) (h0 hb)
  | succ d ih =>
    intro j hj hb
    have J := ih (j + 1) (by omega)
    refine br_f (nI_ge (by omega) (by omega)) ⟨vp_in_nI (by omega) (by omega), sd_xshj I (j := j) (by omega) (congrArg g (nI_clamp (by omega))) _ (fun z => ?_) (fun z => ?_)⟩
    · rw [sd_rk_t z] at J
      exact br_f (by decide) (br_c (fun e => h1 j (by omega) z e) (fun e => nm_r (nI_1 _) (nm_r (nI_1 _) (J (lt_s hb (fun _ => e))))))
    · rw [sd_rk_f z] at J
      exact br_t rfl (nm_r (nI_1 _) (J (lt_s hb (fun y => absurd y z))))
theorem sd_xidx (I : sd_Inv n m g o lx ly t cy cx) (p : Int32) (post : Int32 → Prop) (h1 : ∀ i, i < n → sd_s g o cy m i = true → nI (sd_rk (sd_s g o cy m) i) = p → post (nI i)) (h0 : (∀ i, i < n → sd_s g o cy m i = true → ¬ nI (sd_rk (sd_s g o cy m) i) = p) → post (-4)) : wpX_listIndexOfPlace post (nI n, nI m, g, o, lx, cx) p := by
  unfold wpX_listIndexOfPlace
  exact ⟨n + 1, sd_xidx_l I p post h1 h0 n 0 (by omega) lt_0⟩
theorem sd_xwh_l (I : sd_Inv n m g o lx ly t cy cx) (p : Int32) (post : Int32 → Prop) (h1 : ∀ i, i < n → sd_s g o cy m i = true → g i = p → post (nI (sd_rk (sd_s g o cy m) i))) (h0 : (∀ i, i < n → sd_s g o cy m i = true → ¬ g i = p) → post (-4)) :
    ∀ d j : Nat, j + d = n → (∀ i, i < j → sd_s g o cy m i = true → ¬ g i = p) → wX_where_4 post p (nI n) (nI m) g o lx cx (d + 1) (nI (sd_rk (sd_s g o cy m) j)) (nI j) := by
  have hm := I.2.1
  have hn := I.1
  intro d
  induction d with
  | zero =>
    intro j hj hb
    have e : j = n := by omega
    subst e
    exact br_t (nI_le (Nat.le_refl _) (by omega)) (h0 hb)
  | succ d ih =>
    intro j hj hb
    have J := ih (j + 1) (by omega)
    refine br_f (nI_ge (by omega) (by omega)) ⟨vp_in_nI (by omega) (by omega), nm_r (congrArg g (nI_clamp (by omega))) (sd_xshj I (j := j) (by omega) rfl _ (fun z => ?_) (fun z => ?_))⟩
    · rw [sd_rk_t z] at J
      exact br_f (by decide) (br_c (fun e => h1 j (by omega) z e) (fun e => nm_r (nI_1 _) (nm_r (nI_1 _) (J (lt_s hb (fun _ => e))))))
    · rw [sd_rk_f z] at J
      exact br_t rfl (nm_r (nI_1 _) (J (lt_s hb (fun y => absurd y z))))
theorem sd_xwh (I : sd_Inv n m g o lx ly t cy cx) (p : Int32) (post : Int32 → Prop) (h1 : ∀ i, i < n → sd_s g o cy m i = true → g i = p → post (nI (sd_rk (sd_s g o cy m) i))) (h0 : (∀ i, i < n → sd_s g o cy m i = true → ¬ g i = p) → post (-4)) : wpX_where post (nI n, nI m, g, o, lx, cx) p := by
  unfold wpX_where
  exact ⟨n + 1, sd_xwh_l I p post h1 h0 n 0 (by omega) lt_0⟩
theorem sd_xbit (post : Int64 → Prop) (u : SX) (x : Int32) (hp : post ((1 : Int64) <<< (x.toInt64 &&& 63))) : wpX_bitOf post u x := hp
theorem sd_xcp_l (I : sd_Inv n m g o lx ly t cy cx) {i j : Nat} (hi : i < 2 ^ 31) (hj : j < 2 ^ 31) (post : Int64 → Prop) (hp : ∀ X, sd_XB (sd_s g o cy m) g i j X n → post X) :
    ∀ (d a : Nat) (X : Int64), a + d = n → sd_XB (sd_s g o cy m) g i j X a → wX_coverOfPlaces_8 post (nI i) (nI j) (nI n) (nI m) g o lx cx (d + 1) X (nI (sd_rk (sd_s g o cy m) a)) (nI a) := by
  have hm := I.2.1
  have hn := I.1
  intro d
  induction d with
  | zero =>
    intro a X ha hX
    have e : a = n := by omega
    subst e
    exact br_t (nI_le (Nat.le_refl _) (by omega)) (hp X hX)
  | succ d ih =>
    intro a X ha hX
    have hr := sd_rk_le (sd_s g o cy m) a
    have J := fun Z => ih (a + 1) Z (by omega)
    refine br_f (nI_ge (by omega) (by omega)) ⟨vp_in_nI (by omega) (by omega), nm_r (congrArg g (nI_clamp (by omega))) (sd_xshj I (j := a) (by omega) rfl _ (fun z => ?_) (fun z => ?_))⟩
    · rw [sd_rk_t z] at J
      refine br_f (by decide) (pk_lt (sd_rk (sd_s g o cy m) a) i (fun h => ?_) (fun h => pk_le j (sd_rk (sd_s g o cy m) a) (fun h2 => ?_) (fun h2 => sd_xbit _ _ _ ?_)))
      · exact nm_r (nI_1 _) (nm_r (nI_1 _) (J X (sd_XB_out hX (fun y => by omega))))
      · exact nm_r (nI_1 _) (nm_r (nI_1 _) (J X (sd_XB_out hX (fun y => by omega))))
      · obtain ⟨c, hc, e, -⟩ := I.2.2.1 a (by omega)
        exact nm_r (by rw [e]) (nm_r (nI_1 _) (nm_r (nI_1 _) (J _ (sd_XB_in hX z h h2 (by omega) e))))
    · rw [sd_rk_f z] at J
      exact br_t rfl (nm_r (nI_1 _) (J X (sd_XB_out hX (fun y => z y.1))))
theorem sd_xcp (I : sd_Inv n m g o lx ly t cy cx) {i j : Nat} (hi : i < 2 ^ 31) (hj : j < 2 ^ 31) (post : Int64 → Prop) (hp : ∀ X, sd_XB (sd_s g o cy m) g i j X n → post X) : wpX_coverOfPlaces post (nI n, nI m, g, o, lx, cx) (nI i) (nI j) := by
  unfold wpX_coverOfPlaces
  exact ⟨n + 1, sd_xcp_l I hi hj post hp n 0 0 (by omega) sd_XB0⟩
theorem sd_xins_l {idx : Nat} (hi : idx ≤ n) (hn : n < 48) (post : SX → Prop) (x : Int32) (hp : post (nI (n + 1), nI m, upd (sd_A g n idx) idx x, o, lx, cx)) :
    ∀ d : Nat, idx + d ≤ n → wX_insertIntoList_5 post (nI idx) x (nI n) (nI m) (d + 1) (nI (idx + d)) (sd_A g n (idx + d)) o lx cx := by
  intro d
  induction d with
  | zero =>
    intro hd
    exact br_t (nI_le (Nat.le_refl _) (by omega)) ⟨vp_in_nI (by omega) (by omega), nm_r (sd_ui (by omega) rfl) (nm_r (nI_1 n) hp)⟩
  | succ d ih =>
    intro hd
    have e : nI (idx + (d + 1)) - 1 = nI (idx + d) := nI_pred (idx + d)
    refine br_f (nI_ge (by omega) (by omega)) ?_
    rw [e]
    refine ⟨vp_in_nI (by omega) (by omega), vp_in_nI (by omega) (by omega), nm_r ?_ (nm_r (pk_m1 (idx + d)) (ih (by omega)))⟩
    rw [nI_clamp (by omega), nI_clamp (by omega)]
    exact sd_A_s (by omega)
theorem sd_xins {idx : Nat} (hi : idx ≤ n) (hn : n < 48) (post : SX → Prop) (x : Int32) (hp : post (nI (n + 1), nI m, upd (sd_A g n idx) idx x, o, lx, cx)) : wpX_insertIntoList post (nI n, nI m, g, o, lx, cx) (nI idx) x := by
  have J := sd_xins_l (m := m) (g := g) (o := o) (lx := lx) (cx := cx) hi hn post x hp (n - idx) (by omega)
  rw [show idx + (n - idx) = n by omega, sd_A_n] at J
  unfold wpX_insertIntoList
  exact ⟨n - idx + 1, J⟩
theorem sd_xadd (hm : m < 32) (post : Int32 → SX → Prop) (x : Int32) (y : Int64) (hp : post (nI m) (nI n, nI (m + 1), g, upd o m 1, upd lx m x, vp_updL cx m y)) : wpX_addChange post (nI n, nI m, g, o, lx, cx) x y := by
  have h : vp_in (nI m) 32 := vp_in_nI hm (by omega)
  unfold wpX_addChange
  exact ⟨h, nm_r (sd_ui (by omega) rfl) ⟨h, nm_r (sd_uLi (by omega)) ⟨h, nm_r (sd_ui (by omega) sd_vb1) (nm_r (nI_1 m) hp)⟩⟩⟩
theorem sd_xdig_l (I : sd_Inv n m g o lx ly t cy cx) (w : Nat → Int32) (hw : ∀ j, j < n → sd_s g o cy m j = true → (nI (sd_rk (sd_s g o cy m) j) + 1) * (lx (g j).toNatClampNeg + 1) = w (sd_rk (sd_s g o cy m) j)) (post : Int32 → Prop) (hp : post (sd_F w (sd_rk (sd_s g o cy m) n))) :
    ∀ d j : Nat, j + d = n → wX_digest_6 post (nI n) (nI m) g o lx cx (d + 1) (sd_F w (sd_rk (sd_s g o cy m) j)) (nI (sd_rk (sd_s g o cy m) j)) (nI j) := by
  have hm := I.2.1
  have hn := I.1
  intro d
  induction d with
  | zero =>
    intro j hj
    have e : j = n := by omega
    subst e
    exact br_t (nI_le (Nat.le_refl _) (by omega)) hp
  | succ d ih =>
    intro j hj
    have J := ih (j + 1) (by omega)
    obtain ⟨c, hc, e, -⟩ := I.2.2.1 j (by omega)
    refine br_f (nI_ge (by omega) (by omega)) ⟨vp_in_nI (by omega) (by omega), nm_r (congrArg g (nI_clamp (by omega))) (sd_xshj I (j := j) (by omega) rfl _ (fun z => ?_) (fun z => ?_))⟩
    · rw [sd_rk_t z] at J
      exact br_f (by decide) ⟨by rw [e]; exact vp_in_nI (by omega) (by omega), nm_r (by rw [hw j (by omega) z]; rfl) (nm_r (nI_1 _) (nm_r (nI_1 _) J))⟩
    · rw [sd_rk_f z] at J
      exact br_t rfl (nm_r (nI_1 _) J)
theorem sd_xdig (I : sd_Inv n m g o lx ly t cy cx) (w : Nat → Int32) (hw : ∀ j, j < n → sd_s g o cy m j = true → (nI (sd_rk (sd_s g o cy m) j) + 1) * (lx (g j).toNatClampNeg + 1) = w (sd_rk (sd_s g o cy m) j)) (post : Int32 → Prop) (hp : post (sd_F w (sd_rk (sd_s g o cy m) n))) : wpX_digest post (nI n, nI m, g, o, lx, cx) := by
  unfold wpX_digest
  exact ⟨n + 1, sd_xdig_l I w hw post hp n 0 (by omega)⟩
theorem sd_xcn_l (I : sd_Inv n m g o lx ly t cy cx) {k : Nat} (hk : k < m) (post : Int32 → Prop) (hp : post (nI (sd_rk (fun c => bt (cy k) c) m))) :
    ∀ d c : Nat, c + d = m → wX_covers_14 post (nI k) (nI n) (nI m) g o lx cx (d + 1) (nI (sd_rk (fun c => bt (cy k) c) c)) (nI c) := by
  have hm := I.2.1
  intro d
  induction d with
  | zero =>
    intro c hc
    have e : c = m := by omega
    subst e
    exact br_t (nI_le (Nat.le_refl _) (by omega)) hp
  | succ d ih =>
    intro c hc
    have J := ih (c + 1) (by omega)
    have hB := (I.2.2.2.2.2.2 k hk c (by omega)).1
    refine br_f (nI_ge (by omega) (by omega)) ⟨vp_in_nI (by omega) (by omega), sd_xbit _ _ _ ?_⟩
    rw [nI_clamp (by omega)]
    cases hb : bt (cy k) c
    · rw [sd_rk_f (s := fun c => bt (cy k) c) (fun z => by rw [show bt (cy k) c = true from z] at hb; cases hb)] at J
      exact br_t ((sd_xb _ (by omega)).mpr (hB.trans hb)) (nm_r (nI_1 _) J)
    · rw [sd_rk_t (s := fun c => bt (cy k) c) hb] at J
      exact br_f (fun z => by rw [sd_xb _ (by omega), hB, hb] at z; cases z) (nm_r (nI_1 _) (nm_r (nI_1 _) J))
theorem sd_xic0 {x : Int32} (h : x < 0 ∨ nI m ≤ x) (post : Int32 → Prop) (hp : post 0) : wpX_isChange post (nI n, nI m, g, o, lx, cx) x := by
  unfold wpX_isChange
  by_cases h0 : x < 0
  · exact br_t h0 hp
  · exact br_f h0 (br_t (h.resolve_left h0) hp)
theorem sd_xic1 {k : Nat} (hk : k < m) (hm : m ≤ 32) (post : Int32 → Prop) (hp : post 1) : wpX_isChange post (nI n, nI m, g, o, lx, cx) (nI k) := by
  unfold wpX_isChange
  exact br_f (nI_pos (by omega)) (br_f (nI_ge hk (by omega)) hp)
end
