/-! the reference's walks, each against the pure picture -/
section
variable {n m : Nat} {g o lx ly t cy : Nat → Int32} {cx : Nat → Int64}
theorem sd_ycov_l (I : sd_Inv n m g o lx ly t cy cx) {c : Nat} (hc : c < 32) (post : Int32 → Prop) (hp : post (nI (sd_rk (sd_on o cy c) m))) :
    ∀ d k : Nat, k + d = m → wY_coversOf_4 post (nI c) (nI n) (nI m) g t ly cy o (d + 1) (nI (sd_rk (sd_on o cy c) k)) (nI k) := by
  have hm := I.2.1
  intro d
  induction d with
  | zero =>
    intro k hk
    have e : k = m := by omega
    subst e
    exact br_t (nI_le (Nat.le_refl _) (by omega)) hp
  | succ d ih =>
    intro k hk
    have J := ih (k + 1) (by omega)
    refine br_f (nI_ge (by omega) (by omega)) ⟨vp_in_nI (by omega) (by omega), ?_⟩
    rw [nI_clamp (by omega)]
    by_cases ho : o k = 0
    · rw [sd_rk_f (fun z => (sd_on_iff.mp z).1 ho)] at J
      exact br_t ho (nm_r (nI_1 k) J)
    · refine br_f ho ⟨vp_in_nI (by omega) (by omega), ?_⟩
      rw [sd_yb _ hc]
      by_cases hb : bt (cy k) c = true
      · rw [sd_rk_t (sd_on_iff.mpr ⟨ho, hb⟩)] at J
        exact br_t (if_pos hb) (nm_r (nI_1 _) (nm_r (nI_1 k) J))
      · rw [sd_rk_f (fun z => hb (sd_on_iff.mp z).2)] at J
        exact br_f (by rw [if_neg hb]; decide) (nm_r (nI_1 k) J)
theorem sd_ycov (I : sd_Inv n m g o lx ly t cy cx) {c : Nat} (hc : c < 32) (post : Int32 → Prop) (hp : post (nI (sd_rk (sd_on o cy c) m))) : wpY_coversOf post (nI n, nI m, g, t, ly, cy, o) (nI c) := by
  unfold wpY_coversOf
  exact ⟨m + 1, sd_ycov_l I hc post hp m 0 (by omega)⟩
theorem sd_ysh (I : sd_Inv n m g o lx ly t cy cx) {x : Int32} {c : Nat} (hx : x = nI c) (hc : c < m) (post : Int32 → Prop) (h1 : sd_sh o cy m c = true → post 1) (h0 : ¬ sd_sh o cy m c = true → post 0) : wpY_isShown post (nI n, nI m, g, t, ly, cy, o) x := by
  subst hx
  have hm := I.2.1
  have hr := sd_rk_le (sd_on o cy c) m
  unfold wpY_isShown
  refine ⟨vp_in_nI (by omega) (by omega), ?_⟩
  rw [nI_clamp (by omega)]
  by_cases ho : o c = 0
  · exact br_t ho (h0 (fun z => (sd_sh_iff.mp z).1 ho))
  · refine br_f ho (sd_ycov I (by omega) _ ?_)
    by_cases hz : sd_rk (sd_on o cy c) m = 0
    · exact br_t (by rw [hz]; rfl) (h1 (sd_sh_iff.mpr ⟨ho, hz⟩))
    · exact br_f (nI_ne0 (by omega) (by omega)) (h0 (fun z => hz (sd_sh_iff.mp z).2))
theorem sd_yshj (I : sd_Inv n m g o lx ly t cy cx) {j : Nat} (hj : j < n) {x : Int32} (hx : x = g j) (post : Int32 → Prop) (h1 : sd_s g o cy m j = true → post 1) (h0 : ¬ sd_s g o cy m j = true → post 0) : wpY_isShown post (nI n, nI m, g, t, ly, cy, o) x := by
  have hm := I.2.1
  obtain ⟨c, hc, e, -⟩ := I.2.2.1 j hj
  have es : sd_s g o cy m j = sd_sh o cy m c := sd_s_of e (by omega)
  exact sd_ysh I (hx.trans e) hc post (fun z => h1 (es.trans z)) (fun z => h0 (fun y => z (es.symm.trans y)))
theorem sd_ylen_l (I : sd_Inv n m g o lx ly t cy cx) (post : Int32 → Prop) (hp : post (nI (sd_rk (sd_s g o cy m) n))) :
    ∀ d j : Nat, j + d = n → wY_length_4 post (nI n) (nI m) g t ly cy o (d + 1) (nI (sd_rk (sd_s g o cy m) j)) (nI j) := by
  have hm := I.2.1
  have hn := I.1
  intro d
  induction d with
  | zero =>
    intro j hj
    have e : j = n := by omega
    subst e
    exact br_t (nI_le (Nat.le_refl _) (by omega)) hp
  | succ d ih =>
    intro j hj
    have J := ih (j + 1) (by omega)
    refine br_f (nI_ge (by omega) (by omega)) ⟨vp_in_nI (by omega) (by omega), sd_yshj I (j := j) (by omega) (congrArg g (nI_clamp (by omega))) _ (fun z => ?_) (fun z => ?_)⟩
    · rw [sd_rk_t z] at J
      exact br_f (by decide) (nm_r (nI_1 _) (nm_r (nI_1 _) J))
    · rw [sd_rk_f z] at J
      exact br_t rfl (nm_r (nI_1 _) J)
theorem sd_ylen (I : sd_Inv n m g o lx ly t cy cx) (post : Int32 → Prop) (hp : post (nI (sd_rk (sd_s g o cy m) n))) : wpY_length post (nI n, nI m, g, t, ly, cy, o) := by
  unfold wpY_length
  exact ⟨n + 1, sd_ylen_l I post hp n 0 (by omega)⟩
theorem sd_ych_l (I : sd_Inv n m g o lx ly t cy cx) (p : Int32) (post : Int32 → Prop) (h1 : ∀ i, i < n → sd_s g o cy m i = true → nI (sd_rk (sd_s g o cy m) i) = p → post (g i)) (h0 : (∀ i, i < n → sd_s g o cy m i = true → ¬ nI (sd_rk (sd_s g o cy m) i) = p) → post (-4)) :
    ∀ d j : Nat, j + d = n → (∀ i, i < j → sd_s g o cy m i = true → ¬ nI (sd_rk (sd_s g o cy m) i) = p) → wY_charAt_4 post p (nI n) (nI m) g t ly cy o (d + 1) (nI (sd_rk (sd_s g o cy m) j)) (nI j) := by
  have hm := I.2.1
  have hn := I.1
  intro d
  induction d with
  | zero =>
    intro j hj hb
    have e : j = n := by omega
    subst e
    exact br_t (nI_le (Nat.le_refl _) (by omega)) (h0 hb)
  | succ d ih =>
    intro j hj hb
    have J := ih (j + 1) (by omega)
    have hv : vp_in (nI j) 32 := vp_in_nI (by omega) (by omega)
    refine br_f (nI_ge (by omega) (by omega)) ⟨hv, sd_yshj I (j := j) (by omega) (congrArg g (nI_clamp (by omega))) _ (fun z => ?_) (fun z => ?_)⟩
    · rw [sd_rk_t z] at J
      refine br_f (by decide) (br_c (fun e => ⟨hv, ?_⟩) (fun e => nm_r (nI_1 _) (nm_r (nI_1 _) (J (lt_s hb (fun _ => e))))))
      rw [nI_clamp (by omega)]
      exact h1 j (by omega) z e
    · rw [sd_rk_f z] at J
      exact br_t rfl (nm_r (nI_1 _) (J (lt_s hb (fun y => absurd y z))))
theorem sd_ych (I : sd_Inv n m g o lx ly t cy cx) (p : Int32) (post : Int32 → Prop) (h1 : ∀ i, i < n → sd_s g o cy m i = true → nI (sd_rk (sd_s g o cy m) i) = p → post (g i)) (h0 : (∀ i, i < n → sd_s g o cy m i = true → ¬ nI (sd_rk (sd_s g o cy m) i) = p) → post (-4)) : wpY_charAt post (nI n, nI m, g, t, ly, cy, o) p := by
  unfold wpY_charAt
  exact ⟨n + 1, sd_ych_l I p post h1 h0 n 0 (by omega) lt_0⟩
/-- the reference's where: place by place -/
theorem sd_ywh_l (I : sd_Inv n m g o lx ly t cy cx) (p : Int32) (post : Int32 → Prop) (h1 : ∀ i, i < n → sd_s g o cy m i = true → g i = p → post (nI (sd_rk (sd_s g o cy m) i))) (h0 : (∀ i, i < n → sd_s g o cy m i = true → ¬ g i = p) → post (-4)) :
    ∀ d q : Nat, q + d = 32 → (∀ i, i < n → sd_s g o cy m i = true → sd_rk (sd_s g o cy m) i < q → ¬ g i = p) → wY_where_2 post p (nI n) (nI m) g t ly cy o (d + 1) (nI q) := by
  have hm := I.2.1
  have hn := I.1
  intro d
  induction d with
  | zero =>
    intro q hq hb
    have e : q = 32 := by omega
    subst e
    exact br_t (nI_le (Nat.le_refl 32) (by omega)) (h0 (fun i hi si => hb i hi si (by have := sd_rk_le (sd_s g o cy m) i; omega)))
  | succ d ih =>
    intro q hq hb
    have J := ih (q + 1) (by omega)
    refine br_f (nI_ge (b := 32) (by omega) (by decide)) (sd_ych I (nI q) _ (fun i hi si e => ?_) (fun hz => ?_))
    · have hr := sd_rk_le (sd_s g o cy m) i
      rw [nI_eq (by omega) (by omega)] at e
      obtain ⟨c, hc, ec, -⟩ := I.2.2.1 i hi
      refine br_c (fun e2 => br_f (by rw [ec]; exact nI_pos (by omega)) (by rw [← e]; exact h1 i hi si e2)) (fun e2 => nm_r (nI_1 _) (J (fun i' hi' si' hr' => ?_)))
      by_cases e3 : sd_rk (sd_s g o cy m) i' = q
      · rw [sd_rk_inj si' si (e3.trans e.symm)]; exact e2
      · exact hb i' hi' si' (by omega)
    · have J2 := J (fun i' hi' si' hr' => by
        by_cases e3 : sd_rk (sd_s g o cy m) i' = q
        · exact absurd (congrArg nI e3) (hz i' hi' si')
        · exact hb i' hi' si' (by omega))
      exact br_c (fun _ => br_t (by decide) (nm_r (nI_1 _) J2)) (fun _ => nm_r (nI_1 _) J2)
theorem sd_ywh (I : sd_Inv n m g o lx ly t cy cx) (p : Int32) (post : Int32 → Prop) (h1 : ∀ i, i < n → sd_s g o cy m i = true → g i = p → post (nI (sd_rk (sd_s g o cy m) i))) (h0 : (∀ i, i < n → sd_s g o cy m i = true → ¬ g i = p) → post (-4)) : wpY_where post (nI n, nI m, g, t, ly, cy, o) p := by
  unfold wpY_where
  exact ⟨32 + 1, sd_ywh_l I p post h1 h0 32 0 (by omega) (fun i _ _ h => absurd h (Nat.not_lt_zero _))⟩
/-- the reference's digest: place by place -/
theorem sd_ydig_l (I : sd_Inv n m g o lx ly t cy cx) (w : Nat → Int32) (hw : ∀ j, j < n → sd_s g o cy m j = true → (nI (sd_rk (sd_s g o cy m) j) + 1) * (ly (g j).toNatClampNeg + 1) = w (sd_rk (sd_s g o cy m) j)) (hw0 : ∀ p, sd_rk (sd_s g o cy m) n ≤ p → w p = 0) (post : Int32 → Prop) (hp : post (sd_F w 32)) :
    ∀ d q : Nat, q + d = 32 → wY_digest_4 post (nI n) (nI m) g t ly cy o (d + 1) (sd_F w q) (nI q) := by
  have hm := I.2.1
  have hn := I.1
  intro d
  induction d with
  | zero =>
    intro q hq
    have e : q = 32 := by omega
    subst e
    exact br_t (nI_le (Nat.le_refl 32) (by omega)) hp
  | succ d ih =>
    intro q hq
    have J := ih (q + 1) (by omega)
    refine br_f (nI_ge (b := 32) (by omega) (by decide)) (sd_ych I (nI q) _ (fun i hi si e => ?_) (fun hz => ?_))
    · have hr := sd_rk_le (sd_s g o cy m) i
      rw [nI_eq (by omega) (by omega)] at e
      obtain ⟨c, hc, ec, -⟩ := I.2.2.1 i hi
      have hv := hw i hi si
      rw [e] at hv
      exact br_t (by rw [ec]; exact nI_pos' (by omega)) ⟨by rw [ec]; exact vp_in_nI (by omega) (by omega), nm_r (by rw [hv]; rfl) (nm_r (nI_1 _) J)⟩
    · have hq2 : sd_rk (sd_s g o cy m) n ≤ q := by
        rcases Nat.lt_or_ge q (sd_rk (sd_s g o cy m) n) with h | h
        · obtain ⟨i, hi, si, e⟩ := sd_rk_surj h
          exact absurd (congrArg nI e) (hz i hi si)
        · exact h
      have e : sd_F w (q + 1) = sd_F w q := by
        show sd_F w q + w q = _
        rw [hw0 q hq2, Int32.add_zero]
      rw [e] at J
      exact br_f (by decide) (nm_r (nI_1 _) J)
theorem sd_ydig (I : sd_Inv n m g o lx ly t cy cx) (w : Nat → Int32) (hw : ∀ j, j < n → sd_s g o cy m j = true → (nI (sd_rk (sd_s g o cy m) j) + 1) * (ly (g j).toNatClampNeg + 1) = w (sd_rk (sd_s g o cy m) j)) (hw0 : ∀ p, sd_rk (sd_s g o cy m) n ≤ p → w p = 0) (post : Int32 → Prop) (hp : post (sd_F w 32)) : wpY_digest post (nI n, nI m, g, t, ly, cy, o) := by
  unfold wpY_digest
  exact ⟨32 + 1, sd_ydig_l I w hw hw0 post hp 32 0 (by omega)⟩
theorem sd_ycn_l (hm : m ≤ 32) {k : Nat} (hk : k < m) (post : Int32 → Prop) (hp : post (nI (sd_rk (fun c => bt (cy k) c) 32))) :
    ∀ d c : Nat, c + d = 32 → wY_covers_14 post (nI k) (nI n) (nI m) g t ly cy o (d + 1) (nI (sd_rk (fun c => bt (cy k) c) c)) (nI c) := by
  intro d
  induction d with
  | zero =>
    intro c hc
    have e : c = 32 := by omega
    subst e
    exact br_t (nI_le (Nat.le_refl 32) (by omega)) hp
  | succ d ih =>
    intro c hc
    have J := ih (c + 1) (by omega)
    refine br_f (nI_ge (b := 32) (by omega) (by decide)) ⟨vp_in_nI (by omega) (by omega), ?_⟩
    rw [nI_clamp (by omega), sd_yb _ (by omega)]
    by_cases hb : bt (cy k) c = true
    · rw [sd_rk_t (s := fun c => bt (cy k) c) hb] at J
      exact nm_r (by rw [if_pos hb]; exact nI_1 _) (nm_r (nI_1 _) J)
    · rw [sd_rk_f (s := fun c => bt (cy k) c) hb] at J
      exact nm_r (by rw [if_neg hb]; exact Int32.add_zero _) (nm_r (nI_1 _) J)
theorem sd_yty99 (hm : m < 32) {idx : Nat} (hi : idx ≤ n) (hn : n ≤ m) (x : Int32) (G : Nat → Int32) (post : Int32 → SY → Prop) (hp : post (nI m) (nI (n + 1), nI (m + 1), upd G idx (nI m), upd t m 1, upd ly m x, upd cy m 0, upd o m 1)) : wY_type_99 post x (nI idx) (nI n) (nI m) G t ly cy o := by
  have h : vp_in (nI m) 32 := vp_in_nI hm (by omega)
  unfold wY_type_99
  refine ⟨vp_in_nI (by omega) (by omega), nm_r (sd_ui (by omega) rfl) (nm_r (nI_1 n) ⟨h, nm_r (sd_ui (by omega) sd_vb1) ⟨h, nm_r (sd_ui (by omega) rfl) ⟨h, nm_r (sd_ui (by omega) rfl) ⟨h, nm_r (sd_ui (by omega) sd_vb1) (nm_r (nI_1 m) ?_)⟩⟩⟩⟩)⟩
  rw [nI_pred]
  exact hp
theorem sd_yty_l (hm : m < 32) (hn : n ≤ m) {idx : Nat} (hi : idx ≤ n) {b : Int32} (h1 : ∀ j, idx ≤ j → j < n → ¬ g j = b) (h2 : idx = 0 ∨ ∃ i, idx = i + 1 ∧ g i = b) (x : Int32) (post : Int32 → SY → Prop) (hp : post (nI m) (nI (n + 1), nI (m + 1), upd (sd_A g n idx) idx (nI m), upd t m 1, upd ly m x, upd cy m 0, upd o m 1)) :
    ∀ d : Nat, idx + d ≤ n → wY_type_59 post x b (nI n) (nI m) (d + 1) (nI (idx + d)) (sd_A g n (idx + d)) t ly cy o := by
  intro d
  induction d with
  | zero =>
    intro hd
    have J := sd_yty99 (t := t) (ly := ly) (cy := cy) (o := o) hm hi hn x (sd_A g n idx) post hp
    rcases h2 with rfl | ⟨i, rfl, e⟩
    · exact br_t (nI_le (a := 0) (b := 0) (Nat.le_refl 0) (by decide)) J
    · refine br_f (nI_nle (by omega) (by omega)) ?_
      have e1 : nI (i + 1 + 0) - 1 = nI i := nI_pred i
      rw [e1]
      refine ⟨vp_in_nI (by omega) (by omega), br_t ?_ J⟩
      rw [nI_clamp (by omega), sd_A_le (by omega)]
      exact e
  | succ d ih =>
    intro hd
    have e : nI (idx + (d + 1)) - 1 = nI (idx + d) := nI_pred (idx + d)
    refine br_f (nI_nle (by omega) (by omega)) ?_
    rw [e]
    refine ⟨vp_in_nI (by omega) (by omega), br_f ?_ ⟨vp_in_nI (by omega) (by omega), vp_in_nI (by omega) (by omega), nm_r ?_ (nm_r (pk_m1 (idx + d)) (ih (by omega)))⟩⟩
    · rw [nI_clamp (by omega), sd_A_le (by omega)]
      exact h1 (idx + d) (by omega) (by omega)
    · rw [nI_clamp (by omega), nI_clamp (by omega)]
      exact sd_A_s (by omega)
theorem sd_yty (hm : m < 32) (hn : n ≤ m) {idx : Nat} (hi : idx ≤ n) {b : Int32} (h1 : ∀ j, idx ≤ j → j < n → ¬ g j = b) (h2 : idx = 0 ∨ ∃ i, idx = i + 1 ∧ g i = b) (x : Int32) (post : Int32 → SY → Prop) (hp : post (nI m) (nI (n + 1), nI (m + 1), upd (sd_A g n idx) idx (nI m), upd t m 1, upd ly m x, upd cy m 0, upd o m 1)) : ∃ n59 : Nat, wY_type_59 post x b (nI n) (nI m) n59 (nI n) g t ly cy o := by
  have J := sd_yty_l (g := g) (t := t) (ly := ly) (cy := cy) (o := o) hm hn hi h1 h2 x post hp (n - idx) (by omega)
  rw [show idx + (n - idx) = n by omega, sd_A_n] at J
  exact ⟨n - idx + 1, J⟩
theorem sd_yer_l (I : sd_Inv n m g o lx ly t cy cx) (hm : m < 32) {i j : Nat} {pl : Nat → Nat} (hpl : ∀ p, p < sd_rk (sd_s g o cy m) n → pl p < n ∧ sd_s g o cy m (pl p) = true ∧ sd_rk (sd_s g o cy m) (pl p) = p) (hj : j ≤ sd_rk (sd_s g o cy m) n) (post : Int32 → SY → Prop) (hp : ∀ Y, sd_YB g pl i Y j → post (nI m) (nI n, nI (m + 1), g, upd t m 0, ly, upd cy m Y, upd o m 1)) :
    ∀ (d p : Nat) (Y : Int32), p + d = j → i ≤ p → sd_YB g pl i Y p → wY_erase_36 post (nI j) (nI n) (nI m) g t ly cy o (d + 1) Y (nI p) := by
  have hn := I.1
  have hrn := sd_rk_le (sd_s g o cy m) n
  intro d
  induction d with
  | zero =>
    intro p Y hpj hip hY
    have e : p = j := by omega
    subst e
    have h : vp_in (nI m) 32 := vp_in_nI hm (by omega)
    refine br_t (nI_le (Nat.le_refl _) (by omega)) ⟨h, nm_r (sd_ui (by omega) sd_vb0) ⟨h, nm_r (sd_ui (by omega) rfl) ⟨h, nm_r (sd_ui (by omega) sd_vb1) (nm_r (nI_1 m) ?_)⟩⟩⟩
    rw [nI_pred]
    exact hp Y hY
  | succ d ih =>
    intro p Y hpj hip hY
    obtain ⟨q1, q2, q3⟩ := hpl p (by omega)
    refine br_f (nI_ge (by omega) (by omega)) (sd_ych I (nI p) _ (fun a ha sa e => ?_) (fun hz => absurd (congrArg nI q3) (hz _ q1 q2)))
    have hr := sd_rk_le (sd_s g o cy m) a
    rw [nI_eq (by omega) (by omega)] at e
    have ea : a = pl p := sd_rk_inj sa q2 (e.trans q3.symm)
    obtain ⟨c, hc, ec, -⟩ := I.2.2.1 a ha
    rw [ec]
    exact br_t (nI_pos' (by omega)) (nm_e (nm_r (nI_1 _) (ih (p + 1) _ (by omega) (by omega) (sd_YB_s hY hip (by omega) (by rw [← ea]; exact ec)))))
theorem sd_yic0 {x : Int32} (h : x < 0 ∨ nI m ≤ x) (post : Int32 → Prop) (hp : post 0) : wpY_isChange post (nI n, nI m, g, t, ly, cy, o) x := by
  unfold wpY_isChange
  by_cases h0 : x < 0
  · exact br_t h0 hp
  · exact br_f h0 (br_t (h.resolve_left h0) hp)
theorem sd_yic1 {k : Nat} (hk : k < m) (hm : m ≤ 32) (post : Int32 → Prop) (hp : post 1) : wpY_isChange post (nI n, nI m, g, t, ly, cy, o) (nI k) := by
  unfold wpY_isChange
  exact br_f (nI_pos (by omega)) (br_f (nI_ge hk (by omega)) hp)
end
