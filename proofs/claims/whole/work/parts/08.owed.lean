/-! what is owed -/
/-- the same list, the same switches; letters and covers alike where they count -/
def i_Rel (k : Nat) (u : SX) (v : SY) : Prop := ∃ (n m : Nat) (g o lx ly t cy : Nat → Int32) (cx : Nat → Int64), u = (nI n, nI m, g, o, lx, cx) ∧ v = (nI n, nI m, g, t, ly, cy, o) ∧ sd_Inv n m g o lx ly t cy cx
theorem sd_mk {k n m : Nat} {g o lx ly t cy : Nat → Int32} {cx : Nat → Int64} (I : sd_Inv n m g o lx ly t cy cx) : i_Rel k (nI n, nI m, g, o, lx, cx) (nI n, nI m, g, t, ly, cy, o) := ⟨n, m, g, o, lx, ly, t, cy, cx, rfl, rfl, I⟩
theorem sd_ix (x : Int32) {m : Nat} (hm : m ≤ 32) : (x < 0 ∨ nI m ≤ x) ∨ ∃ j : Nat, j < m ∧ x = nI j := by
  rcases pk_ix x (n := m) (by omega) with h | h | h
  · exact Or.inl (Or.inl h)
  · exact Or.inl (Or.inr h)
  · exact Or.inr h
theorem i_up {k : Nat} {u : SX} {v : SY} (h : i_Rel k u v) : i_Rel (k + 3) u v := h
theorem i_vc0 : wpX_init (fun u => wpY_init (fun v => i_Rel 0 u v)) := sd_mk (k := 0) (n := 0) (m := 0) sd_inv0
theorem i_vc_type {k : Nat} {u : SX} {v : SY} (I : i_Rel k u v) (hk : k + 3 ≤ 1536) (v1 : Int32) (v2 : Int32) : wpX_type (fun r u' => wpY_type (fun r' v' => r' = r ∧ i_Rel (k + 3) u' v') v v1 v2) u v1 v2 := by
  obtain ⟨n, m, g, o, lx, ly, t, cy, cx, rfl, rfl, I⟩ := I
  have hm := I.2.1
  have hn := I.1
  have hr := sd_rk_le (sd_s g o cy m) n
  unfold wpX_type wpY_type
  by_cases c0 : v2 < 0
  · exact br_t c0 (br_t c0 ⟨rfl, sd_mk I⟩)
  obtain ⟨C, hC, rfl⟩ := nI_of c0
  by_cases c1 : 26 ≤ C
  · exact br_f c0 (br_t (nI_le (a := 26) c1 hC) (br_f c0 (br_t (nI_lt (a := 25) (by omega) hC) ⟨rfl, sd_mk I⟩)))
  have x1 : ¬ (26 : Int32) ≤ nI C := nI_ge (b := 26) (by omega) (by decide)
  have y1 : ¬ (25 : Int32) < nI C := nI_nlt (a := 25) (by omega) (by decide)
  by_cases p0 : v1 < 0
  · exact br_f c0 (br_f x1 (br_t p0 (br_f c0 (br_f y1 (br_t p0 ⟨rfl, sd_mk I⟩)))))
  obtain ⟨P, hP, rfl⟩ := nI_of p0
  by_cases q : P ≤ sd_rk (sd_s g o cy m) n
  rotate_left
  · have q' : ¬ nI P ≤ nI (sd_rk (sd_s g o cy m) n) := nI_ge (by omega) (by omega)
    exact br_f c0 (br_f x1 (br_f p0 (sd_xlen I _ (br_f q' (br_f c0 (br_f y1 (br_f p0 (sd_ylen I _ (br_f q' ⟨rfl, sd_mk I⟩)))))))))
  have q' : nI P ≤ nI (sd_rk (sd_s g o cy m) n) := nI_le q (by omega)
  by_cases f : m = 32
  · subst f
    exact br_f c0 (br_f x1 (br_f p0 (sd_xlen I _ (br_t q' (br_t (nI_le (a := 32) (Nat.le_refl 32) (by decide)) (br_f c0 (br_f y1 (br_f p0 (sd_ylen I _ (br_t q' (br_t rfl ⟨rfl, sd_mk I⟩)))))))))))
  have xf : ¬ (32 : Int32) ≤ nI m := nI_ge (b := 32) (by omega) (by decide)
  have yf : ¬ nI m = 32 := fun e => f ((nI_eq (b := 32) (by omega) (by decide)).mp e)
  have cm : ¬ nI C = -1 := sd_nn hC (by decide)
  have X61 : ∀ idx, idx ≤ n → ∀ post : Int32 → SX → Prop, post (nI m) (nI (n + 1), nI (m + 1), upd (sd_A g n idx) idx (nI m), upd o m 1, upd lx m (nI C), vp_updL cx m 0) → wX_type_61 post (nI C) (nI idx) (nI n) (nI m) g o lx cx := by
    intro idx hi post hp
    unfold wX_type_61
    exact sd_xins hi (by omega) _ _ (sd_xadd (by omega) _ _ _ hp)
  refine br_f c0 (br_f x1 (br_f p0 (sd_xlen I _ (br_t q' (br_f xf (br_t (nI_lt (b := 48) (by omega) (by decide)) ?_))))))
  by_cases z : P = 0
  · subst z
    refine br_t (nI_le (a := 0) (b := 0) (Nat.le_refl 0) (by decide)) (X61 0 (Nat.zero_le n) _ ?_)
    refine br_f c0 (br_f y1 (br_f p0 (sd_ylen I _ (br_t q' (br_f yf (br_t rfl (sd_yty (by omega) hn (Nat.zero_le n) (fun j _ hj => ?_) (Or.inl rfl) _ _ ⟨rfl, sd_mk (sd_inv_type I (by omega) (Nat.zero_le n) cm)⟩)))))))
    obtain ⟨c, hc, ec, -⟩ := I.2.2.1 j hj
    rw [ec]
    exact sd_nn (by omega) (by decide)
  · obtain ⟨Q, rfl⟩ : ∃ Q, P = Q + 1 := ⟨P - 1, by omega⟩
    refine br_f (nI_nle (by omega) hP) ?_
    rw [nI_pred]
    obtain ⟨a, ha, sa, ea⟩ := sd_rk_surj (s := sd_s g o cy m) (p := Q) (n := n) (by omega)
    refine sd_xidx I (nI Q) _ (fun i hi si e => nm_r (nI_1 i) (X61 (i + 1) hi _ ?_)) (fun hz => absurd (congrArg nI ea) (hz a ha sa))
    refine br_f c0 (br_f y1 (br_f p0 (sd_ylen I _ (br_t q' (br_f yf (br_f (nI_ne0 (by omega) hP) (sd_ych I (nI Q) _ (fun i' hi' si' e' => ?_) (fun hz => absurd e (hz i hi si)))))))))
    have hri := sd_rk_le (sd_s g o cy m) i
    have hri' := sd_rk_le (sd_s g o cy m) i'
    have ei : i' = i := sd_rk_inj si' si ((nI_eq (by omega) (by omega)).mp (e'.trans e.symm))
    subst ei
    exact sd_yty (by omega) hn hi (fun j hj1 hj2 ej => by have := I.2.2.2.1 j i' hj2 hi ej; omega) (Or.inr ⟨i', rfl, rfl⟩) _ _ ⟨rfl, sd_mk (sd_inv_type I (by omega) hi cm)⟩
theorem i_vc_erase {k : Nat} {u : SX} {v : SY} (I : i_Rel k u v) (hk : k + 3 ≤ 1536) (v1 : Int32) (v2 : Int32) : wpX_erase (fun r u' => wpY_erase (fun r' v' => r' = r ∧ i_Rel (k + 3) u' v') v v1 v2) u v1 v2 := by
  obtain ⟨n, m, g, o, lx, ly, t, cy, cx, rfl, rfl, I⟩ := I
  have hm := I.2.1
  have hn := I.1
  have hr := sd_rk_le (sd_s g o cy m) n
  unfold wpX_erase wpY_erase
  by_cases c0 : v1 < 0
  · exact br_t c0 (br_t c0 ⟨rfl, sd_mk I⟩)
  by_cases c1 : v2 ≤ v1
  · exact br_f c0 (br_t c1 (br_f c0 (br_t c1 ⟨rfl, sd_mk I⟩)))
  obtain ⟨A, hA, rfl⟩ := nI_of c0
  have c2 : ¬ v2 < 0 := fun h => c1 (Int32.le_trans (Int32.le_of_lt h) (nI_pos' hA))
  obtain ⟨B, hB, rfl⟩ := nI_of c2
  have hAB : A < B := by
    rw [nI_leI hB hA] at c1
    omega
  by_cases q : B ≤ sd_rk (sd_s g o cy m) n
  rotate_left
  · have q' : ¬ nI B ≤ nI (sd_rk (sd_s g o cy m) n) := nI_ge (by omega) (by omega)
    exact br_f c0 (br_f c1 (sd_xlen I _ (br_f q' (br_f c0 (br_f c1 (sd_ylen I _ (br_f q' ⟨rfl, sd_mk I⟩)))))))
  have q' : nI B ≤ nI (sd_rk (sd_s g o cy m) n) := nI_le q (by omega)
  by_cases f : m = 32
  · subst f
    exact br_f c0 (br_f c1 (sd_xlen I _ (br_t q' (br_f (nI_nlt (a := 32) (b := 32) (Nat.le_refl 32) (by decide)) (br_f c0 (br_f c1 (sd_ylen I _ (br_t q' (br_t rfl ⟨rfl, sd_mk I⟩)))))))))
  have xf : nI m < (32 : Int32) := nI_lt (b := 32) (by omega) (by decide)
  have yf : ¬ nI m = 32 := fun e => f ((nI_eq (b := 32) (by omega) (by decide)).mp e)
  obtain ⟨pl, hpl⟩ := sd_pl (sd_s g o cy m) n
  have hg : ∀ b, b < n → ∃ c, c < m ∧ g b = nI c := fun b hb => by
    obtain ⟨c, h1, h2, -⟩ := I.2.2.1 b hb
    exact ⟨c, h1, h2⟩
  refine br_f c0 (br_f c1 (sd_xlen I _ (br_t q' (br_t xf (sd_xcp I hA hB _ (fun X hX => sd_xadd (by omega) _ _ _ ?_))))))
  refine br_f c0 (br_f c1 (sd_ylen I _ (br_t q' (br_f yf ⟨B - A + 1, sd_yer_l I (by omega) hpl q _ (fun Y hY => ?_) (B - A) A 0 (by omega) (Nat.le_refl _) sd_YB0⟩))))
  exact ⟨rfl, sd_mk (sd_inv_erase I (by omega) (sd_bits hm hg hpl q hX hY))⟩
theorem i_vc_put {k : Nat} {u : SX} {v : SY} (I : i_Rel k u v) (hk : k + 3 ≤ 1536) (v1 : Int32) (v2 : Int32) : wpX_put (fun r u' => wpY_put (fun r' v' => r' = r ∧ i_Rel (k + 3) u' v') v v1 v2) u v1 v2 := by
  obtain ⟨n, m, g, o, lx, ly, t, cy, cx, rfl, rfl, I⟩ := I
  have hm := I.2.1
  unfold wpX_put wpY_put
  dsimp only
  rcases sd_ix v1 hm with h | ⟨c, hc, rfl⟩
  · exact sd_xic0 h _ (br_t rfl (sd_yic0 h _ (br_t rfl ⟨rfl, sd_mk I⟩)))
  · have hv : vp_in (nI c) 32 := vp_in_nI (by omega) (by omega)
    have ec : (nI c).toNatClampNeg = c := nI_clamp (by omega)
    have J := sd_mk (k := k + 3) (sd_inv_on I (sd_01u I.2.2.2.2.1 (i := c) (sd_put01 v2)))
    refine sd_xic1 hc hm _ (br_f (by decide) ⟨hv, ?_⟩)
    by_cases ho : o c = 0
    · exact br_t (by rw [ec]; exact ho) (sd_xput (by omega) _ _ _ (sd_yic1 hc hm _ (br_f (by decide) ⟨hv, br_t (by rw [ec]; exact ho) (sd_yput (by omega) _ _ _ ⟨rfl, J⟩)⟩)))
    · exact br_f (by rw [ec]; exact ho) (sd_xput (by omega) _ _ _ (sd_yic1 hc hm _ (br_f (by decide) ⟨hv, br_f (by rw [ec]; exact ho) (sd_yput (by omega) _ _ _ ⟨rfl, J⟩)⟩)))
theorem i_vc_undo {k : Nat} {u : SX} {v : SY} (I : i_Rel k u v) (hk : k + 3 ≤ 1536) : wpX_undo (fun r u' => wpY_undo (fun r' v' => r' = r ∧ i_Rel (k + 3) u' v') v) u := by
  obtain ⟨n, m, g, o, lx, ly, t, cy, cx, rfl, rfl, I⟩ := I
  obtain ⟨r, o', h, hX, hY⟩ := sd_undo_l (n := n) (g := g) (lx := lx) (ly := ly) (t := t) (cy := cy) (cx := cx) I.2.1 I.2.2.2.2.1 m (Nat.le_refl m)
  unfold wpX_undo wpY_undo
  exact nm_e ⟨m + 1, hX _ (nm_e ⟨m + 1, hY _ ⟨rfl, sd_mk (sd_inv_on I h)⟩⟩)⟩
theorem i_vc_redo {k : Nat} {u : SX} {v : SY} (I : i_Rel k u v) (hk : k + 3 ≤ 1536) : wpX_redo (fun r u' => wpY_redo (fun r' v' => r' = r ∧ i_Rel (k + 3) u' v') v) u := by
  obtain ⟨n, m, g, o, lx, ly, t, cy, cx, rfl, rfl, I⟩ := I
  obtain ⟨r, o', h, hX, hY⟩ := sd_redo_l (n := n) (g := g) (lx := lx) (ly := ly) (t := t) (cy := cy) (cx := cx) I.2.1 I.2.2.2.2.1 m 0 (Nat.zero_add m)
  unfold wpX_redo wpY_redo
  exact ⟨m + 1, hX _ ⟨m + 1, hY _ ⟨rfl, sd_mk (sd_inv_on I h)⟩⟩⟩
theorem i_vc_flip {k : Nat} {u : SX} {v : SY} (I : i_Rel k u v) (hk : k + 3 ≤ 1536) (v1 : Int32) (v2 : Int32) : wpX_flip (fun r u' => wpY_flip (fun r' v' => r' = r ∧ i_Rel (k + 3) u' v') v v1 v2) u v1 v2 := by
  obtain ⟨n, m, g, o, lx, ly, t, cy, cx, rfl, rfl, I⟩ := I
  have hm := I.2.1
  unfold wpX_flip wpY_flip
  by_cases c0 : v1 < 0
  · exact br_t c0 (br_t c0 ⟨rfl, sd_mk I⟩)
  by_cases c1 : v2 < v1
  · exact br_f c0 (br_t c1 (br_f c0 (br_t c1 ⟨rfl, sd_mk I⟩)))
  by_cases c2 : v2 < nI m
  rotate_left
  · exact br_f c0 (br_f c1 (br_f c2 (br_f c0 (br_f c1 (br_f c2 ⟨rfl, sd_mk I⟩)))))
  obtain ⟨A, hA, rfl⟩ := nI_of c0
  have c3 : ¬ v2 < 0 := fun h => c1 (Int32.lt_of_lt_of_le h (nI_pos' hA))
  obtain ⟨B, hB, rfl⟩ := nI_of c3
  have hAB : A ≤ B := by
    rw [nI_ltI hB hA] at c1
    omega
  have hBm : B < m := (nI_ltI hB (by omega)).mp c2
  obtain ⟨r, o', h, hX, hY⟩ := sd_flip_l (n := n) (g := g) (lx := lx) (ly := ly) (t := t) (cy := cy) (cx := cx) hm hBm (B + 1 - A) A 0 o I.2.2.2.2.1 (by omega)
  exact br_f c0 (br_f c1 (br_t c2 ⟨_, hX _ (br_f c0 (br_f c1 (br_t c2 ⟨_, hY _ ⟨rfl, sd_mk (sd_inv_on I h)⟩⟩)))⟩))
theorem i_vc_changes {k : Nat} {u : SX} {v : SY} (I : i_Rel k u v) (hk : k + 3 ≤ 1536) : wpX_changes (fun r => wpY_changes (fun r' => r' = r ∧ i_Rel (k + 3) u v) v) u := by
  obtain ⟨n, m, g, o, lx, ly, t, cy, cx, rfl, rfl, I⟩ := I
  exact ⟨rfl, sd_mk I⟩
theorem i_vc_isOn {k : Nat} {u : SX} {v : SY} (I : i_Rel k u v) (hk : k + 3 ≤ 1536) (v1 : Int32) : wpX_isOn (fun r => wpY_isOn (fun r' => r' = r ∧ i_Rel (k + 3) u v) v v1) u v1 := by
  obtain ⟨n, m, g, o, lx, ly, t, cy, cx, rfl, rfl, I⟩ := I
  have hm := I.2.1
  unfold wpX_isOn wpY_isOn
  dsimp only
  rcases sd_ix v1 hm with h | ⟨c, hc, rfl⟩
  · exact sd_xic0 h _ (br_t rfl (sd_yic0 h _ (br_t rfl ⟨rfl, sd_mk I⟩)))
  · have hv : vp_in (nI c) 32 := vp_in_nI (by omega) (by omega)
    refine sd_xic1 hc hm _ (br_f (by decide) ⟨hv, br_c (fun e => ?_) (fun e => ?_)⟩)
    · exact sd_yic1 hc hm _ (br_f (by decide) ⟨hv, br_t e ⟨rfl, sd_mk I⟩⟩)
    · exact sd_yic1 hc hm _ (br_f (by decide) ⟨hv, br_f e ⟨rfl, sd_mk I⟩⟩)
theorem i_vc_length {k : Nat} {u : SX} {v : SY} (I : i_Rel k u v) (hk : k + 3 ≤ 1536) : wpX_length (fun r => wpY_length (fun r' => r' = r ∧ i_Rel (k + 3) u v) v) u := by
  obtain ⟨n, m, g, o, lx, ly, t, cy, cx, rfl, rfl, I⟩ := I
  exact sd_xlen I _ (sd_ylen I _ ⟨rfl, sd_mk I⟩)
theorem i_vc_letter {k : Nat} {u : SX} {v : SY} (I : i_Rel k u v) (hk : k + 3 ≤ 1536) (v1 : Int32) : wpX_letter (fun r => wpY_letter (fun r' => r' = r ∧ i_Rel (k + 3) u v) v v1) u v1 := by
  obtain ⟨n, m, g, o, lx, ly, t, cy, cx, rfl, rfl, I⟩ := I
  have hm := I.2.1
  have hn := I.1
  unfold wpX_letter wpY_letter
  dsimp only
  refine sd_xidx I v1 _ (fun i hi si e => ?_) (fun hz => br_t rfl (sd_ych I v1 _ (fun i hi si e => absurd e (hz i hi si)) (fun _ => br_f (by decide) ⟨rfl, sd_mk I⟩)))
  obtain ⟨c, hc, ec, tc⟩ := I.2.2.1 i hi
  refine br_f (sd_nn (by omega) (by decide)) ⟨vp_in_nI (by omega) (by omega), ?_⟩
  rw [nI_clamp (by omega), ec]
  refine ⟨vp_in_nI (by omega) (by omega), sd_ych I v1 _ (fun i' hi' si' e' => ?_) (fun hz => absurd e (hz i hi si))⟩
  have hr := sd_rk_le (sd_s g o cy m) i
  have hr' := sd_rk_le (sd_s g o cy m) i'
  have ei : i' = i := sd_rk_inj si' si ((nI_eq (by omega) (by omega)).mp (e'.trans e.symm))
  subst ei
  rw [ec, nI_clamp (by omega)]
  refine br_t (nI_pos' (by omega)) ⟨vp_in_nI (by omega) (by omega), ?_, sd_mk I⟩
  rcases I.2.2.2.2.2.1 c hc with ⟨-, h, -⟩ | ⟨h, -⟩
  · exact h.symm
  · rw [tc] at h; exact absurd h (by decide)
theorem i_vc_origin {k : Nat} {u : SX} {v : SY} (I : i_Rel k u v) (hk : k + 3 ≤ 1536) (v1 : Int32) : wpX_origin (fun r => wpY_origin (fun r' => r' = r ∧ i_Rel (k + 3) u v) v v1) u v1 := by
  obtain ⟨n, m, g, o, lx, ly, t, cy, cx, rfl, rfl, I⟩ := I
  have hm := I.2.1
  have hn := I.1
  unfold wpX_origin wpY_origin
  dsimp only
  refine sd_xidx I v1 _ (fun i hi si e => ?_) (fun hz => br_t rfl (sd_ych I v1 _ (fun i hi si e => absurd e (hz i hi si)) (fun _ => ⟨rfl, sd_mk I⟩)))
  refine br_f (sd_nn (by omega) (by decide)) ⟨vp_in_nI (by omega) (by omega), ?_⟩
  rw [nI_clamp (by omega)]
  refine sd_ych I v1 _ (fun i' hi' si' e' => ?_) (fun hz => absurd e (hz i hi si))
  have hr := sd_rk_le (sd_s g o cy m) i
  have hr' := sd_rk_le (sd_s g o cy m) i'
  have ei : i' = i := sd_rk_inj si' si ((nI_eq (by omega) (by omega)).mp (e'.trans e.symm))
  subst ei
  exact ⟨rfl, sd_mk I⟩
theorem i_vc_where {k : Nat} {u : SX} {v : SY} (I : i_Rel k u v) (hk : k + 3 ≤ 1536) (v1 : Int32) : wpX_where (fun r => wpY_where (fun r' => r' = r ∧ i_Rel (k + 3) u v) v v1) u v1 := by
  obtain ⟨n, m, g, o, lx, ly, t, cy, cx, rfl, rfl, I⟩ := I
  refine sd_xwh I v1 _ (fun i hi si e => sd_ywh I v1 _ (fun i' hi' si' e' => ?_) (fun hz => absurd e (hz i hi si))) (fun hz => sd_ywh I v1 _ (fun i' hi' si' e' => absurd e' (hz i' hi' si')) (fun _ => ⟨rfl, sd_mk I⟩))
  have ei : i' = i := I.2.2.2.1 i' i hi' hi (e'.trans e.symm)
  subst ei
  exact ⟨rfl, sd_mk I⟩
theorem i_vc_covers {k : Nat} {u : SX} {v : SY} (I : i_Rel k u v) (hk : k + 3 ≤ 1536) (v1 : Int32) : wpX_covers (fun r => wpY_covers (fun r' => r' = r ∧ i_Rel (k + 3) u v) v v1) u v1 := by
  obtain ⟨n, m, g, o, lx, ly, t, cy, cx, rfl, rfl, I⟩ := I
  have hm := I.2.1
  unfold wpX_covers wpY_covers
  dsimp only
  rcases sd_ix v1 hm with h | ⟨c, hc, rfl⟩
  · exact sd_xic0 h _ (br_t rfl (sd_yic0 h _ (br_t rfl ⟨rfl, sd_mk I⟩)))
  · refine sd_xic1 hc hm _ (br_f (by decide) ⟨m + 1, sd_xcn_l I hc _ ?_ m 0 (Nat.zero_add m)⟩)
    refine sd_yic1 hc hm _ (br_f (by decide) ⟨32 + 1, sd_ycn_l hm hc _ ?_ 32 0 rfl⟩)
    exact ⟨congrArg nI (sd_covn I hc), sd_mk I⟩
theorem i_vc_coveredBy {k : Nat} {u : SX} {v : SY} (I : i_Rel k u v) (hk : k + 3 ≤ 1536) (v1 : Int32) : wpX_coveredBy (fun r => wpY_coveredBy (fun r' => r' = r ∧ i_Rel (k + 3) u v) v v1) u v1 := by
  obtain ⟨n, m, g, o, lx, ly, t, cy, cx, rfl, rfl, I⟩ := I
  have hm := I.2.1
  unfold wpX_coveredBy wpY_coveredBy
  dsimp only
  rcases sd_ix v1 hm with h | ⟨c, hc, rfl⟩
  · exact sd_xic0 h _ (br_t rfl (sd_yic0 h _ (br_t rfl ⟨rfl, sd_mk I⟩)))
  · have hv : vp_in (nI c) 32 := vp_in_nI (by omega) (by omega)
    have ec : (nI c).toNatClampNeg = c := nI_clamp (by omega)
    rcases I.2.2.2.2.2.1 c hc with ⟨h1, h2, h3⟩ | ⟨h1, h2⟩
    · exact sd_xic1 hc hm _ (br_f (by decide) ⟨hv, br_f (by rw [ec]; exact h3) (sd_xcov I (by omega) _ (sd_yic1 hc hm _ (br_f (by decide) ⟨hv, br_f (by rw [ec, h1]; decide) (sd_ycov I (by omega) _ ⟨rfl, sd_mk I⟩)⟩)))⟩)
    · exact sd_xic1 hc hm _ (br_f (by decide) ⟨hv, br_t (by rw [ec]; exact h2) (sd_yic1 hc hm _ (br_f (by decide) ⟨hv, br_t (by rw [ec]; exact h1) ⟨rfl, sd_mk I⟩⟩))⟩)
theorem i_vc_effect {k : Nat} {u : SX} {v : SY} (I : i_Rel k u v) (hk : k + 3 ≤ 1536) (v1 : Int32) : wpX_effect (fun r u' => wpY_effect (fun r' v' => r' = r ∧ i_Rel (k + 3) u' v') v v1) u v1 := by
  obtain ⟨n, m, g, o, lx, ly, t, cy, cx, rfl, rfl, I⟩ := I
  have hm := I.2.1
  unfold wpX_effect wpY_effect
  dsimp only
  rcases sd_ix v1 hm with h | ⟨c, hc, rfl⟩
  · exact sd_xic0 h _ (br_t rfl (sd_yic0 h _ (br_t rfl ⟨rfl, sd_mk I⟩)))
  · have hv : vp_in (nI c) 32 := vp_in_nI (by omega) (by omega)
    have ec : (nI c).toNatClampNeg = c := nI_clamp (by omega)
    by_cases ho : o c = 0
    · exact sd_xic1 hc hm _ (br_f (by decide) (sd_xlen I _ ⟨hv, br_t (by rw [ec]; exact ho) (sd_xeff I hc (z := 1) (z' := 0) (Or.inl ⟨rfl, rfl⟩) _ _ (sd_yic1 hc hm _ (br_f (by decide) (sd_ylen I _ ⟨hv, br_t (by rw [ec]; exact ho) (sd_yeff I hc (z := 1) (z' := 0) (Or.inl ⟨rfl, rfl⟩) _ _ ⟨rfl, sd_mk (sd_inv_on I (sd_01u (sd_01u I.2.2.2.2.1 (Or.inr rfl)) (Or.inl rfl)))⟩)⟩))))⟩))
    · exact sd_xic1 hc hm _ (br_f (by decide) (sd_xlen I _ ⟨hv, br_f (by rw [ec]; exact ho) (sd_xeff I hc (z := 0) (z' := 1) (Or.inr ⟨rfl, rfl⟩) _ _ (sd_yic1 hc hm _ (br_f (by decide) (sd_ylen I _ ⟨hv, br_f (by rw [ec]; exact ho) (sd_yeff I hc (z := 0) (z' := 1) (Or.inr ⟨rfl, rfl⟩) _ _ ⟨rfl, sd_mk (sd_inv_on I (sd_01u (sd_01u I.2.2.2.2.1 (Or.inl rfl)) (Or.inr rfl)))⟩)⟩))))⟩))
theorem i_vc_digest {k : Nat} {u : SX} {v : SY} (I : i_Rel k u v) (hk : k + 3 ≤ 1536) : wpX_digest (fun r => wpY_digest (fun r' => r' = r ∧ i_Rel (k + 3) u v) v) u := by
  obtain ⟨n, m, g, o, lx, ly, t, cy, cx, rfl, rfl, I⟩ := I
  have hm := I.2.1
  have hn := I.1
  obtain ⟨w, hw, hw0⟩ := sd_w (n := n) (sd_s g o cy m) (fun j => lx (g j).toNatClampNeg + 1)
  have hr := sd_rk_le (sd_s g o cy m) n
  refine sd_xdig I w hw _ (sd_ydig I w (fun j hj sj => ?_) hw0 _ ⟨sd_F_cut hw0 (by omega), sd_mk I⟩)
  obtain ⟨c, hc, ec, tc⟩ := I.2.2.1 j hj
  have e : lx (g j).toNatClampNeg = ly (g j).toNatClampNeg := by
    rw [ec, nI_clamp (by omega)]
    rcases I.2.2.2.2.2.1 c hc with ⟨-, h, -⟩ | ⟨h, -⟩
    · exact h
    · rw [tc] at h; exact absurd h (by decide)
  rw [← e]
  exact hw j hj sj
