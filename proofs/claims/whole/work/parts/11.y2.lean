/-! ===== the reference: ranked and on ===== -/
section
variable {al : Nat → Bool} {cx cy : Nat → Nat} {v : Nat → Int32} {post : Int32 → Prop}
theorem zy_r94 {J2 : Int32 → Prop} {J : Int32 → Int32 → Prop} {x1 x2 x3 x4 : Int32} {i : Nat} (h : J x4 (nI (i + 1))) : wY_ranked_94 post J2 J x1 x2 x3 x4 (nI i) v := br_t rfl (nm_r (nI_1 i) h)
theorem zy_r90 {J2 : Int32 → Prop} {J : Int32 → Int32 → Prop} {x1 x2 x3 : Int32} {s i : Nat} (h : J (nI (s + 1)) (nI (i + 1))) : wY_ranked_90 post J2 J x1 x2 x3 (nI s) (nI i) v := br_f zn_z1 (nm_r (nI_1 s) (nm_r (nI_1 i) h))
theorem zn_ct {p : Nat → Bool} {i s : Nat} (h : s = zn_c p i) (hp : p i = true) : s + 1 = zn_c p (i + 1) := by
  show s + 1 = zn_c p i + (if p i then 1 else 0)
  rw [hp, h]; rfl
theorem zn_cf {p : Nat → Bool} {i s : Nat} (h : s = zn_c p i) (hp : p i = false) : s = zn_c p (i + 1) := by
  show s = zn_c p i + (if p i then 1 else 0)
  rw [hp, h]; rfl
/-- the inner loop of ranked, for a k that is there -/
theorem zy_rank (hV : zr_V al cx cy v) (hb : zr_b cx cy) {J2 : Int32 → Prop} {p k : Nat} {j : Int32} (hp : p < 4096) (hk : k < 28) (ha : al k = true)
    (ht : nI (zo_r al (zp_f cx cy p) k) = j → post (nI k)) (hf : ¬ nI (zo_r al (zp_f cx cy p) k) = j → J2 (nI (k + 1))) : ∃ n, wY_ranked_22 post J2 (nI p) j (nI k) v n 0 0 := by
  refine loop_0 (fun n i s => wY_ranked_22 post J2 (nI p) j (nI k) v n (nI s) (nI i)) (fun i s => s = zn_c (fun i => al i && zo_nb (zp_f cx cy p) i k) i) 28 0 rfl (fun n s hs => ?_) (fun n i s hi hs K => ?_)
  · refine br_t zn_28t (zy_isN hV hb hk (fun _ => br_f zn_z1 ?_) (fun z => absurd (ha.symm.trans z) (by decide)))
    subst hs
    exact br_c ht (fun z => nm_r (nI_1 k) (hf z))
  · refine br_f (zn_28f hi) (zy_isN hV hb hk (fun _ => br_f zn_z1 ?_) (fun z => absurd (ha.symm.trans z) (by decide)))
    have hl1 := zp_fl hb hp i
    have hl2 := zp_fl hb hp k
    have hno : (al i && zo_nb (zp_f cx cy p) i k) = false → wY_ranked_94 post J2 (wY_ranked_22 post J2 (nI p) j (nI k) v n) (nI p) j (nI k) (nI s) (nI i) v := fun z => zy_r94 (K s (zn_cf hs z))
    have hyes : (al i && zo_nb (zp_f cx cy p) i k) = true → wY_ranked_90 post J2 (wY_ranked_22 post J2 (nI p) j (nI k) v n) (nI p) j (nI k) (nI s) (nI i) v := fun z => zy_r90 (K (s + 1) (zn_ct hs z))
    refine zy_isN hV hb hi (fun hai => br_f zn_z1 ?_) (fun z => br_t rfl (hno (by rw [z]; rfl)))
    have hn2 : ¬ zo_n (zp_f cx cy p) i k → (al i && zo_nb (zp_f cx cy p) i k) = false := fun z => by
      cases hq : zo_nb (zp_f cx cy p) i k
      · exact Bool.and_false _
      · exact absurd ((zo_nbI _ _ _).mp hq) z
    have hy2 : zo_n (zp_f cx cy p) i k → (al i && zo_nb (zp_f cx cy p) i k) = true := fun z => by rw [hai, (zo_nbI _ _ _).mpr z]; rfl
    refine pk_eq i k (fun e => hno (hn2 (by rw [e]; exact zo_irr _ _))) (fun hne => ?_)
    refine zy_far hV hb hi hai hp (zy_far hV hb hk ha hp ?_)
    refine pk_lt (zp_f cx cy p i) (zp_f cx cy p k) (fun z => hyes (hy2 (Or.inl z))) (fun z => ?_)
    refine zy_far hV hb hi hai hp (zy_far hV hb hk ha hp ?_)
    refine pk_eq (zp_f cx cy p i) (zp_f cx cy p k) (fun e => ?_) (fun z2 => hno (hn2 (by unfold zo_n; omega)))
    exact pk_le k i (fun z3 => hno (hn2 (by unfold zo_n; omega))) (fun z3 => hyes (hy2 (Or.inr ⟨e, z3⟩)))
theorem zy_rd (hV : zr_V al cx cy v) (hb : zr_b cx cy) {p : Nat} {j : Int32} (hp : p < 4096) : ∀ d i, i + d = 28 → post (zn_f (fun k => al k && decide (nI (zo_r al (zp_f cx cy p) k) = j)) d i) → wY_ranked_2 post (nI p) j v (d + 1) (nI i) := by
  intro d
  induction d with
  | zero =>
    intro i hi h
    have : i = 28 := by omega
    subst this
    exact br_t zn_28t h
  | succ d ih =>
    intro i hi h
    have hi28 : i < 28 := by omega
    have h' : post (if (al i && decide (nI (zo_r al (zp_f cx cy p) i) = j)) then nI i else zn_f (fun k => al k && decide (nI (zo_r al (zp_f cx cy p) k) = j)) d (i + 1)) := h
    refine br_f (zn_28f hi28) (zy_isPlaceN hp (br_f zn_z1 ?_))
    cases ha : al i
    · rw [ha] at h'
      refine ⟨1, br_f (by decide) (zy_isN hV hb hi28 (fun z => absurd (ha.symm.trans z) (by decide)) (fun _ => br_t rfl ?_))⟩
      exact zy_isN hV hb hi28 (fun z => absurd (ha.symm.trans z) (by decide)) (fun _ => br_t rfl (nm_r (nI_1 i) (ih (i + 1) (by omega) h')))
    · rw [ha] at h'
      refine zy_rank hV hb hp hi28 ha (fun z => ?_) (fun z => ih (i + 1) (by omega) ?_)
      · rw [decide_eq_true z] at h'
        exact h'
      · rw [decide_eq_false z] at h'
        exact h'
theorem zy_ranked (hV : zr_V al cx cy v) (hb : zr_b cx cy) {p : Nat} {j : Int32} (hp : p < 4096) (h : post (zo_a al (zp_f cx cy p) j)) : wpY_ranked post v (nI p) j := ⟨29, zy_rd hV hb hp 28 0 rfl h⟩
theorem zy_rankedB {x j : Int32} (hn : ∀ p, p < 4096 → ¬ x = nI p) (h : post (-1)) : wpY_ranked post v x j :=
  ⟨1, br_f (by decide) (zy_isPlace (fun p hp e => absurd e (hn p hp)) (fun _ => br_t rfl h))⟩
theorem zy_around (hV : zr_V al cx cy v) (hb : zr_b cx cy) {p : Nat} {x : Int32} (hp : p < 4096) (h : ∀ r, zs_S r (fun k => al k && decide (¬ x < nI (zp_f cx cy p k))) → post r) : wpY_around post v (nI p) x := by
  refine zy_isPlaceN hp (br_f zn_z1 ?_)
  refine loop_0 (fun n i s => wY_around_15 post (nI p) x v n s (nI i)) (fun i s => zs_S s (zs_U (fun k => al k && decide (¬ x < nI (zp_f cx cy p k))) i)) 28 0 (zs_u0 _) (fun n s hs => ?_) (fun n i s hi hs K => ?_)
  · exact br_t zn_28t (h s (zs_u28 hs))
  · refine br_f (zn_28f hi) (zy_isN hV hb hi (fun ha => br_f zn_z1 ?_) (fun ha => br_t rfl (nm_r (nI_1 i) (K _ (zs_uf hs (by rw [ha]; rfl))))))
    refine zy_far hV hb hi ha hp (br_c (fun z => nm_r (nI_1 i) (K _ (zs_uf hs ?_))) (fun z => nm_e (nm_r (nI_1 i) (K _ (zs_ut hs hi ?_)))))
    · show (al i && decide (¬ x < nI (zp_f cx cy p i))) = false
      rw [decide_eq_false (fun w => w z)]; exact Bool.and_false _
    · show (al i && decide (¬ x < nI (zp_f cx cy p i))) = true
      rw [ha, decide_eq_true z]; rfl
/-! closest -/
def zm_y (M : Nat) : Int32 := if M < 8192 then nI M else -1
def zm_q (cx cy : Nat → Nat) (i k : Nat) : Nat := zp_f cx cy (cx k + 64 * cy k) i
theorem zm_ql (hb : zr_b cx cy) (i k : Nat) : zm_q cx cy i k ≤ 7938 := zp_fl hb (zp_pl hb k) i
/-- what Y holds at pair (k, i) -/
def zm_s (al : Nat → Bool) (q : Nat → Nat → Nat) (k i : Nat) : Nat := if al k then zm_m (zm_i al q k i) (zm_o al q k) else zm_o al q k
theorem zm_s0 (al : Nat → Bool) (q : Nat → Nat → Nat) (k : Nat) : zm_s al q k 0 = zm_o al q k := by
  have h := zm_ol al q k
  unfold zm_s
  cases al k
  · rfl
  · show zm_m 8192 (zm_o al q k) = _
    unfold zm_m
    split <;> omega
theorem zm_sk (al : Nat → Bool) (q : Nat → Nat → Nat) (k : Nat) : zm_s al q k k = zm_o al q (k + 1) := rfl
theorem zm_sn {al : Nat → Bool} {q : Nat → Nat → Nat} {k i : Nat} (h : al k = false ∨ al i = false) : zm_s al q k (i + 1) = zm_s al q k i := by
  unfold zm_s
  cases hk : al k
  · rfl
  · rcases h with z | z
    · exact absurd (hk.symm.trans z) (by decide)
    · show zm_m (if al i then zm_m (q i k) (zm_i al q k i) else zm_i al q k i) (zm_o al q k) = _
      rw [z]; rfl
theorem zm_sy {al : Nat → Bool} {q : Nat → Nat → Nat} {k i : Nat} (hk : al k = true) (hi : al i = true) : zm_s al q k (i + 1) = zm_m (q i k) (zm_s al q k i) := by
  unfold zm_s
  rw [hk]
  show zm_m (if al i then zm_m (q i k) (zm_i al q k i) else zm_i al q k i) (zm_o al q k) = zm_m (q i k) (zm_m (zm_i al q k i) (zm_o al q k))
  rw [hi]
  show zm_m (zm_m (q i k) (zm_i al q k i)) (zm_o al q k) = _
  unfold zm_m
  (repeat' split) <;> omega
theorem zm_sl (al : Nat → Bool) (q : Nat → Nat → Nat) (k i : Nat) : zm_s al q k i ≤ 8192 := by
  have h1 := zm_il al q k i
  have h2 := zm_ol al q k
  unfold zm_s zm_m
  (repeat' split) <;> omega
theorem zy_c50 {J4 J : Int32 → Int32 → Prop} {x2 : Int32} {M q i : Nat} (hM : M ≤ 8192) (hq : q ≤ 7938) (h : J (zm_y (zm_m q M)) (nI (i + 1))) : wY_closest_50 post J4 J (zm_y M) x2 (nI i) (nI q) v := by
  refine br_f (nI_pos (by omega)) ?_
  by_cases h8 : M < 8192
  · have e : zm_y M = nI M := if_pos h8
    rw [e]
    refine br_f (nI_pos (by omega)) (pk_le M q (fun z => nm_r (nI_1 i) ?_) (fun z => nm_r (nI_1 i) ?_))
    · have e2 : zm_m q M = M := by unfold zm_m; split <;> omega
      rw [e2, e] at h
      exact h
    · have e2 : zm_m q M = q := by unfold zm_m; split <;> omega
      have e3 : zm_y q = nI q := if_pos (by omega)
      rw [e2, e3] at h
      exact h
  · have e : zm_y M = -1 := if_neg h8
    rw [e]
    refine br_t (by decide) (nm_r (nI_1 i) ?_)
    have e2 : zm_m q M = q := by unfold zm_m; split <;> omega
    have e3 : zm_y q = nI q := if_pos (by omega)
    rw [e2, e3] at h
    exact h
theorem zy_c49 {J4 J : Int32 → Int32 → Prop} {x1 x2 : Int32} {i : Nat} (h : J x1 (nI (i + 1))) : wY_closest_49 post J4 J x1 x2 (nI i) v := br_t (by decide) (nm_r (nI_1 i) h)
theorem zy_c12 (hV : zr_V al cx cy v) (hb : zr_b cx cy) {J4 : Int32 → Int32 → Prop} {k : Nat} (hk : k < 28) (h : J4 (zm_y (zm_o al (zm_q cx cy) (k + 1))) (nI (k + 1))) : ∃ n, wY_closest_12 post J4 (nI k) v n (zm_y (zm_o al (zm_q cx cy) k)) 0 := by
  refine loop_0 (fun n i s => wY_closest_12 post J4 (nI k) v n s (nI i)) (fun i s => s = zm_y (zm_s al (zm_q cx cy) k i)) k _ (by rw [zm_s0]) (fun n s hs => ?_) (fun n i s hi hs K => ?_)
  · subst hs
    exact br_t (nI_le (Nat.le_refl k) (by omega)) (nm_r (nI_1 k) (by rw [zm_sk]; exact h))
  · subst hs
    have hi28 : i < 28 := by omega
    have hno : al k = false ∨ al i = false → wY_closest_49 post J4 (wY_closest_12 post J4 (nI k) v n) (zm_y (zm_s al (zm_q cx cy) k i)) (nI k) (nI i) v := fun z => zy_c49 (K _ (by rw [zm_sn z]))
    refine br_f (nI_ge hi (by omega)) (zy_isN hV hb hk (fun ha => br_f zn_z1 ?_) (fun ha => br_t rfl (hno (Or.inl ha))))
    refine zy_isN hV hb hi28 (fun hai => br_f zn_z1 ⟨vp_in_nI hk (by omega), ?_⟩) (fun ha => br_t rfl (hno (Or.inr ha)))
    rw [nI_clamp (show k < 2 ^ 31 by omega), zr_Vt hV hk ha, nI_pred]
    exact zy_far hV hb hi28 hai (zp_pl hb k) (zy_c50 (zm_sl _ _ _ _) (zm_ql hb i k) (K _ (by rw [zm_sy ha hai]; rfl)))
theorem zy_closest (hV : zr_V al cx cy v) (hb : zr_b cx cy) (h : post (zm_y (zm_o al (zm_q cx cy) 28))) : wpY_closest post v := by
  refine loop_0 (fun n i s => wY_closest_4 post v n s (nI i)) (fun i s => s = zm_y (zm_o al (zm_q cx cy) i)) 28 (-1) rfl (fun n s hs => ?_) (fun n i s hi hs K => ?_)
  · subst hs
    exact br_t zn_28t h
  · subst hs
    exact br_f (zn_28f hi) (zy_c12 hV hb hi (K _ rfl))
/-! staircase -/
def zv_p (al : Nat → Bool) (cx cy : Nat → Nat) (k i : Nat) : Bool := al i && (decide (cx k ≤ cx i) && (decide (cy k ≤ cy i) && decide (cx k < cx i ∨ cy k < cy i)))
theorem zv_pI (al : Nat → Bool) (cx cy : Nat → Nat) (k i : Nat) : zv_p al cx cy k i = true ↔ al i = true ∧ cx k ≤ cx i ∧ cy k ≤ cy i ∧ (cx k < cx i ∨ cy k < cy i) := by
  unfold zv_p
  simp only [Bool.and_eq_true, decide_eq_true_eq]
theorem zv_pF {al : Nat → Bool} {cx cy : Nat → Nat} {k i : Nat} (h : ¬ (al i = true ∧ cx k ≤ cx i ∧ cy k ≤ cy i ∧ (cx k < cx i ∨ cy k < cy i))) : zv_p al cx cy k i = false := by
  cases hq : zv_p al cx cy k i
  · rfl
  · exact absurd ((zv_pI _ _ _ _ _).mp hq) h
theorem zy_s19 (hV : zr_V al cx cy v) (hb : zr_b cx cy) {J4 : Int32 → Int32 → Prop} {x1 : Int32} {k : Nat} (hk : k < 28) (ha : al k = true) : ∀ d i, i + d = 28 →
    (zv_a (zv_p al cx cy k) d i = true → J4 x1 (nI (k + 1))) → (zv_a (zv_p al cx cy k) d i = false → J4 (x1 ||| (1 <<< (nI k &&& 31))) (nI (k + 1))) → wY_staircase_19 post J4 x1 (nI k) v (d + 1) 1 (nI i) := by
  intro d
  induction d with
  | zero =>
    intro i hi _ hf
    have : i = 28 := by omega
    subst this
    exact br_t zn_28t (br_f zn_z1 (nm_e (nm_r (nI_1 k) (hf rfl))))
  | succ d ih =>
    intro i hi ht hf
    have hi28 : i < 28 := by omega
    have hbi := hb i
    have hbk := hb k
    have hno : zv_p al cx cy k i = false → wY_staircase_19 post J4 x1 (nI k) v (d + 1) 1 (nI (i + 1)) := fun z => by
      refine ih (i + 1) (by omega) (fun w => ht ?_) (fun w => hf ?_)
      · show (zv_p al cx cy k i || zv_a (zv_p al cx cy k) d (i + 1)) = true
        rw [z, w]; rfl
      · show (zv_p al cx cy k i || zv_a (zv_p al cx cy k) d (i + 1)) = false
        rw [z, w]; rfl
    refine br_f (zn_28f hi28) (br_f zn_z1 (zy_isN hV hb hi28 (fun hai => br_f zn_z1 ?_) (fun z => br_t rfl (nm_r (nI_1 i) (hno (zv_pF (fun w => absurd (z.symm.trans w.1) (by decide))))))))
    refine zy_x hV hb hi28 hai (zy_x hV hb hk ha ?_)
    refine pk_lt (cx i) (cx k) (fun z => nm_r (nI_1 i) (hno (zv_pF (by omega)))) (fun z1 => ?_)
    refine zy_y hV hb hi28 hai (zy_y hV hb hk ha ?_)
    refine pk_lt (cy i) (cy k) (fun z => nm_r (nI_1 i) (hno (zv_pF (by omega)))) (fun z2 => ⟨vp_in_nI hi28 (by omega), vp_in_nI hk (by omega), ?_⟩)
    rw [nI_clamp (show i < 2 ^ 31 by omega), nI_clamp (show k < 2 ^ 31 by omega), zr_Vt hV hi28 hai, zr_Vt hV hk ha]
    refine pk_eq (cx i + 64 * cy i + 1) (cx k + 64 * cy k + 1) (fun z => nm_r (nI_1 i) (hno (zv_pF (by omega)))) (fun z3 => nm_r (nI_1 i) ?_)
    have hyes : zv_p al cx cy k i = true := (zv_pI _ _ _ _ _).mpr ⟨hai, z1, z2, by omega⟩
    have hJ : J4 x1 (nI (k + 1)) := ht (by
      show (zv_p al cx cy k i || zv_a (zv_p al cx cy k) d (i + 1)) = true
      rw [hyes]; rfl)
    have h95 : wY_staircase_95 post J4 x1 (nI k) 0 v := br_t rfl (nm_r (nI_1 k) hJ)
    exact br_c (fun _ => h95) (fun _ => br_t rfl h95)
theorem zy_staircase (hV : zr_V al cx cy v) (hb : zr_b cx cy) (h : ∀ r, zs_S r (fun k => al k && !zv_a (zv_p al cx cy k) 28 0) → post r) : wpY_staircase post v := by
  refine loop_0 (fun n i s => wY_staircase_4 post v n s (nI i)) (fun i s => zs_S s (zs_U (fun k => al k && !zv_a (zv_p al cx cy k) 28 0) i)) 28 0 (zs_u0 _) (fun n s hs => ?_) (fun n i s hi hs K => ?_)
  · exact br_t zn_28t (h s (zs_u28 hs))
  · refine br_f (zn_28f hi) (zy_isN hV hb hi (fun ha => ?_) (fun ha => ?_))
    · refine ⟨29, zy_s19 hV hb hi ha 28 0 rfl (fun z => K _ (zs_uf hs ?_)) (fun z => K _ (zs_ut hs hi ?_))⟩
      · show (al i && !zv_a (zv_p al cx cy i) 28 0) = false
        rw [z]; exact Bool.and_false _
      · show (al i && !zv_a (zv_p al cx cy i) 28 0) = true
        rw [z, ha]; rfl
    · exact ⟨1, br_f (by decide) (br_t rfl (br_t rfl (nm_r (nI_1 i) (K _ (zs_uf hs (by rw [ha]; rfl))))))⟩
/-! below -/
def zv_b (al : Nat → Bool) (cx cy : Nat → Nat) (k i : Nat) : Bool := !decide (i = k) && (al i && (decide (cx i ≤ cx k) && decide (cy i ≤ cy k)))
theorem zv_bF {al : Nat → Bool} {cx cy : Nat → Nat} {k i : Nat} (h : ¬ (i ≠ k ∧ al i = true ∧ cx i ≤ cx k ∧ cy i ≤ cy k)) : zv_b al cx cy k i = false := by
  cases hq : zv_b al cx cy k i
  · rfl
  · unfold zv_b at hq
    simp only [Bool.and_eq_true, decide_eq_true_eq, Bool.not_eq_true', decide_eq_false_iff_not] at hq
    exact absurd hq h
theorem zv_bT {al : Nat → Bool} {cx cy : Nat → Nat} {k i : Nat} (h : i ≠ k ∧ al i = true ∧ cx i ≤ cx k ∧ cy i ≤ cy k) : zv_b al cx cy k i = true := by
  unfold zv_b
  simp only [Bool.and_eq_true, decide_eq_true_eq, Bool.not_eq_true', decide_eq_false_iff_not]
  exact h
theorem zy_below (hV : zr_V al cx cy v) (hb : zr_b cx cy) {k : Nat} (hk : k < 28) (ha : al k = true) (h : post (nI (zn_c (zv_b al cx cy k) 28))) : wpY_below post v (nI k) := by
  refine zy_isN hV hb hk (fun _ => br_f zn_z1 ?_) (fun z => absurd (ha.symm.trans z) (by decide))
  refine loop_0 (fun n i s => wY_below_14 post (nI k) v n (nI s) (nI i)) (fun i s => s = zn_c (zv_b al cx cy k) i) 28 0 rfl (fun n s hs => ?_) (fun n i s hi hs K => ?_)
  · subst hs
    exact br_t zn_28t h
  · have hbi := hb i
    have hbk := hb k
    have hno : ¬ (i ≠ k ∧ al i = true ∧ cx i ≤ cx k ∧ cy i ≤ cy k) → wY_below_14 post (nI k) v n (nI s) (nI (i + 1)) := fun z => K s (zn_cf hs (zv_bF z))
    refine br_f (zn_28f hi) (pk_eq i k (fun e => nm_r (nI_1 i) (hno (fun w => w.1 e))) (fun hne => ?_))
    refine zy_isN hV hb hi (fun hai => br_f zn_z1 ?_) (fun z => br_t rfl (nm_r (nI_1 i) (hno (fun w => absurd (z.symm.trans w.2.1) (by decide)))))
    refine zy_x hV hb hi hai (zy_x hV hb hk ha ?_)
    refine pk_lt (cx k) (cx i) (fun z => nm_r (nI_1 i) (hno (fun w => absurd w.2.2.1 (by omega)))) (fun z1 => ?_)
    refine zy_y hV hb hi hai (zy_y hV hb hk ha ?_)
    exact pk_lt (cy k) (cy i) (fun z => nm_r (nI_1 i) (hno (fun w => absurd w.2.2.2 (by omega)))) (fun z2 => nm_r (nI_1 s) (nm_r (nI_1 i) (K (s + 1) (zn_ct hs (zv_bT ⟨hne, hai, z1, z2⟩)))))
end
