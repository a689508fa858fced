/-! ===== the component: what only reads the plain list ===== -/
section
variable {f_live f_held f_treeRoot : Int32} {a_px a_py a_byX a_rowHead a_rowNext a_cell a_quad a_quadX a_quadY a_quadSide a_treeLow a_treeHigh a_splitsByY a_lessX a_lessY a_slice a_waiting a_waitingGap : Nat → Int32} {al : Nat → Bool} {cx cy : Nat → Nat} {post : Int32 → Prop}
theorem zx_isPlace {x : Int32} (ht : ∀ p, p < 4096 → x = nI p → post 1) (hf : (∀ p, p < 4096 → ¬ x = nI p) → post 0) : wpX_isPlace post x := by
  unfold wpX_isPlace
  rcases zp_ix x 4096 (by omega) with ⟨p, hp, e⟩ | ⟨h0, hn⟩ | ⟨m, h1, h2, e, hn⟩
  · subst e
    exact br_f (nI_pos (by omega)) (br_f (nI_ge (b := 4096) (by omega) (by omega)) (ht p hp rfl))
  · exact br_t h0 (hf hn)
  · subst e
    exact br_f (nI_pos h2) (br_t (nI_le (a := 4096) (by omega) (by omega)) (hf hn))
theorem zx_isPlaceN {p : Nat} (hp : p < 4096) (h : post 1) : wpX_isPlace post (nI p) := zx_isPlace (fun _ _ _ => h) (fun hn => absurd rfl (hn p hp))
theorem zx_hasN (hl : zs_S f_live al) {k : Nat} (hk : k < 28) (ht : al k = true → post 1) (hf : al k = false → post 0) : wpX_has post (f_live, f_held, f_treeRoot, a_px, a_py, a_byX, a_rowHead, a_rowNext, a_cell, a_quad, a_quadX, a_quadY, a_quadSide, a_treeLow, a_treeHigh, a_splitsByY, a_lessX, a_lessY, a_slice, a_waiting, a_waitingGap) (nI k) :=
  br_f (nI_pos (by omega)) (br_f (zn_28f hk) (zs_br hl hk ht hf))
theorem zx_has (hl : zs_S f_live al) {x : Int32} (ht : ∀ k, k < 28 → x = nI k → al k = true → post 1) (hf : (∀ k, k < 28 → x = nI k → al k = false) → post 0) : wpX_has post (f_live, f_held, f_treeRoot, a_px, a_py, a_byX, a_rowHead, a_rowNext, a_cell, a_quad, a_quadX, a_quadY, a_quadSide, a_treeLow, a_treeHigh, a_splitsByY, a_lessX, a_lessY, a_slice, a_waiting, a_waitingGap) x := by
  rcases zp_ix x 28 (by omega) with ⟨k, hk, e⟩ | ⟨h0, hn⟩ | ⟨m, h1, h2, e, hn⟩
  · subst e
    refine zx_hasN hl hk (fun ha => ht k hk rfl ha) (fun ha => hf (fun j hj e => ?_))
    rw [← (nI_eq (by omega) (by omega)).mp e]
    exact ha
  · exact br_t h0 (hf (fun k hk e => absurd e (hn k hk)))
  · subst e
    exact br_f (nI_pos h2) (br_t (nI_le (a := 28) h1 h2) (hf (fun k hk e => absurd e (hn k hk))))
theorem zx_xOf {p : Nat} (hp : p < 4096) (h : post (nI (p % 64))) : wpX_xOf post (nI p) := ⟨by decide, by rw [zn_x hp]; exact h⟩
theorem zx_yOf {p : Nat} (hp : p < 4096) (h : post (nI (p / 64))) : wpX_yOf post (nI p) := ⟨by decide, by rw [zn_y hp]; exact h⟩
theorem zx_pxI (hP : zr_P cx cy a_px a_py) {k : Nat} (hk : k < 28) : a_px (nI k).toNatClampNeg = nI (cx k) := by rw [nI_clamp (by omega)]; exact (hP k hk).1
theorem zx_pyI (hP : zr_P cx cy a_px a_py) {k : Nat} (hk : k < 28) : a_py (nI k).toNatClampNeg = nI (cy k) := by rw [nI_clamp (by omega)]; exact (hP k hk).2
theorem zx_i28 {k : Nat} (hk : k < 28) : vp_in (nI k) 28 := vp_in_nI hk (by omega)
theorem zx_placeOf (hP : zr_P cx cy a_px a_py) {k : Nat} (hk : k < 28) (h : post (nI (cx k + 64 * cy k))) : wpX_placeOf post (f_live, f_held, f_treeRoot, a_px, a_py, a_byX, a_rowHead, a_rowNext, a_cell, a_quad, a_quadX, a_quadY, a_quadSide, a_treeLow, a_treeHigh, a_splitsByY, a_lessX, a_lessY, a_slice, a_waiting, a_waitingGap) (nI k) := by
  refine ⟨zx_i28 hk, zx_i28 hk, ?_⟩
  rw [zx_pxI hP hk, zx_pyI hP hk, zn_m64, nI_add]
  exact h
theorem zx_isIn (hP : zr_P cx cy a_px a_py) (hb : zr_b cx cy) {k lo hi : Nat} (hk : k < 28) (hlo : lo < 4096) (hhi : hi < 4096) (ht : zp_in lo hi (cx k) (cy k) = true → post 1) (hf : zp_in lo hi (cx k) (cy k) = false → post 0) : wpX_isIn post (f_live, f_held, f_treeRoot, a_px, a_py, a_byX, a_rowHead, a_rowNext, a_cell, a_quad, a_quadX, a_quadY, a_quadSide, a_treeLow, a_treeHigh, a_splitsByY, a_lessX, a_lessY, a_slice, a_waiting, a_waitingGap) (nI k) (nI lo) (nI hi) := by
  have e1 := zx_pxI hP hk
  have e2 := zx_pyI hP hk
  have hbk := hb k
  have hn : ¬ (lo % 64 ≤ cx k ∧ cx k ≤ hi % 64 ∧ lo / 64 ≤ cy k ∧ cy k ≤ hi / 64) → post 0 := fun hz => hf (by
    cases hq : zp_in lo hi (cx k) (cy k)
    · rfl
    · exact absurd ((zp_iff _ _ _ _).mp hq) hz)
  refine ⟨zx_i28 hk, zx_xOf hlo (pk_lt (cx k) (lo % 64) (fun z => hn (by omega)) (fun z1 => ⟨zx_i28 hk, zx_xOf hhi (pk_lt (hi % 64) (cx k) (fun z => hn (by omega)) (fun z2 => ⟨zx_i28 hk, zx_yOf hlo (pk_lt (cy k) (lo / 64) (fun z => hn (by omega)) (fun z3 => ⟨zx_i28 hk, zx_yOf hhi (pk_lt (hi / 64) (cy k) (fun z => hn (by omega)) (fun z4 => ?_) rfl e2)⟩) e2 rfl)⟩) rfl e1)⟩) e1 rfl)⟩
  exact ht ((zp_iff lo hi (cx k) (cy k)).mpr ⟨z1, z2, z3, z4⟩)
theorem zx_squareFrom (hP : zr_P cx cy a_px a_py) {k p : Nat} (hk : k < 28) (hp : p < 4096) (h : post (nI (zp_f cx cy p k))) : wpX_squareFrom post (f_live, f_held, f_treeRoot, a_px, a_py, a_byX, a_rowHead, a_rowNext, a_cell, a_quad, a_quadX, a_quadY, a_quadSide, a_treeLow, a_treeHigh, a_splitsByY, a_lessX, a_lessY, a_slice, a_waiting, a_waitingGap) (nI p) (nI k) := by
  refine ⟨by decide, zx_i28 hk, nm_r (e' := nI (p % 64) - nI (cx k)) (by rw [zn_x hp, zx_pxI hP hk]) ⟨by decide, zx_i28 hk, nm_r (e' := nI (p / 64) - nI (cy k)) (by rw [zn_y hp, zx_pyI hP hk]) ?_⟩⟩
  rw [zn_qI]
  exact h
theorem zx_isNearer (hP : zr_P cx cy a_px a_py) (hb : zr_b cx cy) {i j p : Nat} (hi : i < 28) (hj : j < 28) (hp : p < 4096) (ht : zo_n (zp_f cx cy p) i j → post 1) (hf : ¬ zo_n (zp_f cx cy p) i j → post 0) : wpX_isNearer post (f_live, f_held, f_treeRoot, a_px, a_py, a_byX, a_rowHead, a_rowNext, a_cell, a_quad, a_quadX, a_quadY, a_quadSide, a_treeLow, a_treeHigh, a_splitsByY, a_lessX, a_lessY, a_slice, a_waiting, a_waitingGap) (nI i) (nI j) (nI p) := by
  have h1 := zp_fl hb hp i
  have h2 := zp_fl hb hp j
  unfold wpX_isNearer
  refine zx_squareFrom hP hi hp (zx_squareFrom hP hj hp (pk_lt (zp_f cx cy p i) (zp_f cx cy p j) (fun z => ht (Or.inl z)) (fun z => pk_eq (zp_f cx cy p i) (zp_f cx cy p j) (fun e => pk_le j i (fun w => hf ?_) (fun w => ht (Or.inr ⟨e, w⟩))) (fun e => hf ?_))))
  · unfold zo_n; omega
  · unfold zo_n; omega
theorem zx_nearerOf (hP : zr_P cx cy a_px a_py) (hb : zr_b cx cy) {k p : Nat} {best : Int32} {Q : Nat → Prop} (hp : p < 4096) (hB : zo_B al (zp_f cx cy p) best Q) (hk : k < 28) (ha : al k = true) (h : ∀ r, zo_B al (zp_f cx cy p) r (fun j => Q j ∨ j = k) → post r) : wpX_nearerOf post (f_live, f_held, f_treeRoot, a_px, a_py, a_byX, a_rowHead, a_rowNext, a_cell, a_quad, a_quadX, a_quadY, a_quadSide, a_treeLow, a_treeHigh, a_splitsByY, a_lessX, a_lessY, a_slice, a_waiting, a_waitingGap) (nI k) best (nI p) := by
  rcases zo_or hB with e | ⟨b, hb28, hab, e⟩
  · exact br_t e (h _ (zo_take hB hk ha (Or.inl e)))
  · subst e
    exact br_f (zn_n1 (by omega)) (zx_isNearer hP hb hk hb28 hp (fun z => br_f zn_z1 (h _ (zo_take hB hk ha (Or.inr ⟨b, hb28, rfl, z⟩)))) (fun z => br_t rfl (h _ (zo_stay hB ⟨b, hb28, rfl, z⟩))))
theorem zx_reach (hP : zr_P cx cy a_px a_py) (hb : zr_b cx cy) {p q : Nat} {best g : Int32} {Q : Nat → Prop} (hp : p < 4096) (hB : zo_B al (zp_f cx cy p) best Q) (hq : q ≤ 8192) (hg : g * g = nI q) (ht : post 1) (hf : (∃ b, b < 28 ∧ best = nI b ∧ zp_f cx cy p b < q) → post 0) : wpX_isInReach post (f_live, f_held, f_treeRoot, a_px, a_py, a_byX, a_rowHead, a_rowNext, a_cell, a_quad, a_quadX, a_quadY, a_quadSide, a_treeLow, a_treeHigh, a_splitsByY, a_lessX, a_lessY, a_slice, a_waiting, a_waitingGap) g (nI p) best := by
  rcases zo_or hB with e | ⟨b, hb28, hab, e⟩
  · exact br_t e ht
  · subst e
    have h1 := zp_fl hb hp b
    exact br_f (zn_n1 (by omega)) (zx_squareFrom hP hb28 hp (pk_lt (zp_f cx cy p b) q (fun z => hf ⟨b, hb28, rfl, z⟩) (fun _ => ht) rfl hg))
theorem zx_insideOf (hP : zr_P cx cy a_px a_py) (hb : zr_b cx cy) {set : Int32} {pp : Nat → Bool} (hS : zs_S set pp) {lo hi : Nat} (hlo : lo < 4096) (hhi : hi < 4096) (h : ∀ r, zs_S r (fun k => pp k && zp_in lo hi (cx k) (cy k)) → post r) : wpX_insideOf post (f_live, f_held, f_treeRoot, a_px, a_py, a_byX, a_rowHead, a_rowNext, a_cell, a_quad, a_quadX, a_quadY, a_quadSide, a_treeLow, a_treeHigh, a_splitsByY, a_lessX, a_lessY, a_slice, a_waiting, a_waitingGap) set (nI lo) (nI hi) := by
  refine loop_0 (fun n i s => wX_insideOf_6 post set (nI lo) (nI hi) f_live f_held f_treeRoot a_px a_py a_byX a_rowHead a_rowNext a_cell a_quad a_quadX a_quadY a_quadSide a_treeLow a_treeHigh a_splitsByY a_lessX a_lessY a_slice a_waiting a_waitingGap n s (nI i)) (fun i s => zs_S s (zs_U (fun k => pp k && zp_in lo hi (cx k) (cy k)) i)) 28 0 (zs_u0 _) (fun n s hs => ?_) (fun n i s hi2 hs K => ?_)
  · exact br_t zn_28t (h s (zs_u28 hs))
  · refine br_f (zn_28f hi2) (zs_br hS hi2 (fun ha => ?_) (fun ha => nm_r (nI_1 i) (K _ (zs_uf hs (by rw [ha]; rfl)))))
    refine zx_isIn hP hb hi2 hlo hhi (fun z => br_f zn_z1 (nm_e (nm_r (nI_1 i) (K _ (zs_ut hs hi2 ?_))))) (fun z => br_t rfl (nm_r (nI_1 i) (K _ (zs_uf hs ?_))))
    · show (pp i && zp_in lo hi (cx i) (cy i)) = true
      rw [ha, z]; rfl
    · show (pp i && zp_in lo hi (cx i) (cy i)) = false
      rw [z]; exact Bool.and_false _
theorem zx_nearestOf (hP : zr_P cx cy a_px a_py) (hb : zr_b cx cy) {p : Nat} {best set : Int32} {pp : Nat → Bool} {Q : Nat → Prop} (hp : p < 4096) (hS : zs_S set pp) (hsub : ∀ k, k < 28 → pp k = true → al k = true) (hB : zo_B al (zp_f cx cy p) best Q) (h : ∀ r, zo_B al (zp_f cx cy p) r (fun j => Q j ∨ pp j = true) → post r) : wpX_nearestOf post (f_live, f_held, f_treeRoot, a_px, a_py, a_byX, a_rowHead, a_rowNext, a_cell, a_quad, a_quadX, a_quadY, a_quadSide, a_treeLow, a_treeHigh, a_splitsByY, a_lessX, a_lessY, a_slice, a_waiting, a_waitingGap) set (nI p) best := by
  refine loop_0 (fun n i s => wX_nearestOf_6 post set (nI p) f_live f_held f_treeRoot a_px a_py a_byX a_rowHead a_rowNext a_cell a_quad a_quadX a_quadY a_quadSide a_treeLow a_treeHigh a_splitsByY a_lessX a_lessY a_slice a_waiting a_waitingGap n s (nI i)) (fun i s => zo_B al (zp_f cx cy p) s (fun j => Q j ∨ (j < i ∧ pp j = true))) 28 best (zo_cg hB (fun k _ z => ?_)) (fun n s hs => ?_) (fun n i s hi hs K => ?_)
  · rcases z with z | z
    · exact z
    · exact absurd z.1 (by omega)
  · refine br_t zn_28t (h s (zo_cg hs (fun k hk z => ?_)))
    rcases z with z | z
    · exact Or.inl z
    · exact Or.inr ⟨hk, z⟩
  · refine br_f (zn_28f hi) (zs_br hS hi (fun ha => ?_) (fun ha => nm_r (nI_1 i) (K _ (zo_cg hs (fun k hk z => ?_)))))
    · refine zx_nearerOf hP hb hp hs hi (hsub i hi ha) (fun r hr => nm_r (nI_1 i) (K _ (zo_cg hr (fun k hk z => ?_))))
      rcases z with z | ⟨z1, z2⟩
      · exact Or.inl (Or.inl z)
      · by_cases e : k = i
        · exact Or.inr e
        · exact Or.inl (Or.inr ⟨by omega, z2⟩)
    · rcases z with z | ⟨z1, z2⟩
      · exact Or.inl z
      · refine Or.inr ⟨?_, z2⟩
        have : k ≠ i := fun e => by rw [e, ha] at z2; exact absurd z2 (by decide)
        omega
theorem zx_rankOf (hl : zs_S f_live al) (hP : zr_P cx cy a_px a_py) (hb : zr_b cx cy) {p k : Nat} (hp : p < 4096) (hk : k < 28) (h : post (nI (zo_r al (zp_f cx cy p) k))) : wpX_rankOf post (f_live, f_held, f_treeRoot, a_px, a_py, a_byX, a_rowHead, a_rowNext, a_cell, a_quad, a_quadX, a_quadY, a_quadSide, a_treeLow, a_treeHigh, a_splitsByY, a_lessX, a_lessY, a_slice, a_waiting, a_waitingGap) (nI k) (nI p) := by
  refine loop_0 (fun n i s => wX_rankOf_5 post (nI k) (nI p) f_live f_held f_treeRoot a_px a_py a_byX a_rowHead a_rowNext a_cell a_quad a_quadX a_quadY a_quadSide a_treeLow a_treeHigh a_splitsByY a_lessX a_lessY a_slice a_waiting a_waitingGap n (nI s) (nI i)) (fun i s => s = zn_c (fun i => al i && zo_nb (zp_f cx cy p) i k) i) 28 0 rfl (fun n s hs => ?_) (fun n i s hi hs K => ?_)
  · subst hs
    exact br_t zn_28t h
  · refine br_f (zn_28f hi) (zx_hasN hl hi (fun ha => br_f zn_z1 ?_) (fun ha => br_t rfl (nm_r (nI_1 i) (K s (zn_cf hs (by rw [ha]; rfl))))))
    refine zx_isNearer hP hb hi hk hp (fun z => br_f zn_z1 (nm_r (nI_1 s) (nm_r (nI_1 i) (K (s + 1) (zn_ct hs ?_))))) (fun z => br_t rfl (nm_r (nI_1 i) (K s (zn_cf hs ?_))))
    · show (al i && zo_nb (zp_f cx cy p) i k) = true
      rw [ha, (zo_nbI _ _ _).mpr z]; rfl
    · show (al i && zo_nb (zp_f cx cy p) i k) = false
      cases hq : zo_nb (zp_f cx cy p) i k
      · exact Bool.and_false _
      · exact absurd ((zo_nbI _ _ _).mp hq) z
theorem zx_rd (hl : zs_S f_live al) (hP : zr_P cx cy a_px a_py) (hb : zr_b cx cy) {p : Nat} {j : Int32} (hp : p < 4096) : ∀ d i, i + d = 28 → post (zn_f (fun k => al k && decide (nI (zo_r al (zp_f cx cy p) k) = j)) d i) → wX_ranked_11 post (nI p) j f_live f_held f_treeRoot a_px a_py a_byX a_rowHead a_rowNext a_cell a_quad a_quadX a_quadY a_quadSide a_treeLow a_treeHigh a_splitsByY a_lessX a_lessY a_slice a_waiting a_waitingGap (d + 1) (nI i) := by
  intro d
  induction d with
  | zero =>
    intro i hi h
    have : i = 28 := by omega
    subst this
    exact br_t zn_28t h
  | succ d ih =>
    intro i hi h
    have hi28 : i < 28 := by omega
    have h' : post (if (al i && decide (nI (zo_r al (zp_f cx cy p) i) = j)) then nI i else zn_f (fun k => al k && decide (nI (zo_r al (zp_f cx cy p) k) = j)) d (i + 1)) := h
    refine br_f (zn_28f hi28) (zx_hasN hl hi28 (fun ha => br_f zn_z1 ?_) (fun ha => br_t rfl (nm_r (nI_1 i) ?_)))
    · rw [ha] at h'
      refine zx_rankOf hl hP hb hp hi28 (br_c (fun z => ?_) (fun z => nm_r (nI_1 i) (ih (i + 1) (by omega) ?_)))
      · rw [decide_eq_true z] at h'
        exact h'
      · rw [decide_eq_false z] at h'
        exact h'
    · rw [ha] at h'
      exact ih (i + 1) (by omega) h'
theorem zx_ranked (hl : zs_S f_live al) (hP : zr_P cx cy a_px a_py) (hb : zr_b cx cy) {p : Nat} {j : Int32} (hp : p < 4096) (h : post (zo_a al (zp_f cx cy p) j)) : wpX_ranked post (f_live, f_held, f_treeRoot, a_px, a_py, a_byX, a_rowHead, a_rowNext, a_cell, a_quad, a_quadX, a_quadY, a_quadSide, a_treeLow, a_treeHigh, a_splitsByY, a_lessX, a_lessY, a_slice, a_waiting, a_waitingGap) (nI p) j := by
  unfold wpX_ranked
  exact zx_isPlaceN hp (br_f zn_z1 ⟨29, zx_rd hl hP hb hp 28 0 rfl h⟩)
theorem zx_around (hl : zs_S f_live al) (hP : zr_P cx cy a_px a_py) {p : Nat} {x : Int32} (hp : p < 4096) (h : ∀ r, zs_S r (fun k => al k && decide (¬ x < nI (zp_f cx cy p k))) → post r) : wpX_around post (f_live, f_held, f_treeRoot, a_px, a_py, a_byX, a_rowHead, a_rowNext, a_cell, a_quad, a_quadX, a_quadY, a_quadSide, a_treeLow, a_treeHigh, a_splitsByY, a_lessX, a_lessY, a_slice, a_waiting, a_waitingGap) (nI p) x := by
  unfold wpX_around
  refine zx_isPlaceN hp (br_f zn_z1 ?_)
  refine loop_0 (fun n i s => wX_around_14 post (nI p) x f_live f_held f_treeRoot a_px a_py a_byX a_rowHead a_rowNext a_cell a_quad a_quadX a_quadY a_quadSide a_treeLow a_treeHigh a_splitsByY a_lessX a_lessY a_slice a_waiting a_waitingGap n s (nI i)) (fun i s => zs_S s (zs_U (fun k => al k && decide (¬ x < nI (zp_f cx cy p k))) i)) 28 0 (zs_u0 _) (fun n s hs => ?_) (fun n i s hi hs K => ?_)
  · exact br_t zn_28t (h s (zs_u28 hs))
  · refine br_f (zn_28f hi) (zx_hasN hl hi (fun ha => br_f zn_z1 ?_) (fun ha => br_t rfl (nm_r (nI_1 i) (K _ (zs_uf hs (by rw [ha]; rfl))))))
    refine zx_squareFrom hP hi hp (br_c (fun z => nm_r (nI_1 i) (K _ (zs_uf hs ?_))) (fun z => nm_e (nm_r (nI_1 i) (K _ (zs_ut hs hi ?_)))))
    · show (al i && decide (¬ x < nI (zp_f cx cy p i))) = false
      rw [decide_eq_false (fun w => w z)]; exact Bool.and_false _
    · show (al i && decide (¬ x < nI (zp_f cx cy p i))) = true
      rw [ha, decide_eq_true z]; rfl
theorem zx_lsb (hl : zs_S f_live al) (hP : zr_P cx cy a_px a_py) (hb : zr_b cx cy) {k : Nat} (hk : k < 28) (h : post (nI (zm_i al (zm_q cx cy) k k))) : wpX_leastSquareBefore post (f_live, f_held, f_treeRoot, a_px, a_py, a_byX, a_rowHead, a_rowNext, a_cell, a_quad, a_quadX, a_quadY, a_quadSide, a_treeLow, a_treeHigh, a_splitsByY, a_lessX, a_lessY, a_slice, a_waiting, a_waitingGap) (nI k) := by
  unfold wpX_leastSquareBefore
  refine zx_placeOf hP hk ?_
  refine loop_0 (fun n i s => wX_leastSquareBefore_13 post (nI k) (nI (cx k + 64 * cy k)) f_live f_held f_treeRoot a_px a_py a_byX a_rowHead a_rowNext a_cell a_quad a_quadX a_quadY a_quadSide a_treeLow a_treeHigh a_splitsByY a_lessX a_lessY a_slice a_waiting a_waitingGap n (nI s) (nI i)) (fun i s => s = zm_i al (zm_q cx cy) k i) k 8192 rfl (fun n s hs => ?_) (fun n i s hi hs K => ?_)
  · subst hs
    exact br_t (nI_le (Nat.le_refl k) (by omega)) h
  · have hi28 : i < 28 := by omega
    have hsl : s ≤ 8192 := by rw [hs]; exact zm_il _ _ _ _
    have hql := zm_ql hb i k
    have e : zm_i al (zm_q cx cy) k (i + 1) = if al i then zm_m (zm_q cx cy i k) (zm_i al (zm_q cx cy) k i) else zm_i al (zm_q cx cy) k i := rfl
    refine br_f (nI_ge hi (by omega)) (zx_hasN hl hi28 (fun ha => br_f zn_z1 ?_) (fun ha => br_t rfl (nm_r (nI_1 i) (K s (by rw [e, ha]; exact hs)))))
    refine zx_squareFrom hP hi28 (zp_pl hb k) (pk_le s (zm_q cx cy i k) (fun z => nm_r (nI_1 i) (K s ?_)) (fun z => nm_r (nI_1 i) (K (zm_q cx cy i k) ?_)))
    · rw [e, ha, ← hs]
      show s = zm_m _ _
      unfold zm_m
      split <;> omega
    · rw [e, ha, ← hs]
      show _ = zm_m _ _
      unfold zm_m
      split <;> omega
theorem zx_closest (hl : zs_S f_live al) (hP : zr_P cx cy a_px a_py) (hb : zr_b cx cy) (hO : zr_O al cx f_held a_byX) (h : post (zm_y (zm_o al (zm_q cx cy) 28))) : wpX_closest post (f_live, f_held, f_treeRoot, a_px, a_py, a_byX, a_rowHead, a_rowNext, a_cell, a_quad, a_quadX, a_quadY, a_quadSide, a_treeLow, a_treeHigh, a_splitsByY, a_lessX, a_lessY, a_slice, a_waiting, a_waitingGap) := by
  obtain ⟨S, hM, _, e, _⟩ := hO
  subst e
  have hlen := zl_len hM
  have h2 := zl_two hM
  have h3 := zm_oo (al := al) (zm_ql hb) 28
  refine pk_le 2 S.length (fun z => ?_) (fun z => ?_)
  · have h8 : zm_o al (zm_q cx cy) 28 < 8192 := h3.mpr (by
      obtain ⟨i, k, w⟩ := h2.mp z
      exact ⟨i, k, w⟩)
    have e : zm_y (zm_o al (zm_q cx cy) 28) = nI (zm_o al (zm_q cx cy) 28) := if_pos h8
    rw [e] at h
    refine pk_loop (fun n i s => wX_closest_16 post (f_live) (nI S.length) f_treeRoot a_px a_py a_byX a_rowHead a_rowNext a_cell a_quad a_quadX a_quadY a_quadSide a_treeLow a_treeHigh a_splitsByY a_lessX a_lessY a_slice a_waiting a_waitingGap n (nI s) (nI i)) (fun i s => s = zm_o al (zm_q cx cy) i) 28 1 8192 (by omega) ?_ (fun n s hs => ?_) (fun n i s hi hs K => ?_)
    · show 8192 = if al 0 then zm_m 8192 8192 else 8192
      unfold zm_m
      (repeat' split) <;> rfl
    · subst hs
      exact br_t zn_28t h
    · have hsl : s ≤ 8192 := by rw [hs]; exact zm_ol _ _ _
      have hil := zm_il al (zm_q cx cy) i i
      have e : zm_o al (zm_q cx cy) (i + 1) = if al i then zm_m (zm_i al (zm_q cx cy) i i) (zm_o al (zm_q cx cy) i) else zm_o al (zm_q cx cy) i := rfl
      refine br_f (zn_28f hi) (zx_hasN hl hi (fun ha => br_f zn_z1 ?_) (fun ha => br_t rfl (nm_r (nI_1 i) (K s (by rw [e, ha]; exact hs)))))
      refine zx_lsb hl hP hb hi (pk_le s (zm_i al (zm_q cx cy) i i) (fun z => nm_r (nI_1 i) (K s ?_)) (fun z => nm_r (nI_1 i) (K (zm_i al (zm_q cx cy) i i) ?_)))
      · rw [e, ha, ← hs]
        show s = zm_m _ _
        unfold zm_m
        split <;> omega
      · rw [e, ha, ← hs]
        show _ = zm_m _ _
        unfold zm_m
        split <;> omega
  · have h8 : ¬ zm_o al (zm_q cx cy) 28 < 8192 := fun w => by
      obtain ⟨i, k, w2⟩ := h3.mp w
      exact absurd (h2.mpr ⟨i, k, w2⟩) (by omega)
    have e : zm_y (zm_o al (zm_q cx cy) 28) = -1 := if_neg h8
    rw [e] at h
    exact h
theorem zx_surp (hl : zs_S f_live al) (hP : zr_P cx cy a_px a_py) (hb : zr_b cx cy) {k : Nat} (hk : k < 28) : ∀ d i, i + d = 28 → (zv_a (zv_p al cx cy k) d i = true → post 1) → (zv_a (zv_p al cx cy k) d i = false → post 0) → wX_isSurpassed_2 post (nI k) f_live f_held f_treeRoot a_px a_py a_byX a_rowHead a_rowNext a_cell a_quad a_quadX a_quadY a_quadSide a_treeLow a_treeHigh a_splitsByY a_lessX a_lessY a_slice a_waiting a_waitingGap (d + 1) (nI i) := by
  intro d
  induction d with
  | zero =>
    intro i hi _ hf
    have : i = 28 := by omega
    subst this
    exact br_t zn_28t (hf rfl)
  | succ d ih =>
    intro i hi ht hf
    have hi28 : i < 28 := by omega
    have hbi := hb i
    have hbk := hb k
    have e1 := zx_pxI hP hk
    have e2 := zx_pyI hP hk
    have e3 := zx_pxI hP hi28
    have e4 := zx_pyI hP hi28
    have hno : zv_p al cx cy k i = false → wX_isSurpassed_2 post (nI k) f_live f_held f_treeRoot a_px a_py a_byX a_rowHead a_rowNext a_cell a_quad a_quadX a_quadY a_quadSide a_treeLow a_treeHigh a_splitsByY a_lessX a_lessY a_slice a_waiting a_waitingGap (d + 1) (nI (i + 1)) := fun z => by
      refine ih (i + 1) (by omega) (fun w => ht ?_) (fun w => hf ?_)
      · show (zv_p al cx cy k i || zv_a (zv_p al cx cy k) d (i + 1)) = true
        rw [z, w]; rfl
      · show (zv_p al cx cy k i || zv_a (zv_p al cx cy k) d (i + 1)) = false
        rw [z, w]; rfl
    have hyes : zv_p al cx cy k i = true → post 1 := fun z => ht (by
      show (zv_p al cx cy k i || zv_a (zv_p al cx cy k) d (i + 1)) = true
      rw [z]; rfl)
    refine br_f (zn_28f hi28) (zx_hasN hl hi28 (fun ha => br_f zn_z1 ⟨zx_i28 hi28, zx_i28 hk, ?_⟩) (fun z => br_t rfl (nm_r (nI_1 i) (hno (zv_pF (fun w => absurd (z.symm.trans w.1) (by decide)))))))
    refine pk_lt (cx i) (cx k) (fun z => nm_r (nI_1 i) (hno (zv_pF (by omega)))) (fun z1 => ⟨zx_i28 hi28, zx_i28 hk, ?_⟩) e3 e1
    refine pk_lt (cy i) (cy k) (fun z => nm_r (nI_1 i) (hno (zv_pF (by omega)))) (fun z2 => ⟨zx_i28 hi28, zx_i28 hk, ?_⟩) e4 e2
    refine pk_lt (cx k) (cx i) (fun z => hyes ((zv_pI _ _ _ _ _).mpr ⟨ha, z1, z2, Or.inl z⟩)) (fun z3 => ⟨zx_i28 hi28, zx_i28 hk, ?_⟩) e1 e3
    exact pk_le (cy i) (cy k) (fun z => nm_r (nI_1 i) (hno (zv_pF (by omega)))) (fun z => hyes ((zv_pI _ _ _ _ _).mpr ⟨ha, z1, z2, Or.inr z⟩)) e4 e2
theorem zx_staircase (hl : zs_S f_live al) (hP : zr_P cx cy a_px a_py) (hb : zr_b cx cy) (h : ∀ r, zs_S r (fun k => al k && !zv_a (zv_p al cx cy k) 28 0) → post r) : wpX_staircase post (f_live, f_held, f_treeRoot, a_px, a_py, a_byX, a_rowHead, a_rowNext, a_cell, a_quad, a_quadX, a_quadY, a_quadSide, a_treeLow, a_treeHigh, a_splitsByY, a_lessX, a_lessY, a_slice, a_waiting, a_waitingGap) := by
  refine loop_0 (fun n i s => wX_staircase_4 post f_live f_held f_treeRoot a_px a_py a_byX a_rowHead a_rowNext a_cell a_quad a_quadX a_quadY a_quadSide a_treeLow a_treeHigh a_splitsByY a_lessX a_lessY a_slice a_waiting a_waitingGap n s (nI i)) (fun i s => zs_S s (zs_U (fun k => al k && !zv_a (zv_p al cx cy k) 28 0) i)) 28 0 (zs_u0 _) (fun n s hs => ?_) (fun n i s hi hs K => ?_)
  · exact br_t zn_28t (h s (zs_u28 hs))
  · refine br_f (zn_28f hi) (zx_hasN hl hi (fun ha => br_f zn_z1 ?_) (fun ha => br_t rfl (nm_r (nI_1 i) (K _ (zs_uf hs (by rw [ha]; rfl))))))
    refine ⟨29, zx_surp hl hP hb hi 28 0 rfl (fun z => br_f zn_z1 (nm_r (nI_1 i) (K _ (zs_uf hs ?_)))) (fun z => br_t rfl (nm_e (nm_r (nI_1 i) (K _ (zs_ut hs hi ?_)))))⟩
    · show (al i && !zv_a (zv_p al cx cy i) 28 0) = false
      rw [z]; exact Bool.and_false _
    · show (al i && !zv_a (zv_p al cx cy i) 28 0) = true
      rw [z, ha]; rfl
theorem zx_below (hl : zs_S f_live al) (hP : zr_P cx cy a_px a_py) (hb : zr_b cx cy) {k : Nat} (hk : k < 28) (ha : al k = true) (h : post (nI (zn_c (zv_b al cx cy k) 28))) : wpX_below post (f_live, f_held, f_treeRoot, a_px, a_py, a_byX, a_rowHead, a_rowNext, a_cell, a_quad, a_quadX, a_quadY, a_quadSide, a_treeLow, a_treeHigh, a_splitsByY, a_lessX, a_lessY, a_slice, a_waiting, a_waitingGap) (nI k) := by
  unfold wpX_below
  refine zx_hasN hl hk (fun _ => br_f zn_z1 ?_) (fun z => absurd (ha.symm.trans z) (by decide))
  refine loop_0 (fun n i s => wX_below_14 post (nI k) f_live f_held f_treeRoot a_px a_py a_byX a_rowHead a_rowNext a_cell a_quad a_quadX a_quadY a_quadSide a_treeLow a_treeHigh a_splitsByY a_lessX a_lessY a_slice a_waiting a_waitingGap n (nI s) (nI i)) (fun i s => s = zn_c (zv_b al cx cy k) i) 28 0 rfl (fun n s hs => ?_) (fun n i s hi hs K => ?_)
  · subst hs
    exact br_t zn_28t h
  · have hbi := hb i
    have hbk := hb k
    have e1 := zx_pxI hP hk
    have e2 := zx_pyI hP hk
    have e3 := zx_pxI hP hi
    have e4 := zx_pyI hP hi
    have hno : ¬ (i ≠ k ∧ al i = true ∧ cx i ≤ cx k ∧ cy i ≤ cy k) → wX_below_14 post (nI k) f_live f_held f_treeRoot a_px a_py a_byX a_rowHead a_rowNext a_cell a_quad a_quadX a_quadY a_quadSide a_treeLow a_treeHigh a_splitsByY a_lessX a_lessY a_slice a_waiting a_waitingGap n (nI s) (nI (i + 1)) := fun z => K s (zn_cf hs (zv_bF z))
    refine br_f (zn_28f hi) (pk_eq i k (fun e => nm_r (nI_1 i) (hno (fun w => w.1 e))) (fun hne => ?_))
    refine zx_hasN hl hi (fun hai => br_f zn_z1 ⟨zx_i28 hi, zx_i28 hk, ?_⟩) (fun z => br_t rfl (nm_r (nI_1 i) (hno (fun w => absurd (z.symm.trans w.2.1) (by decide)))))
    refine pk_lt (cx k) (cx i) (fun z => nm_r (nI_1 i) (hno (fun w => absurd w.2.2.1 (by omega)))) (fun z1 => ⟨zx_i28 hi, zx_i28 hk, ?_⟩) e1 e3
    exact pk_lt (cy k) (cy i) (fun z => nm_r (nI_1 i) (hno (fun w => absurd w.2.2.2 (by omega)))) (fun z2 => nm_r (nI_1 s) (nm_r (nI_1 i) (K (s + 1) (zn_ct hs (zv_bT ⟨hne, hai, z1, z2⟩))))) e2 e4
end
