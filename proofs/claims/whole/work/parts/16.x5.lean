/-! ===== the component: the nearest by the sorted list and by the grid ===== -/
section
variable {f_live f_held f_treeRoot : Int32} {a_px a_py a_byX a_rowHead a_rowNext a_cell a_quad a_quadX a_quadY a_quadSide a_treeLow a_treeHigh a_splitsByY a_lessX a_lessY a_slice a_waiting a_waitingGap : Nat → Int32} {al : Nat → Bool} {cx cy : Nat → Nat} {post : Int32 → Prop}
/-- the way down from d - 1 -/
theorem zx_s77 {S : List Nat} {p : Nat} (hP : zr_P cx cy a_px a_py) (hb : zr_b cx cy) (hS : zl_A a_byX 0 S) (hM : zl_M S al) (hpw : S.Pairwise (fun a b => cx a ≤ cx b)) (hp : p < 4096)
    (h : ∀ r, zo_B al (zp_f cx cy p) r (fun k => al k = true) → post r) :
    ∀ d best, d ≤ S.length → (∀ i, i < d → cx (zl_g S i) < p % 64) → zo_B al (zp_f cx cy p) best (fun k => ∃ j, d ≤ j ∧ j < S.length ∧ zl_g S j = k) → wX_nearestSorted_77 post (nI p) (nI (p % 64)) f_live f_held f_treeRoot a_px a_py a_byX a_rowHead a_rowNext a_cell a_quad a_quadX a_quadY a_quadSide a_treeLow a_treeHigh a_splitsByY a_lessX a_lessY a_slice a_waiting a_waitingGap (d + 1) best (zx_dec d) := by
  have hl := zl_len hM
  intro d
  induction d with
  | zero =>
    intro best _ _ hB
    refine br_t (by decide) (h best (zo_cg hB (fun k hk z => ?_)))
    obtain ⟨j, h1, h2⟩ := zl_gx S k ((hM.2 k).mpr ⟨hk, z⟩)
    exact ⟨j, by omega, h1, h2⟩
  | succ d ih =>
    intro best hd hlt hB
    have hdS : d < S.length := by omega
    have hg := zx_gm hM hdS
    have hbg := hb (zl_g S d)
    have e0 : zx_dec (d + 1) = nI d := rfl
    rw [e0]
    refine br_f (nI_pos (by omega)) ⟨zx_i28 (by omega), ?_⟩
    rw [zx_bx hS hM hdS, zx_pxI hP hg.1]
    have hq : zn_d (p % 64) (cx (zl_g S d)) * zn_d (p % 64) (cx (zl_g S d)) ≤ 8192 := by
      have := zn_sq (zn_dl (show p % 64 < 64 by omega) hbg.1)
      omega
    refine ⟨zx_i28 hg.1, zx_reach hP hb hp hB hq (zn_dd _ _) (br_f zn_z1 ⟨zx_i28 (by omega), ?_⟩) (fun hr => br_t rfl (h best (zo_cut hB hr (fun k hk z => ?_))))⟩
    · refine zx_nearerOf hP hb hp hB hg.1 hg.2 (fun r hr => nm_r (zx_dec1 d) (ih r (by omega) (fun i hi => hlt i (by omega)) (zo_cg hr (fun k hk z => ?_))))
      obtain ⟨j, h1, h2, h3⟩ := z
      by_cases e : j = d
      · subst e; exact Or.inr h3.symm
      · exact Or.inl ⟨j, by omega, h2, h3⟩
    · obtain ⟨j, h1, h2⟩ := zl_gx S k ((hM.2 k).mpr ⟨hk, z⟩)
      by_cases e : d + 1 ≤ j
      · exact Or.inl ⟨j, e, h1, h2⟩
      · right
        have h3 := zl_gs S hpw j d (by omega) hdS
        have h4 := hlt d (by omega)
        rw [h2] at h3
        exact zn_qx (by unfold zn_d; omega)
theorem zx_nearestSorted (hP : zr_P cx cy a_px a_py) (hb : zr_b cx cy) (hO : zr_O al cx f_held a_byX) {p : Nat} (hp : p < 4096) (h : ∀ r, zo_B al (zp_f cx cy p) r (fun k => al k = true) → post r) : wpX_nearestSorted post (f_live, f_held, f_treeRoot, a_px, a_py, a_byX, a_rowHead, a_rowNext, a_cell, a_quad, a_quadX, a_quadY, a_quadSide, a_treeLow, a_treeHigh, a_splitsByY, a_lessX, a_lessY, a_slice, a_waiting, a_waitingGap) (nI p) := by
  unfold wpX_nearestSorted
  obtain ⟨S, hM, hpw, he, hS⟩ := hO
  have hl := zl_len hM
  refine zx_xOf hp (zx_firstFrom hP hb hS hM hpw he (by omega) (fun f hf h1 h2 => ?_))
  subst he
  have hdown : ∀ best, zo_B al (zp_f cx cy p) best (fun k => ∃ j, f ≤ j ∧ j < S.length ∧ zl_g S j = k) → ∀ x5, x5 = nI f - 1 → ∃ n77, wX_nearestSorted_77 post (nI p) (nI (p % 64)) f_live (nI S.length) f_treeRoot a_px a_py a_byX a_rowHead a_rowNext a_cell a_quad a_quadX a_quadY a_quadSide a_treeLow a_treeHigh a_splitsByY a_lessX a_lessY a_slice a_waiting a_waitingGap n77 best x5 := fun best hB =>
    nm_r (zx_dec2 f) ⟨f + 1, zx_s77 hP hb hS hM hpw hp h f best hf h1 hB⟩
  refine pk_loop (fun n i s => wX_nearestSorted_17 post (nI p) (nI (p % 64)) (nI f) f_live (nI S.length) f_treeRoot a_px a_py a_byX a_rowHead a_rowNext a_cell a_quad a_quadX a_quadY a_quadSide a_treeLow a_treeHigh a_splitsByY a_lessX a_lessY a_slice a_waiting a_waitingGap n s (nI i)) (fun i s => f ≤ i ∧ zo_B al (zp_f cx cy p) s (fun k => ∃ j, f ≤ j ∧ j < i ∧ zl_g S j = k)) S.length f (-1) hf ⟨Nat.le_refl f, zo_0 _ _ (fun k hk z => ?_)⟩ (fun n s hs => ?_) (fun n i s hi hs K => ?_)
  · obtain ⟨j, z1, z2, _⟩ := z
    omega
  · exact br_t (nI_le (Nat.le_refl _) (by omega)) (hdown s hs.2)
  · obtain ⟨hfi, hs⟩ := hs
    · have hg := zx_gm hM hi
      have hbg := hb (zl_g S i)
      refine br_f (nI_ge hi (by omega)) ⟨zx_i28 (by omega), ?_⟩
      rw [zx_bx hS hM hi, zx_pxI hP hg.1]
      have hq : zn_d (cx (zl_g S i)) (p % 64) * zn_d (cx (zl_g S i)) (p % 64) ≤ 8192 := by
        have := zn_sq (zn_dl hbg.1 (show p % 64 < 64 by omega))
        omega
      refine ⟨zx_i28 hg.1, zx_reach hP hb hp hs hq (zn_dd _ _) (br_f zn_z1 ⟨zx_i28 (by omega), ?_⟩) (fun hr => br_t rfl (hdown s (zo_cut hs hr (fun k hk z => ?_))))⟩
      · refine zx_nearerOf hP hb hp hs hg.1 hg.2 (fun r hr => nm_r (nI_1 i) (K r ⟨by omega, zo_cg hr (fun k hk z => ?_)⟩))
        obtain ⟨j, q1, q2, q3⟩ := z
        by_cases e : j = i
        · subst e; exact Or.inr q3.symm
        · exact Or.inl ⟨j, q1, by omega, q3⟩
      · obtain ⟨j, q1, q2, q3⟩ := z
        by_cases e : j < i
        · exact Or.inl ⟨j, q1, e, q3⟩
        · right
          have q4 := zl_gs S hpw i j (by omega) q2
          have q5 := h2 i hfi hi
          rw [q3] at q4
          rw [zn_dc]
          exact zn_qx (by unfold zn_d; omega)
/-! the grid -/
theorem zx_distance {a b : Nat} (ha : a < 64) (hb : b < 64) (h : post (nI (zn_d a b))) : wpX_distance post (nI a) (nI b) := by
  refine pk_le b a (fun z => ?_) (fun z => ?_)
  · rw [pk_sub z, show a - b = zn_d a b by unfold zn_d; omega]
    exact h
  · rw [pk_sub (show a ≤ b by omega), show b - a = zn_d a b by unfold zn_d; omega]
    exact h
theorem zx_ringOf (hb : zr_b cx cy) (hC : zr_C al cx cy a_cell) {p r : Nat} (hp : p < 4096) (hr : r < 8) (h : ∀ s, zs_S s (fun k => al k && decide (zp_rg (p % 64) (p / 64) (cx k) (cy k) = r)) → post s) : wpX_ringOf post (f_live, f_held, f_treeRoot, a_px, a_py, a_byX, a_rowHead, a_rowNext, a_cell, a_quad, a_quadX, a_quadY, a_quadSide, a_treeLow, a_treeHigh, a_splitsByY, a_lessX, a_lessY, a_slice, a_waiting, a_waitingGap) (nI p) (nI r) := by
  unfold wpX_ringOf
  refine zx_xOf hp ⟨by decide, nm_r (zn_8 (p := p % 64) (by omega)) (zx_yOf hp ⟨by decide, nm_r (zn_8 (p := p / 64) (by omega)) ?_⟩)⟩
  refine loop_0 (fun n i s => wX_ringOf_23 post (nI r) (nI (p % 64 / 8)) (nI (p / 64 / 8)) f_live f_held f_treeRoot a_px a_py a_byX a_rowHead a_rowNext a_cell a_quad a_quadX a_quadY a_quadSide a_treeLow a_treeHigh a_splitsByY a_lessX a_lessY a_slice a_waiting a_waitingGap n s (nI i)) (fun i s => zs_S s (fun k => al k && (decide (zr_c cx cy k < i) && decide (zp_rg (p % 64) (p / 64) (cx k) (cy k) = r)))) 64 0 (zs_cg zs_0 (fun k _ => ?_)) (fun n s hs => ?_) (fun n i s hi hs K => ?_)
  · simp
  · refine br_t (nI_le (a := 64) (Nat.le_refl _) (by omega)) (h s (zs_cg hs (fun k _ => ?_)))
    have := hb k
    rw [decide_eq_true (by unfold zr_c; omega : zr_c cx cy k < 64), Bool.true_and]
  · have hcell := hC i hi
    have hrg : ∀ k, zr_c cx cy k = i → cx k / 8 = i % 8 ∧ cy k / 8 = i / 8 := fun k z => by
      have := hb k
      unfold zr_c at z
      omega
    have hE : ∀ k, zr_c cx cy k = i → (zp_rg (p % 64) (p / 64) (cx k) (cy k) = r ↔ (zn_d (i % 8) (p % 64 / 8) = r ∧ zn_d (i / 8) (p / 64 / 8) ≤ r ∨ zn_d (i / 8) (p / 64 / 8) = r ∧ zn_d (i % 8) (p % 64 / 8) ≤ r)) := fun k z => by
      rw [← zp_rgE, (hrg k z).1, (hrg k z).2]
    have hno : ¬ (zn_d (i % 8) (p % 64 / 8) = r ∧ zn_d (i / 8) (p / 64 / 8) ≤ r ∨ zn_d (i / 8) (p / 64 / 8) = r ∧ zn_d (i % 8) (p % 64 / 8) ≤ r) → wX_ringOf_23 post (nI r) (nI (p % 64 / 8)) (nI (p / 64 / 8)) f_live f_held f_treeRoot a_px a_py a_byX a_rowHead a_rowNext a_cell a_quad a_quadX a_quadY a_quadSide a_treeLow a_treeHigh a_splitsByY a_lessX a_lessY a_slice a_waiting a_waitingGap n s (nI (i + 1)) := fun z => by
      refine K s (zs_cg hs (fun k _ => ?_))
      refine congrArg (fun w => al k && w) ?_
      by_cases e : zr_c cx cy k = i
      · rw [decide_eq_false (fun w => z ((hE k e).mp w)), Bool.and_false, Bool.and_false]
      · have : decide (zr_c cx cy k < i) = decide (zr_c cx cy k < i + 1) := by
          rw [Bool.eq_iff_iff]; simp only [decide_eq_true_eq]; omega
        rw [this]
    have hyes : (zn_d (i % 8) (p % 64 / 8) = r ∧ zn_d (i / 8) (p / 64 / 8) ≤ r ∨ zn_d (i / 8) (p / 64 / 8) = r ∧ zn_d (i % 8) (p % 64 / 8) ≤ r) → wX_ringOf_77 post (wX_ringOf_23 post (nI r) (nI (p % 64 / 8)) (nI (p / 64 / 8)) f_live f_held f_treeRoot a_px a_py a_byX a_rowHead a_rowNext a_cell a_quad a_quadX a_quadY a_quadSide a_treeLow a_treeHigh a_splitsByY a_lessX a_lessY a_slice a_waiting a_waitingGap n) (nI r) (nI (p % 64 / 8)) (nI (p / 64 / 8)) s (nI i) f_live f_held f_treeRoot a_px a_py a_byX a_rowHead a_rowNext a_cell a_quad a_quadX a_quadY a_quadSide a_treeLow a_treeHigh a_splitsByY a_lessX a_lessY a_slice a_waiting a_waitingGap := fun z => by
      refine ⟨vp_in_nI hi (by omega), nm_r (e' := s ||| a_cell i) (by rw [nI_clamp (by omega)]) (nm_r (nI_1 i) (K _ (zs_cg (zs_or hs hcell) (fun k _ => ?_))))⟩
      show ((al k && (decide (zr_c cx cy k < i) && decide (zp_rg (p % 64) (p / 64) (cx k) (cy k) = r))) || (al k && decide (zr_c cx cy k = i))) = (al k && (decide (zr_c cx cy k < i + 1) && decide (zp_rg (p % 64) (p / 64) (cx k) (cy k) = r)))
      cases al k
      · rfl
      · by_cases e : zr_c cx cy k = i
        · rw [decide_eq_true e, decide_eq_true ((hE k e).mpr z), decide_eq_true (by omega : zr_c cx cy k < i + 1)]
          simp
        · have : decide (zr_c cx cy k < i) = decide (zr_c cx cy k < i + 1) := by
            rw [Bool.eq_iff_iff]; simp only [decide_eq_true_eq]; omega
          rw [this, decide_eq_false e]
          simp
    have d1 : zn_d (i % 8) (p % 64 / 8) < 64 := by unfold zn_d; omega
    have d2 : zn_d (i / 8) (p / 64 / 8) < 64 := by unfold zn_d; omega
    refine br_f (nI_ge (b := 64) hi (by omega)) ⟨by decide, ?_⟩
    rw [zn_r8 (p := i) (by omega), zn_8 (p := i) (by omega)]
    refine zx_distance (by omega) (by omega) ⟨by decide, zx_distance (by omega) (by omega) ?_⟩
    have h65 : ¬ (zn_d (i % 8) (p % 64 / 8) = r ∧ zn_d (i / 8) (p / 64 / 8) ≤ r) → wX_ringOf_65 post (wX_ringOf_23 post (nI r) (nI (p % 64 / 8)) (nI (p / 64 / 8)) f_live f_held f_treeRoot a_px a_py a_byX a_rowHead a_rowNext a_cell a_quad a_quadX a_quadY a_quadSide a_treeLow a_treeHigh a_splitsByY a_lessX a_lessY a_slice a_waiting a_waitingGap n) (nI r) (nI (p % 64 / 8)) (nI (p / 64 / 8)) s (nI i) (nI (zn_d (i % 8) (p % 64 / 8))) (nI (zn_d (i / 8) (p / 64 / 8))) f_live f_held f_treeRoot a_px a_py a_byX a_rowHead a_rowNext a_cell a_quad a_quadX a_quadY a_quadSide a_treeLow a_treeHigh a_splitsByY a_lessX a_lessY a_slice a_waiting a_waitingGap := fun z => by
      exact pk_eq (zn_d (i / 8) (p / 64 / 8)) r (fun z1 => pk_lt r (zn_d (i % 8) (p % 64 / 8)) (fun z2 => nm_r (nI_1 i) (hno (by omega))) (fun z2 => hyes (by omega))) (fun z1 => nm_r (nI_1 i) (hno (by omega)))
    exact pk_eq (zn_d (i % 8) (p % 64 / 8)) r (fun z1 => pk_le (zn_d (i / 8) (p / 64 / 8)) r (fun z2 => hyes (by omega)) (fun z2 => h65 (by omega))) (fun z1 => h65 (by omega))
theorem zx_nearestGrid (hP : zr_P cx cy a_px a_py) (hb : zr_b cx cy) (hC : zr_C al cx cy a_cell) {p : Nat} (hp : p < 4096) (h : ∀ r, zo_B al (zp_f cx cy p) r (fun k => al k = true) → post r) : wpX_nearestGrid post (f_live, f_held, f_treeRoot, a_px, a_py, a_byX, a_rowHead, a_rowNext, a_cell, a_quad, a_quadX, a_quadY, a_quadSide, a_treeLow, a_treeHigh, a_splitsByY, a_lessX, a_lessY, a_slice, a_waiting, a_waitingGap) (nI p) := by
  refine loop_0 (fun n i s => wX_nearestGrid_4 post (nI p) f_live f_held f_treeRoot a_px a_py a_byX a_rowHead a_rowNext a_cell a_quad a_quadX a_quadY a_quadSide a_treeLow a_treeHigh a_splitsByY a_lessX a_lessY a_slice a_waiting a_waitingGap n s (nI i)) (fun i s => zo_B al (zp_f cx cy p) s (fun k => al k = true ∧ zp_rg (p % 64) (p / 64) (cx k) (cy k) < i)) 8 (-1) (zo_0 _ _ (fun k _ z => absurd z.2 (by omega))) (fun n s hs => ?_) (fun n i s hi hs K => ?_)
  · exact br_t (nI_le (a := 8) (Nat.le_refl _) (by omega)) (h s (zo_cg hs (fun k _ z => ⟨z, zp_rg7 (by omega) (by omega) (hb k).1 (hb k).2⟩)))
  · have key : ∀ (g : Int32) (q : Nat), q ≤ 8192 → g * g = nI q → (∀ k, i ≤ zp_rg (p % 64) (p / 64) (cx k) (cy k) → q ≤ zp_f cx cy p k) → wX_nearestGrid_26 post (wX_nearestGrid_4 post (nI p) f_live f_held f_treeRoot a_px a_py a_byX a_rowHead a_rowNext a_cell a_quad a_quadX a_quadY a_quadSide a_treeLow a_treeHigh a_splitsByY a_lessX a_lessY a_slice a_waiting a_waitingGap n) (nI p) s (nI i) g f_live f_held f_treeRoot a_px a_py a_byX a_rowHead a_rowNext a_cell a_quad a_quadX a_quadY a_quadSide a_treeLow a_treeHigh a_splitsByY a_lessX a_lessY a_slice a_waiting a_waitingGap := fun g q hq hg hk => by
      unfold wX_nearestGrid_26
      refine zx_reach hP hb hp hs hq hg (br_f zn_z1 (zx_ringOf hb hC hp hi (fun st hst => zx_nearestOf hP hb hp hst (fun k _ z => ((Bool.and_eq_true _ _).mp z).1) hs (fun r hr => nm_r (nI_1 i) (K r (zo_cg hr (fun k _ z => ?_))))))) (fun hr => br_t rfl (h s (zo_cut hs hr (fun k _ z => ?_))))
      · by_cases e : zp_rg (p % 64) (p / 64) (cx k) (cy k) = i
        · right
          show (al k && decide (zp_rg (p % 64) (p / 64) (cx k) (cy k) = i)) = true
          rw [z.1, decide_eq_true e]; rfl
        · exact Or.inl ⟨z.1, by omega⟩
      · by_cases e : zp_rg (p % 64) (p / 64) (cx k) (cy k) < i
        · exact Or.inl ⟨z, e⟩
        · exact Or.inr (hk k (by omega))
    refine br_f (nI_ge (b := 8) hi (by omega)) (pk_eq i 0 (fun e => key 0 0 (by omega) (by decide) (fun k _ => Nat.zero_le _)) (fun e => ?_))
    obtain ⟨j, rfl⟩ : ∃ j, i = j + 1 := ⟨i - 1, by omega⟩
    have hj8 : 8 * j + 1 ≤ 63 := by omega
    have hsq := zn_sq hj8
    rw [nI_pred, zn_m8, nI_1]
    exact key _ ((8 * j + 1) * (8 * j + 1)) (by omega) (pk_mul _ _) (fun k z => zp_gap z)
end
