/-! ===== the component: rectangles by the sorted list, rows, grid, bounds, slices ===== -/
section
variable {f_live f_held f_treeRoot : Int32} {a_px a_py a_byX a_rowHead a_rowNext a_cell a_quad a_quadX a_quadY a_quadSide a_treeLow a_treeHigh a_splitsByY a_lessX a_lessY a_slice a_waiting a_waitingGap : Nat → Int32} {al : Nat → Bool} {cx cy : Nat → Nat} {post : Int32 → Prop}
def zx_dec (d : Nat) : Int32 := if d = 0 then -1 else nI (d - 1)
theorem zx_dec1 (d : Nat) : nI d + (-1) = zx_dec d := by
  cases d with
  | zero => decide
  | succ d => exact pk_m1 d
theorem zx_dec2 (d : Nat) : nI d - 1 = zx_dec d := by
  cases d with
  | zero => decide
  | succ d => exact nI_pred d
theorem zx_decS (d : Nat) : zx_dec (d + 1) = nI d := rfl
theorem zx_bx {S : List Nat} (hS : zl_A a_byX 0 S) (hM : zl_M S al) {i : Nat} (hi : i < S.length) : a_byX (nI i).toNatClampNeg = nI (zl_g S i) := by
  have hl := zl_len hM
  have h1 := zl_Ag S 0 i hS hi
  rw [nI_clamp (by omega)]
  rwa [Nat.zero_add] at h1
theorem zx_gm {S : List Nat} (hM : zl_M S al) {i : Nat} (hi : i < S.length) : zl_g S i < 28 ∧ al (zl_g S i) = true := (hM.2 _).mp (zl_gm S i hi)
theorem zx_ff {S : List Nat} (hP : zr_P cx cy a_px a_py) (hb : zr_b cx cy) (hS : zl_A a_byX 0 S) (hM : zl_M S al) (hp : S.Pairwise (fun a b => cx a ≤ cx b)) {x : Nat} (hx : x < 64)
    (h : ∀ f, f ≤ S.length → (∀ i, i < f → cx (zl_g S i) < x) → (∀ i, f ≤ i → i < S.length → x ≤ cx (zl_g S i)) → post (nI f)) :
    ∀ d a b t, t + d = 28 → b - a ≤ d → a ≤ b → b ≤ S.length → (∀ i, i < a → cx (zl_g S i) < x) → (∀ i, b ≤ i → i < S.length → x ≤ cx (zl_g S i)) → wX_firstFrom_10 post (nI x) f_live f_held f_treeRoot a_px a_py a_byX a_rowHead a_rowNext a_cell a_quad a_quadX a_quadY a_quadSide a_treeLow a_treeHigh a_splitsByY a_lessX a_lessY a_slice a_waiting a_waitingGap (d + 1) (nI a) (nI b) (nI t) := by
  have hl := zl_len hM
  intro d
  induction d with
  | zero =>
    intro a b t ht hd hab hbn h1 h2
    have e : t = 28 := by omega
    have e2 : a = b := by omega
    subst e e2
    exact br_t zn_28t (h a hbn h1 h2)
  | succ d ih =>
    intro a b t ht hd hab hbn h1 h2
    refine br_f (zn_28f (by omega)) (pk_le b a (fun z => ?_) (fun z => ⟨by decide, nm_r (e' := nI ((a + b) / 2)) ?_ ?_⟩))
    · have e2 : a = b := by omega
      subst e2
      exact h a hbn h1 h2
    · rw [nI_add]
      exact pk_div (d := 2) (by omega) (by omega) (by omega)
    · have hm : (a + b) / 2 < S.length := by omega
      have hma : a ≤ (a + b) / 2 := by omega
      have hmb : (a + b) / 2 < b := by omega
      generalize (a + b) / 2 = m at *
      have hg := zx_gm hM hm
      have hbm := hb (zl_g S m)
      rw [zx_bx hS hM hm]
      refine ⟨zx_i28 (by omega), zx_i28 hg.1, pk_le x (cx (zl_g S m)) (fun z => nm_r (nI_1 t) (ih a m (t + 1) (by omega) (by omega) hma (by omega) h1 (fun i hi hi2 => ?_))) (fun z => nm_r (nI_1 m) (nm_r (nI_1 t) (ih (m + 1) b (t + 1) (by omega) (by omega) (by omega) hbn (fun i hi => ?_) h2))) rfl (zx_pxI hP hg.1)⟩
      · exact Nat.le_trans z (zl_gs S hp m i hi hi2)
      · exact Nat.lt_of_le_of_lt (zl_gs S hp i m (by omega) hm) z
theorem zx_firstFrom {S : List Nat} (hP : zr_P cx cy a_px a_py) (hb : zr_b cx cy) (hS : zl_A a_byX 0 S) (hM : zl_M S al) (hp : S.Pairwise (fun a b => cx a ≤ cx b)) (he : f_held = nI S.length) {x : Nat} (hx : x < 64)
    (h : ∀ f, f ≤ S.length → (∀ i, i < f → cx (zl_g S i) < x) → (∀ i, f ≤ i → i < S.length → x ≤ cx (zl_g S i)) → post (nI f)) : wpX_firstFrom post (f_live, f_held, f_treeRoot, a_px, a_py, a_byX, a_rowHead, a_rowNext, a_cell, a_quad, a_quadX, a_quadY, a_quadSide, a_treeLow, a_treeHigh, a_splitsByY, a_lessX, a_lessY, a_slice, a_waiting, a_waitingGap) (nI x) := by
  have hl := zl_len hM
  subst he
  exact ⟨29, zx_ff hP hb hS hM hp hx h 28 0 S.length 0 rfl (by omega) (by omega) (Nat.le_refl _) (fun i hi => by omega) (fun i hi hi2 => by omega)⟩
theorem zx_insideSorted (hP : zr_P cx cy a_px a_py) (hb : zr_b cx cy) (hO : zr_O al cx f_held a_byX) {lo hi : Nat} (hlo : lo < 4096) (hhi : hi < 4096) (h : ∀ r, zs_S r (fun k => al k && zp_in lo hi (cx k) (cy k)) → post r) : wpX_insideSorted post (f_live, f_held, f_treeRoot, a_px, a_py, a_byX, a_rowHead, a_rowNext, a_cell, a_quad, a_quadX, a_quadY, a_quadSide, a_treeLow, a_treeHigh, a_splitsByY, a_lessX, a_lessY, a_slice, a_waiting, a_waitingGap) (nI lo) (nI hi) := by
  unfold wpX_insideSorted
  obtain ⟨S, hM, hp, he, hS⟩ := hO
  have hl := zl_len hM
  refine zx_xOf hlo (zx_xOf hhi (zx_firstFrom hP hb hS hM hp he (by omega) (fun f hf h1 h2 => ?_)))
  subst he
  have hend : ∀ (s : Int32) (F : Nat → Bool) (i : Nat), zs_S s F → (∀ k, k < 28 → F k = true → (al k && zp_in lo hi (cx k) (cy k)) = true) → (∀ j, f ≤ j → j < i → (al (zl_g S j) && zp_in lo hi (cx (zl_g S j)) (cy (zl_g S j))) = true → F (zl_g S j) = true) → (∀ j, i ≤ j → j < S.length → hi % 64 < cx (zl_g S j)) → post s := by
    intro s F i hs q1 q2 q3
    refine h s (zs_cg hs (fun k hk => ?_))
    cases hX : (al k && zp_in lo hi (cx k) (cy k))
    · cases hF : F k
      · rfl
      · have := q1 k hk hF
        rw [hX] at this
        exact absurd this (by decide)
    · have hX2 := (Bool.and_eq_true _ _).mp hX
      obtain ⟨z1, z2, z3, z4⟩ := (zp_iff _ _ _ _).mp hX2.2
      obtain ⟨j, hj, e⟩ := zl_gx S k ((hM.2 k).mpr ⟨hk, hX2.1⟩)
      subst e
      refine q2 j ?_ ?_ hX
      · apply Classical.byContradiction
        intro w
        have := h1 j (by omega)
        omega
      · apply Classical.byContradiction
        intro w
        have := q3 j (by omega) hj
        omega
  refine pk_loop (fun n i s => wX_insideSorted_21 post (nI lo) (nI hi) (nI (hi % 64)) f_live (nI S.length) f_treeRoot a_px a_py a_byX a_rowHead a_rowNext a_cell a_quad a_quadX a_quadY a_quadSide a_treeLow a_treeHigh a_splitsByY a_lessX a_lessY a_slice a_waiting a_waitingGap n s (nI i)) (fun i s => ∃ F, zs_S s F ∧ (∀ k, k < 28 → F k = true → (al k && zp_in lo hi (cx k) (cy k)) = true) ∧ (∀ j, f ≤ j → j < i → (al (zl_g S j) && zp_in lo hi (cx (zl_g S j)) (cy (zl_g S j))) = true → F (zl_g S j) = true)) S.length f 0 hf ⟨_, zs_0, fun k _ z => absurd z (by decide), fun j q1 q2 => by omega⟩ (fun n s hs => ?_) (fun n i s hi2 hs K => ?_)
  · obtain ⟨F, q0, q1, q2⟩ := hs
    exact br_t (nI_le (Nat.le_refl _) (by omega)) (hend s F S.length q0 q1 q2 (fun j q3 q4 => by omega))
  · obtain ⟨F, q0, q1, q2⟩ := hs
    have hg := zx_gm hM hi2
    have hbg := hb (zl_g S i)
    refine br_f (nI_ge hi2 (by omega)) ⟨zx_i28 (by omega), ?_⟩
    rw [zx_bx hS hM hi2]
    refine ⟨zx_i28 hg.1, pk_lt (hi % 64) (cx (zl_g S i)) (fun z => hend s F i q0 q1 q2 (fun j q3 q4 => Nat.lt_of_lt_of_le z (zl_gs S hp i j q3 q4))) (fun z => ⟨zx_i28 (by omega), ?_⟩) rfl (zx_pxI hP hg.1)⟩
    refine zx_isIn hP hb hg.1 hlo hhi (fun w => br_f zn_z1 ⟨zx_i28 (by omega), nm_e (nm_r (nI_1 i) (K _ ⟨_, zs_set q0 hg.1, fun k hk q3 => ?_, fun j q3 q4 q5 => ?_⟩))⟩) (fun w => br_t rfl (nm_r (nI_1 i) (K _ ⟨F, q0, q1, fun j q3 q4 q5 => ?_⟩)))
    · rcases (Bool.or_eq_true _ _).mp q3 with q6 | q6
      · exact q1 k hk q6
      · have e : k = zl_g S i := of_decide_eq_true q6
        rw [e, hg.2, w]; rfl
    · by_cases e : j = i
      · subst e
        show (F (zl_g S j) || decide (zl_g S j = zl_g S j)) = true
        simp
      · show (F (zl_g S j) || decide (zl_g S j = zl_g S i)) = true
        rw [q2 j q3 (by omega) q5]; rfl
    · by_cases e : j = i
      · subst e
        rw [w, Bool.and_false] at q5
        exact absurd q5 (by decide)
      · exact q2 j q3 (by omega) q5
/-! rows -/
theorem zx_row (hP : zr_P cx cy a_px a_py) (hb : zr_b cx cy) {J : Int32 → Int32 → Prop} {x3 : Int32} {lo hi y : Nat} (hlo : lo < 4096) (hhi : hi < 4096) {X : Nat → Bool} (hX : ∀ k, X k = (al k && zp_in lo hi (cx k) (cy k))) {R : List Nat} (hR : ∀ k, k ∈ R → k < 28 ∧ al k = true) (hR28 : R.length ≤ 28)
    (h : ∀ r F, zs_S r F → (∀ k, k < 28 → F k = (X k && (decide (cy k < y) || decide (k ∈ R)))) → J r (nI (y + 1))) :
    ∀ (t A : List Nat) (s : Int32) (F : Nat → Bool) (hd : Int32) (d : Nat), R = A ++ t → zl_C a_rowNext t hd → zs_S s F → (∀ k, k < 28 → F k = (X k && (decide (cy k < y) || decide (k ∈ A)))) → t.length < d → wX_insideRows_32 post J (nI lo) (nI hi) x3 (nI y) f_live f_held f_treeRoot a_px a_py a_byX a_rowHead a_rowNext a_cell a_quad a_quadX a_quadY a_quadSide a_treeLow a_treeHigh a_splitsByY a_lessX a_lessY a_slice a_waiting a_waitingGap d s hd (nI A.length) := by
  intro t
  induction t with
  | nil =>
    intro A s F hd d hA hc hs hF hd2
    cases d with
    | zero => exact absurd hd2 (by simp)
    | succ d =>
      have e : hd = -1 := hc
      have hA2 : R = A := by rw [hA, List.append_nil]
      subst hA2
      have hJ := h s F hs hF
      exact br_c (fun _ => nm_r (nI_1 y) hJ) (fun _ => br_t e (nm_r (nI_1 y) hJ))
  | cons m t ih =>
    intro A s F hd d hA hc hs hF hd2
    cases d with
    | zero => exact absurd hd2 (by simp)
    | succ d =>
      have hm := hR m (by rw [hA]; simp)
      have hlen : A.length < 28 := by
        rw [hA, List.length_append, List.length_cons] at hR28
        omega
      obtain ⟨e, hc2⟩ := hc
      subst e
      have hAA : R = (A ++ [m]) ++ t := by rw [hA]; simp
      have hl2 : (A ++ [m]).length = A.length + 1 := by simp
      have hmem : ∀ k, decide (k ∈ A ++ [m]) = (decide (k ∈ A) || decide (k = m)) := fun k => by
        rw [Bool.eq_iff_iff]
        simp
      have hnext : nI A.length + 1 = nI (A ++ [m]).length := by rw [hl2, nI_1]
      have e2 : a_rowNext (nI m).toNatClampNeg = a_rowNext m := by rw [nI_clamp (by omega)]
      refine br_f (zn_28f hlen) (br_f (zn_n1 (by omega)) (zx_isIn hP hb hm.1 hlo hhi (fun w => br_f zn_z1 (nm_e ⟨zx_i28 hm.1, nm_r e2 (nm_r hnext ?_)⟩)) (fun w => br_t rfl ⟨zx_i28 hm.1, nm_r e2 (nm_r hnext ?_)⟩)))
      · refine ih (A ++ [m]) _ _ _ d hAA hc2 (zs_set hs hm.1) (fun k hk => ?_) (by rw [List.length_cons] at hd2; omega)
        rw [hmem]
        show (F k || decide (k = m)) = _
        rw [hF k hk]
        by_cases e3 : k = m
        · subst e3
          have : X k = true := by rw [hX, hm.2, w]; rfl
          simp [this]
        · simp [e3]
      · refine ih (A ++ [m]) _ F _ d hAA hc2 hs (fun k hk => ?_) (by rw [List.length_cons] at hd2; omega)
        rw [hmem, hF k hk]
        by_cases e3 : k = m
        · subst e3
          have : X k = false := by rw [hX, w]; exact Bool.and_false _
          simp [this]
        · simp [e3]
theorem zx_insideRows (hP : zr_P cx cy a_px a_py) (hb : zr_b cx cy) (hR : zr_R al cy a_rowHead a_rowNext) {lo hi : Nat} (hlo : lo < 4096) (hhi : hi < 4096) (h : ∀ r, zs_S r (fun k => al k && zp_in lo hi (cx k) (cy k)) → post r) : wpX_insideRows post (f_live, f_held, f_treeRoot, a_px, a_py, a_byX, a_rowHead, a_rowNext, a_cell, a_quad, a_quadX, a_quadY, a_quadSide, a_treeLow, a_treeHigh, a_splitsByY, a_lessX, a_lessY, a_slice, a_waiting, a_waitingGap) (nI lo) (nI hi) := by
  unfold wpX_insideRows
  refine zx_yOf hhi (zx_yOf hlo ?_)
  have hin : ∀ k, (al k && zp_in lo hi (cx k) (cy k)) = true → lo / 64 ≤ cy k ∧ cy k ≤ hi / 64 := fun k z => by
    have := (zp_iff _ _ _ _).mp ((Bool.and_eq_true _ _).mp z).2
    omega
  by_cases hle : lo / 64 ≤ hi / 64 + 1
  · refine pk_loop (fun n i s => wX_insideRows_14 post (nI lo) (nI hi) (nI (hi / 64)) f_live f_held f_treeRoot a_px a_py a_byX a_rowHead a_rowNext a_cell a_quad a_quadX a_quadY a_quadSide a_treeLow a_treeHigh a_splitsByY a_lessX a_lessY a_slice a_waiting a_waitingGap n s (nI i)) (fun i s => ∃ F, zs_S s F ∧ ∀ k, k < 28 → F k = ((al k && zp_in lo hi (cx k) (cy k)) && decide (cy k < i))) (hi / 64 + 1) (lo / 64) 0 hle ⟨_, zs_0, fun k hk => ?_⟩ (fun n s hs => ?_) (fun n i s hi2 hs K => ?_)
    · cases hX : (al k && zp_in lo hi (cx k) (cy k))
      · rfl
      · rw [decide_eq_false (by have := hin k hX; omega)]; rfl
    · obtain ⟨F, q0, q1⟩ := hs
      refine br_t (nI_lt (by omega) (by omega)) (h s (zs_cg q0 (fun k hk => ?_)))
      rw [q1 k hk]
      cases hX : (al k && zp_in lo hi (cx k) (cy k))
      · rfl
      · rw [decide_eq_true (by have := hin k hX; omega)]; rfl
    · obtain ⟨F, q0, q1⟩ := hs
      have hi64 : i < 64 := by omega
      obtain ⟨R, r1, r2⟩ := hR i hi64
      have e : a_rowHead (nI i).toNatClampNeg = a_rowHead i := by rw [nI_clamp (by omega)]
      refine br_f (nI_nlt (by omega) (by omega)) ⟨vp_in_nI hi64 (by omega), nm_r e ⟨29, ?_⟩⟩
      have hl := zl_len r1
      refine zx_row (X := fun k => al k && zp_in lo hi (cx k) (cy k)) (R := R) hP hb hlo hhi (fun _ => rfl) (fun k hk => ?_) hl (fun r F2 s1 s2 => K r ⟨F2, s1, fun k hk => ?_⟩) R [] s F _ 29 rfl r2 q0 (fun k hk => ?_) (by omega)
      · have := (r1.2 k).mp hk
        exact ⟨this.1, ((Bool.and_eq_true _ _).mp this.2).1⟩
      · rw [s2 k hk]
        show ((al k && zp_in lo hi (cx k) (cy k)) && _) = _
        cases hX : (al k && zp_in lo hi (cx k) (cy k))
        · rfl
        · have ha := ((Bool.and_eq_true _ _).mp hX).1
          have hmem : decide (k ∈ R) = decide (cy k = i) := by
            rw [Bool.eq_iff_iff]
            simp only [decide_eq_true_eq]
            rw [r1.2 k]
            show (k < 28 ∧ (al k && decide (cy k = i)) = true) ↔ cy k = i
            rw [ha]
            simp [hk]
          rw [hmem, Bool.true_and, Bool.true_and, Bool.eq_iff_iff]
          simp only [Bool.or_eq_true, decide_eq_true_eq]
          omega
      · rw [q1 k hk]
        simp
  · refine ⟨1, br_t (nI_lt (by omega) (by omega)) (h 0 (zs_cg zs_0 (fun k hk => ?_)))⟩
    cases hX : (al k && zp_in lo hi (cx k) (cy k))
    · rfl
    · have := hin k hX
      omega
/-! bounds -/
theorem zx_insideBounds (hBx : zr_B al cx a_lessX) (hBy : zr_B al cy a_lessY) {lo hi : Nat} (hlo : lo < 4096) (hhi : hi < 4096) (h : ∀ r, zs_S r (fun k => al k && zp_in lo hi (cx k) (cy k)) → post r) : wpX_insideBounds post (f_live, f_held, f_treeRoot, a_px, a_py, a_byX, a_rowHead, a_rowNext, a_cell, a_quad, a_quadX, a_quadY, a_quadSide, a_treeLow, a_treeHigh, a_splitsByY, a_lessX, a_lessY, a_slice, a_waiting, a_waitingGap) (nI lo) (nI hi) := by
  unfold wpX_insideBounds
  refine zx_xOf hhi ?_
  rw [nI_1]
  refine ⟨vp_in_nI (by omega) (by omega), zx_xOf hlo ⟨vp_in_nI (by omega) (by omega), nm_e (zx_yOf hhi ?_)⟩⟩
  rw [nI_1 (hi / 64)]
  refine ⟨vp_in_nI (by omega) (by omega), zx_yOf hlo ⟨vp_in_nI (by omega) (by omega), nm_e ?_⟩⟩
  rw [nI_clamp (show hi % 64 + 1 < 2 ^ 31 by omega), nI_clamp (show lo % 64 < 2 ^ 31 by omega), nI_clamp (show hi / 64 + 1 < 2 ^ 31 by omega), nI_clamp (show lo / 64 < 2 ^ 31 by omega)]
  refine h _ (zs_cg (zs_and (zs_an (hBx (hi % 64 + 1) (by omega)) (hBx (lo % 64) (by omega))) (zs_an (hBy (hi / 64 + 1) (by omega)) (hBy (lo / 64) (by omega)))) (fun k _ => ?_))
  show ((al k && decide (cx k < hi % 64 + 1)) && !(al k && decide (cx k < lo % 64)) && ((al k && decide (cy k < hi / 64 + 1)) && !(al k && decide (cy k < lo / 64)))) = (al k && zp_in lo hi (cx k) (cy k))
  cases al k
  · rfl
  · rw [Bool.eq_iff_iff, Bool.true_and, Bool.true_and, Bool.true_and, Bool.true_and, Bool.true_and, zp_iff]
    simp only [Bool.and_eq_true, Bool.not_eq_true', decide_eq_true_eq, decide_eq_false_iff_not]
    omega
/-! slices -/
theorem zx_sl {first : Nat} (hf : first ≤ 6) {c : Nat → Nat} (hsl : ∀ b, b < 6 → zs_S (a_slice (first + b)) (fun k => al k && zr_h (c k) b)) {B : Nat} (hB : B < 64) (h : ∀ r, zs_S r (fun k => al k && decide (c k < B)) → post r) :
    ∀ d ls sm, d ≤ 6 → zs_S ls (fun k => al k && decide (c k / 2 ^ d < B / 2 ^ d)) → zs_S sm (fun k => al k && decide (c k / 2 ^ d = B / 2 ^ d)) → wX_lessBySlices_22 post (nI first) (nI B) f_live f_held f_treeRoot a_px a_py a_byX a_rowHead a_rowNext a_cell a_quad a_quadX a_quadY a_quadSide a_treeLow a_treeHigh a_splitsByY a_lessX a_lessY a_slice a_waiting a_waitingGap (d + 1) ls sm (zx_dec d) := by
  intro d
  induction d with
  | zero =>
    intro ls sm _ h1 _
    refine br_t (by decide) (h ls (zs_cg h1 (fun k _ => ?_)))
    rw [Nat.pow_zero, Nat.div_one, Nat.div_one]
  | succ d ih =>
    intro ls sm hd h1 h2
    have e0 : zx_dec (d + 1) = nI d := rfl
    have hx : zs_S (a_slice (first + d)) (fun k => al k && zr_h (c k) d) := hsl d (by omega)
    rw [e0]
    refine br_f (nI_pos (by omega)) ?_
    rw [nI_add]
    refine ⟨vp_in_nI (by omega) (by omega), nm_r (e' := a_slice (first + d)) (by rw [nI_clamp (by omega)]) ?_⟩
    rw [zi_bit (c := B) (b := d) (by omega) (by omega)]
    cases hbt : zr_h B d
    · refine br_f (by decide) (nm_e (nm_r (zx_dec1 d) (ih _ _ (by omega) (zs_cg h1 (fun k _ => ?_)) (zs_cg (zs_an h2 hx) (fun k _ => ?_)))))
      · rw [zi_lt (c k) B d, hbt, Bool.and_false, Bool.and_false, Bool.or_false]
      · rw [zi_eq (c k) B d, hbt]
        cases al k <;> cases decide (c k / 2 ^ (d + 1) = B / 2 ^ (d + 1)) <;> cases zr_h (c k) d <;> rfl
    · refine br_t rfl (nm_e (nm_e (nm_r (zx_dec1 d) (ih _ _ (by omega) (zs_cg (zs_or h1 (zs_an h2 hx)) (fun k _ => ?_)) (zs_cg (zs_and h2 hx) (fun k _ => ?_))))))
      · rw [zi_lt (c k) B d, hbt]
        cases al k <;> cases decide (c k / 2 ^ (d + 1) = B / 2 ^ (d + 1)) <;> cases decide (c k / 2 ^ (d + 1) < B / 2 ^ (d + 1)) <;> cases zr_h (c k) d <;> rfl
      · rw [zi_eq (c k) B d, hbt]
        cases al k <;> cases decide (c k / 2 ^ (d + 1) = B / 2 ^ (d + 1)) <;> cases zr_h (c k) d <;> rfl
theorem zx_less (hl : zs_S f_live al) {first : Nat} (hf : first ≤ 6) {c : Nat → Nat} (hc : ∀ k, c k < 64) (hsl : ∀ b, b < 6 → zs_S (a_slice (first + b)) (fun k => al k && zr_h (c k) b)) {B : Nat} (hB : B ≤ 64) (h : ∀ r, zs_S r (fun k => al k && decide (c k < B)) → post r) : wpX_lessBySlices post (f_live, f_held, f_treeRoot, a_px, a_py, a_byX, a_rowHead, a_rowNext, a_cell, a_quad, a_quadX, a_quadY, a_quadSide, a_treeLow, a_treeHigh, a_splitsByY, a_lessX, a_lessY, a_slice, a_waiting, a_waitingGap) (nI first) (nI B) := by
  refine pk_lt B 64 (fun z => ⟨7, zx_sl hf hsl z h 6 0 f_live (Nat.le_refl 6) (zs_cg zs_0 (fun k _ => ?_)) (zs_cg hl (fun k _ => ?_))⟩) (fun z => h _ (zs_cg hl (fun k _ => ?_)))
  · have h1 := hc k
    have e1 : c k / 2 ^ 6 = 0 := by omega
    have e2 : B / 2 ^ 6 = 0 := by omega
    rw [e1, e2]
    simp
  · have h1 := hc k
    have e1 : c k / 2 ^ 6 = 0 := by omega
    have e2 : B / 2 ^ 6 = 0 := by omega
    rw [e1, e2]
    simp
  · have h1 := hc k
    rw [decide_eq_true (by omega), Bool.and_true]
theorem zx_insideSlices (hl : zs_S f_live al) (hb : zr_b cx cy) (hI : zr_I al cx cy a_slice) {lo hi : Nat} (hlo : lo < 4096) (hhi : hi < 4096) (h : ∀ r, zs_S r (fun k => al k && zp_in lo hi (cx k) (cy k)) → post r) : wpX_insideSlices post (f_live, f_held, f_treeRoot, a_px, a_py, a_byX, a_rowHead, a_rowNext, a_cell, a_quad, a_quadX, a_quadY, a_quadSide, a_treeLow, a_treeHigh, a_splitsByY, a_lessX, a_lessY, a_slice, a_waiting, a_waitingGap) (nI lo) (nI hi) := by
  unfold wpX_insideSlices
  have h0 : ∀ b, b < 6 → zs_S (a_slice (0 + b)) (fun k => al k && zr_h (cx k) b) := fun b hb2 => by rw [Nat.zero_add]; exact (hI b hb2).1
  have h6 : ∀ b, b < 6 → zs_S (a_slice (6 + b)) (fun k => al k && zr_h (cy k) b) := fun b hb2 => (hI b hb2).2
  refine zx_xOf hlo (zx_yOf hlo (zx_xOf hhi (nm_r (nI_1 _) (zx_yOf hhi (nm_r (nI_1 _) ?_)))))
  refine zx_less (first := 0) hl (by omega) (fun k => (hb k).1) h0 (by omega) (fun r1 q1 => ?_)
  refine zx_less (first := 0) hl (by omega) (fun k => (hb k).1) h0 (by omega) (fun r2 q2 => nm_e ?_)
  refine zx_less (first := 6) hl (by omega) (fun k => (hb k).2) h6 (by omega) (fun r3 q3 => ?_)
  refine zx_less (first := 6) hl (by omega) (fun k => (hb k).2) h6 (by omega) (fun r4 q4 => nm_e ?_)
  refine h _ (zs_cg (zs_and (zs_an q1 q2) (zs_an q3 q4)) (fun k _ => ?_))
  show ((al k && decide (cx k < hi % 64 + 1)) && !(al k && decide (cx k < lo % 64)) && ((al k && decide (cy k < hi / 64 + 1)) && !(al k && decide (cy k < lo / 64)))) = (al k && zp_in lo hi (cx k) (cy k))
  cases al k
  · rfl
  · rw [Bool.eq_iff_iff, Bool.true_and, Bool.true_and, Bool.true_and, Bool.true_and, Bool.true_and, zp_iff]
    simp only [Bool.and_eq_true, Bool.not_eq_true', decide_eq_true_eq, decide_eq_false_iff_not]
    omega
end
