/-! ===== the calls that change, count, agree, square: each side ===== -/
theorem zr_Vmv {al : Nat → Bool} {cx cy : Nat → Nat} {v : Nat → Int32} (h : zr_V al cx cy v) (k p : Nat) : zr_V (fun j => (al j && !decide (j = k)) || decide (j = k)) (zr_w cx k (p % 64)) (zr_w cy k (p / 64)) (upd v k (nI (p + 1))) := by
  intro j hj
  have := zr_Vin h k p j hj
  rw [this]
  by_cases e : j = k
  · subst e; simp
  · simp [e]
section
variable {al : Nat → Bool} {cx cy : Nat → Nat} {v : Nat → Int32} {post : Int32 → SY → Prop}
theorem zy_addG (hV : zr_V al cx cy v) (hb : zr_b cx cy) {p k : Nat} (hp : p < 4096) (hk : k < 28) (ha : al k = false) (hall : ∀ j, j < k → al j = true) (h : post (nI k) (upd v k (nI (p + 1)))) : wpY_add post v (nI p) := by
  unfold wpY_add
  have key : ∀ d i, i + d = k → wY_add_12 post (nI p) v (d + 1) (nI i) := by
    intro d
    induction d with
    | zero =>
      intro i hi
      have e : i = k := by omega
      subst e
      have e1 : (nI i).toNatClampNeg = i := nI_clamp (by omega)
      exact br_f (zn_28f hk) ⟨zx_i28 hk, br_t (by rw [e1]; exact zr_Vf hV hk ha) ⟨zx_i28 hk, nm_r (e' := upd v i (nI (p + 1))) (by rw [e1, nI_1]) h⟩⟩
    | succ d ih =>
      intro i hi
      have hi28 : i < 28 := by omega
      have e1 : (nI i).toNatClampNeg = i := nI_clamp (by omega)
      refine br_f (zn_28f hi28) ⟨zx_i28 hi28, br_f ?_ (nm_r (nI_1 i) (ih (i + 1) (by omega)))⟩
      rw [e1, zr_Vt hV hi28 (hall i (by omega))]
      have := zp_pl hb i
      exact nI_ne0 (by omega) (by omega)
  exact zy_isPlaceN hp (br_f zn_z1 ⟨k + 1, key k 0 (by omega)⟩)
theorem zy_addF (hV : zr_V al cx cy v) (hb : zr_b cx cy) {p : Nat} (hp : p < 4096) (hall : ∀ j, j < 28 → al j = true) (h : post (-2) v) : wpY_add post v (nI p) := by
  unfold wpY_add
  have key : ∀ d i, i + d = 28 → wY_add_12 post (nI p) v (d + 1) (nI i) := by
    intro d
    induction d with
    | zero =>
      intro i hi
      have e : i = 28 := by omega
      subst e
      exact br_t zn_28t h
    | succ d ih =>
      intro i hi
      have hi28 : i < 28 := by omega
      have e1 : (nI i).toNatClampNeg = i := nI_clamp (by omega)
      refine br_f (zn_28f hi28) ⟨zx_i28 hi28, br_f ?_ (nm_r (nI_1 i) (ih (i + 1) (by omega)))⟩
      rw [e1, zr_Vt hV hi28 (hall i hi28)]
      have := zp_pl hb i
      exact nI_ne0 (by omega) (by omega)
  exact zy_isPlaceN hp (br_f zn_z1 ⟨29, key 28 0 rfl⟩)
theorem zy_addB {x : Int32} (hn : ∀ p, p < 4096 → ¬ x = nI p) (h : post (-1) v) : wpY_add post v x := by
  unfold wpY_add
  exact zy_isPlace (fun p hp e => absurd e (hn p hp)) (fun _ => br_t rfl h)
theorem zy_removeG (hV : zr_V al cx cy v) (hb : zr_b cx cy) {k : Nat} (hk : k < 28) (ha : al k = true) (h : post (nI (cx k + 64 * cy k)) (upd v k 0)) : wpY_remove post v (nI k) := by
  unfold wpY_remove
  have e1 : (nI k).toNatClampNeg = k := nI_clamp (by omega)
  refine zy_isN hV hb hk (fun _ => br_f zn_z1 ⟨zx_i28 hk, nm_r (e' := nI (cx k + 64 * cy k)) (by rw [e1, zr_Vt hV hk ha, nI_pred]) ⟨zx_i28 hk, nm_r (e' := upd v k 0) (by rw [e1]) h⟩⟩) (fun z => absurd (ha.symm.trans z) (by decide))
theorem zy_removeB (hV : zr_V al cx cy v) (hb : zr_b cx cy) {x : Int32} (hn : ∀ k, k < 28 → x = nI k → al k = false) (h : post (-1) v) : wpY_remove post v x := by
  unfold wpY_remove
  exact zy_is hV hb (fun k hk e ha => absurd (ha.symm.trans (hn k hk e)) (by decide)) (fun _ => br_t rfl h)
theorem zy_moveG (hV : zr_V al cx cy v) (hb : zr_b cx cy) {k p : Nat} (hk : k < 28) (ha : al k = true) (hp : p < 4096) (h : post (nI (cx k + 64 * cy k)) (upd v k (nI (p + 1)))) : wpY_move post v (nI k) (nI p) := by
  unfold wpY_move
  have e1 : (nI k).toNatClampNeg = k := nI_clamp (by omega)
  refine zy_isN hV hb hk (fun _ => br_f zn_z1 (zy_isPlaceN hp (br_f zn_z1 ⟨zx_i28 hk, nm_r (e' := nI (cx k + 64 * cy k)) (by rw [e1, zr_Vt hV hk ha, nI_pred]) ⟨zx_i28 hk, nm_r (e' := upd v k (nI (p + 1))) (by rw [e1, nI_1]) h⟩⟩))) (fun z => absurd (ha.symm.trans z) (by decide))
theorem zy_moveB (hV : zr_V al cx cy v) (hb : zr_b cx cy) {x y : Int32} (hn : (∀ k, k < 28 → x = nI k → al k = false) ∨ (∀ p, p < 4096 → ¬ y = nI p)) (h : post (-1) v) : wpY_move post v x y := by
  unfold wpY_move
  refine zy_is hV hb (fun k hk e ha => br_f zn_z1 (zy_isPlace (fun p hp e2 => ?_) (fun _ => br_t rfl h))) (fun _ => br_t rfl h)
  rcases hn with z | z
  · exact absurd (ha.symm.trans (z k hk e)) (by decide)
  · exact absurd e2 (z p hp)
end
section
variable {al : Nat → Bool} {cx cy : Nat → Nat} {v : Nat → Int32} {post : Int32 → Prop}
theorem zy_at (hV : zr_V al cx cy v) (hb : zr_b cx cy) {x : Int32} (ht : ∀ k, k < 28 → x = nI k → al k = true → post (nI (cx k + 64 * cy k))) (hf : (∀ k, k < 28 → x = nI k → al k = false) → post (-1)) : wpY_at post v x := by
  unfold wpY_at
  refine zy_is hV hb (fun k hk e ha => br_f zn_z1 ?_) (fun z => br_t rfl (hf z))
  subst e
  refine ⟨zx_i28 hk, ?_⟩
  rw [nI_clamp (show k < 2 ^ 31 by omega), zr_Vt hV hk ha, nI_pred]
  exact ht k hk rfl ha
theorem zn_cnt {s : Int32} {p : Nat → Bool} (hs : zs_S s p) {i : Nat} (hi : i < 28) : nI (zn_c p i) + ((s >>> (nI i &&& 31)) &&& 1) = nI (zn_c p (i + 1)) := by
  rw [zs_t hs hi]
  show _ = nI (zn_c p i + (if p i then 1 else 0))
  cases p i
  · exact nI_add _ 0
  · exact nI_add _ 1
theorem zy_countG {s : Int32} {p : Nat → Bool} (hs : zs_S s p) (h : post (nI (zn_c p 28))) : ∃ n, wY_count_15 post s v n 0 0 := by
  refine loop_0 (fun n i x => wY_count_15 post s v n x (nI i)) (fun i x => x = nI (zn_c p i)) 28 0 rfl (fun n x hx => ?_) (fun n i x hi hx K => ?_)
  · subst hx
    exact br_t zn_28t (br_t (Int32.not_lt.mp (zs_nn hs)) h)
  · subst hx
    exact br_f (zn_28f hi) (nm_r (zn_cnt hs hi) (nm_r (nI_1 i) (K _ rfl)))
theorem zy_countB (h : post (-1)) : ∃ n, wY_count_15 post (-1) v n 0 0 := by
  refine loop_0 (fun n i x => wY_count_15 post (-1) v n x (nI i)) (fun i x => True) 28 0 trivial (fun n x hx => ?_) (fun n i x hi hx K => ?_)
  · exact br_t zn_28t (br_f (by decide) h)
  · exact br_f (zn_28f hi) (nm_e (nm_r (nI_1 i) (K _ trivial)))
theorem zy_nearestB {e x : Int32} (hbad : (∀ j, j < 4 → ¬ e = nI j) ∨ (∀ p, p < 4096 → ¬ x = nI p)) (h : post (-1)) : wpY_nearest post v e x := by
  unfold wpY_nearest
  rcases zp_ix e 4 (by omega) with ⟨j, hj, e3⟩ | ⟨h0, hn⟩ | ⟨m, h1, h2, e3, hn⟩
  · subst e3
    rcases hbad with z | z
    · exact absurd rfl (z j hj)
    · exact br_f (nI_pos (by omega)) (br_f (nI_nlt (a := 3) (by omega) (by omega)) (zy_rankedB z h))
  · exact br_t h0 h
  · subst e3
    exact br_f (nI_pos h2) (br_t (nI_lt (a := 3) (by omega) h2) h)
theorem zy_nearest (hV : zr_V al cx cy v) (hb : zr_b cx cy) {e p : Nat} (he : e < 4) (hp : p < 4096) (h : post (zo_a al (zp_f cx cy p) 0)) : wpY_nearest post v (nI e) (nI p) := by
  unfold wpY_nearest
  exact br_f (nI_pos (by omega)) (br_f (nI_nlt (a := 3) (by omega) (by omega)) (zy_ranked hV hb hp h))
end
section
variable {f_live f_held f_treeRoot : Int32} {a_px a_py a_byX a_rowHead a_rowNext a_cell a_quad a_quadX a_quadY a_quadSide a_treeLow a_treeHigh a_splitsByY a_lessX a_lessY a_slice a_waiting a_waitingGap : Nat → Int32} {al : Nat → Bool} {cx cy : Nat → Nat}
theorem zx_addG {post : Int32 → SX → Prop} (hA : zr_A al cx cy (f_live, f_held, f_treeRoot, a_px, a_py, a_byX, a_rowHead, a_rowNext, a_cell, a_quad, a_quadX, a_quadY, a_quadSide, a_treeLow, a_treeHigh, a_splitsByY, a_lessX, a_lessY, a_slice, a_waiting, a_waitingGap)) {p k : Nat} (hp : p < 4096) (hk : k < 28) (ha : al k = false) (hall : ∀ j, j < k → al j = true) (h : ∀ u', zr_A (fun j => al j || decide (j = k)) (zr_w cx k (p % 64)) (zr_w cy k (p / 64)) u' → post (nI k) u') : wpX_add post (f_live, f_held, f_treeRoot, a_px, a_py, a_byX, a_rowHead, a_rowNext, a_cell, a_quad, a_quadX, a_quadY, a_quadSide, a_treeLow, a_treeHigh, a_splitsByY, a_lessX, a_lessY, a_slice, a_waiting, a_waitingGap) (nI p) := by
  unfold wpX_add
  have hl := hA.1
  have key : ∀ d i, i + d = k → wX_add_11 post (nI p) f_live f_held f_treeRoot a_px a_py a_byX a_rowHead a_rowNext a_cell a_quad a_quadX a_quadY a_quadSide a_treeLow a_treeHigh a_splitsByY a_lessX a_lessY a_slice a_waiting a_waitingGap (d + 1) (nI i) := by
    intro d
    induction d with
    | zero =>
      intro i hi
      have e : i = k := by omega
      subst e
      exact br_f (zn_28f hk) (zx_hasN hl hk (fun z => absurd (z.symm.trans ha) (by decide)) (fun _ => br_t rfl (zx_enter hA hk ha hp (fun u' hu => h u' hu))))
    | succ d ih =>
      intro i hi
      exact br_f (zn_28f (by omega)) (zx_hasN hl (by omega) (fun _ => br_f zn_z1 (nm_r (nI_1 i) (ih (i + 1) (by omega)))) (fun z => absurd ((hall i (by omega)).symm.trans z) (by decide)))
  exact zx_isPlaceN hp (br_f zn_z1 ⟨k + 1, key k 0 (by omega)⟩)
theorem zx_addF {post : Int32 → SX → Prop} (hl : zs_S f_live al) {p : Nat} (hp : p < 4096) (hall : ∀ j, j < 28 → al j = true) (h : post (-2) (f_live, f_held, f_treeRoot, a_px, a_py, a_byX, a_rowHead, a_rowNext, a_cell, a_quad, a_quadX, a_quadY, a_quadSide, a_treeLow, a_treeHigh, a_splitsByY, a_lessX, a_lessY, a_slice, a_waiting, a_waitingGap)) : wpX_add post (f_live, f_held, f_treeRoot, a_px, a_py, a_byX, a_rowHead, a_rowNext, a_cell, a_quad, a_quadX, a_quadY, a_quadSide, a_treeLow, a_treeHigh, a_splitsByY, a_lessX, a_lessY, a_slice, a_waiting, a_waitingGap) (nI p) := by
  unfold wpX_add
  have key : ∀ d i, i + d = 28 → wX_add_11 post (nI p) f_live f_held f_treeRoot a_px a_py a_byX a_rowHead a_rowNext a_cell a_quad a_quadX a_quadY a_quadSide a_treeLow a_treeHigh a_splitsByY a_lessX a_lessY a_slice a_waiting a_waitingGap (d + 1) (nI i) := by
    intro d
    induction d with
    | zero =>
      intro i hi
      have e : i = 28 := by omega
      subst e
      exact br_t zn_28t h
    | succ d ih =>
      intro i hi
      exact br_f (zn_28f (by omega)) (zx_hasN hl (by omega) (fun _ => br_f zn_z1 (nm_r (nI_1 i) (ih (i + 1) (by omega)))) (fun z => absurd ((hall i (by omega)).symm.trans z) (by decide)))
  exact zx_isPlaceN hp (br_f zn_z1 ⟨29, key 28 0 rfl⟩)
theorem zx_addB {post : Int32 → SX → Prop} {x : Int32} (hn : ∀ p, p < 4096 → ¬ x = nI p) (h : post (-1) (f_live, f_held, f_treeRoot, a_px, a_py, a_byX, a_rowHead, a_rowNext, a_cell, a_quad, a_quadX, a_quadY, a_quadSide, a_treeLow, a_treeHigh, a_splitsByY, a_lessX, a_lessY, a_slice, a_waiting, a_waitingGap)) : wpX_add post (f_live, f_held, f_treeRoot, a_px, a_py, a_byX, a_rowHead, a_rowNext, a_cell, a_quad, a_quadX, a_quadY, a_quadSide, a_treeLow, a_treeHigh, a_splitsByY, a_lessX, a_lessY, a_slice, a_waiting, a_waitingGap) x := by
  unfold wpX_add
  exact zx_isPlace (fun p hp e => absurd e (hn p hp)) (fun _ => br_t rfl h)
theorem zx_removeG {post : Int32 → SX → Prop} (hA : zr_A al cx cy (f_live, f_held, f_treeRoot, a_px, a_py, a_byX, a_rowHead, a_rowNext, a_cell, a_quad, a_quadX, a_quadY, a_quadSide, a_treeLow, a_treeHigh, a_splitsByY, a_lessX, a_lessY, a_slice, a_waiting, a_waitingGap)) {k : Nat} (hk : k < 28) (ha : al k = true) (h : ∀ u', zr_A (fun j => al j && !decide (j = k)) cx cy u' → post (nI (cx k + 64 * cy k)) u') : wpX_remove post (f_live, f_held, f_treeRoot, a_px, a_py, a_byX, a_rowHead, a_rowNext, a_cell, a_quad, a_quadX, a_quadY, a_quadSide, a_treeLow, a_treeHigh, a_splitsByY, a_lessX, a_lessY, a_slice, a_waiting, a_waitingGap) (nI k) := by
  unfold wpX_remove
  have hl := hA.1
  have hP := hA.2.2.1
  exact zx_hasN hl hk (fun _ => br_f zn_z1 (zx_placeOf hP hk (zx_leave hA hk ha (fun u' hu => h u' hu)))) (fun z => absurd (ha.symm.trans z) (by decide))
theorem zx_removeB {post : Int32 → SX → Prop} (hl : zs_S f_live al) {x : Int32} (hn : ∀ k, k < 28 → x = nI k → al k = false) (h : post (-1) (f_live, f_held, f_treeRoot, a_px, a_py, a_byX, a_rowHead, a_rowNext, a_cell, a_quad, a_quadX, a_quadY, a_quadSide, a_treeLow, a_treeHigh, a_splitsByY, a_lessX, a_lessY, a_slice, a_waiting, a_waitingGap)) : wpX_remove post (f_live, f_held, f_treeRoot, a_px, a_py, a_byX, a_rowHead, a_rowNext, a_cell, a_quad, a_quadX, a_quadY, a_quadSide, a_treeLow, a_treeHigh, a_splitsByY, a_lessX, a_lessY, a_slice, a_waiting, a_waitingGap) x := by
  unfold wpX_remove
  exact zx_has hl (fun k hk e ha => absurd (ha.symm.trans (hn k hk e)) (by decide)) (fun _ => br_t rfl h)
theorem zx_moveG {post : Int32 → SX → Prop} (hA : zr_A al cx cy (f_live, f_held, f_treeRoot, a_px, a_py, a_byX, a_rowHead, a_rowNext, a_cell, a_quad, a_quadX, a_quadY, a_quadSide, a_treeLow, a_treeHigh, a_splitsByY, a_lessX, a_lessY, a_slice, a_waiting, a_waitingGap)) {k p : Nat} (hk : k < 28) (ha : al k = true) (hp : p < 4096) (h : ∀ u', zr_A (fun j => (al j && !decide (j = k)) || decide (j = k)) (zr_w cx k (p % 64)) (zr_w cy k (p / 64)) u' → post (nI (cx k + 64 * cy k)) u') : wpX_move post (f_live, f_held, f_treeRoot, a_px, a_py, a_byX, a_rowHead, a_rowNext, a_cell, a_quad, a_quadX, a_quadY, a_quadSide, a_treeLow, a_treeHigh, a_splitsByY, a_lessX, a_lessY, a_slice, a_waiting, a_waitingGap) (nI k) (nI p) := by
  unfold wpX_move
  have hl := hA.1
  have hP := hA.2.2.1
  refine zx_hasN hl hk (fun _ => br_f zn_z1 (zx_isPlaceN hp (br_f zn_z1 (zx_placeOf hP hk (zx_leave hA hk ha (fun u' hu => ?_)))))) (fun z => absurd (ha.symm.trans z) (by decide))
  obtain ⟨f_live, f_held, f_treeRoot, a_px, a_py, a_byX, a_rowHead, a_rowNext, a_cell, a_quad, a_quadX, a_quadY, a_quadSide, a_treeLow, a_treeHigh, a_splitsByY, a_lessX, a_lessY, a_slice, a_waiting, a_waitingGap⟩ := u'
  exact zx_enter hu hk (by simp) hp (fun u2 hu2 => h u2 hu2)
theorem zx_moveB {post : Int32 → SX → Prop} (hl : zs_S f_live al) {x y : Int32} (hn : (∀ k, k < 28 → x = nI k → al k = false) ∨ (∀ p, p < 4096 → ¬ y = nI p)) (h : post (-1) (f_live, f_held, f_treeRoot, a_px, a_py, a_byX, a_rowHead, a_rowNext, a_cell, a_quad, a_quadX, a_quadY, a_quadSide, a_treeLow, a_treeHigh, a_splitsByY, a_lessX, a_lessY, a_slice, a_waiting, a_waitingGap)) : wpX_move post (f_live, f_held, f_treeRoot, a_px, a_py, a_byX, a_rowHead, a_rowNext, a_cell, a_quad, a_quadX, a_quadY, a_quadSide, a_treeLow, a_treeHigh, a_splitsByY, a_lessX, a_lessY, a_slice, a_waiting, a_waitingGap) x y := by
  unfold wpX_move
  refine zx_has hl (fun k hk e ha => br_f zn_z1 (zx_isPlace (fun p hp e2 => ?_) (fun _ => br_t rfl h))) (fun _ => br_t rfl h)
  rcases hn with z | z
  · exact absurd (ha.symm.trans (z k hk e)) (by decide)
  · exact absurd e2 (z p hp)
theorem zx_at {post : Int32 → Prop} (hl : zs_S f_live al) (hP : zr_P cx cy a_px a_py) {x : Int32} (ht : ∀ k, k < 28 → x = nI k → al k = true → post (nI (cx k + 64 * cy k))) (hf : (∀ k, k < 28 → x = nI k → al k = false) → post (-1)) : wpX_at post (f_live, f_held, f_treeRoot, a_px, a_py, a_byX, a_rowHead, a_rowNext, a_cell, a_quad, a_quadX, a_quadY, a_quadSide, a_treeLow, a_treeHigh, a_splitsByY, a_lessX, a_lessY, a_slice, a_waiting, a_waitingGap) x := by
  unfold wpX_at
  refine zx_has hl (fun k hk e ha => br_f zn_z1 ?_) (fun z => br_t rfl (hf z))
  subst e
  exact zx_placeOf hP hk (ht k hk rfl ha)
theorem zx_countG {post : Int32 → SX → Prop} {s : Int32} {p : Nat → Bool} (hs : zs_S s p) (h : post (nI (zn_c p 28)) (f_live, f_held, f_treeRoot, a_px, a_py, a_byX, a_rowHead, a_rowNext, a_cell, a_quad, a_quadX, a_quadY, a_quadSide, a_treeLow, a_treeHigh, a_splitsByY, a_lessX, a_lessY, a_slice, a_waiting, a_waitingGap)) : ∃ n, wX_count_23 post s f_live f_held f_treeRoot a_px a_py a_byX a_rowHead a_rowNext a_cell a_quad a_quadX a_quadY a_quadSide a_treeLow a_treeHigh a_splitsByY a_lessX a_lessY a_slice a_waiting a_waitingGap n 0 0 := by
  refine loop_0 (fun n i x => wX_count_23 post s f_live f_held f_treeRoot a_px a_py a_byX a_rowHead a_rowNext a_cell a_quad a_quadX a_quadY a_quadSide a_treeLow a_treeHigh a_splitsByY a_lessX a_lessY a_slice a_waiting a_waitingGap n x (nI i)) (fun i x => x = nI (zn_c p i)) 28 0 rfl (fun n x hx => ?_) (fun n i x hi hx K => ?_)
  · subst hx
    exact br_t zn_28t h
  · subst hx
    exact br_f (zn_28f hi) (nm_r (zn_cnt hs hi) (nm_r (nI_1 i) (K _ rfl)))
end
