/-! ===== what is owed ===== -/
theorem zp_place (x : Int32) (n : Nat) (hn : n < 2 ^ 31) : (∃ p, p < n ∧ x = nI p) ∨ (∀ p, p < n → ¬ x = nI p) := by
  rcases zp_ix x n hn with h | ⟨_, h⟩ | ⟨_, _, _, _, h⟩
  · exact Or.inl h
  · exact Or.inr h
  · exact Or.inr h
theorem zp_alive (al : Nat → Bool) (x : Int32) : (∃ k, k < 28 ∧ x = nI k ∧ al k = true) ∨ (∀ k, k < 28 → x = nI k → al k = false) := by
  rcases zp_place x 28 (by omega) with ⟨k, hk, e⟩ | h
  · cases ha : al k
    · refine Or.inr (fun j hj e2 => ?_)
      have e3 := (nI_eq (by omega) (by omega)).mp (e.symm.trans e2)
      rw [← e3]; exact ha
    · exact Or.inl ⟨k, hk, e, ha⟩
  · exact Or.inr (fun k hk e => absurd e (h k hk))
theorem zp_gb (e lo hi : Int32) : zp_bad e lo hi ∨ ∃ j p q, j < 8 ∧ p < 4096 ∧ q < 4096 ∧ e = nI j ∧ lo = nI p ∧ hi = nI q := by
  rcases zp_place e 8 (by omega) with ⟨j, hj, e1⟩ | h
  · rcases zp_place lo 4096 (by omega) with ⟨p, hp, e2⟩ | h
    · rcases zp_place hi 4096 (by omega) with ⟨q, hq, e3⟩ | h
      · exact Or.inr ⟨j, p, q, hj, hp, hq, e1, e2, e3⟩
      · exact Or.inl (Or.inr (Or.inr h))
    · exact Or.inl (Or.inr (Or.inl h))
  · exact Or.inl (Or.inl h)
/-- both sides show one picture: who is there (al) and where (cx, cy) -/
def i_Rel (k : Nat) (u : SX) (v : SY) : Prop := ∃ al cx cy, zr_A al cx cy u ∧ zr_V al cx cy v
theorem i_up {k : Nat} {u : SX} {v : SY} (h : i_Rel k u v) : i_Rel (k + 5) u v := h
theorem i_vc0 : wpX_init (fun u => wpY_init (fun v => i_Rel 0 u v)) := by
  refine zx_init (fun rh qx qy qs hr hL => ?_)
  refine ⟨fun _ => false, fun _ => 0, fun _ => 0, ⟨zs_0, fun _ => ⟨Nat.zero_lt_succ 63, Nat.zero_lt_succ 63⟩, fun _ _ => ⟨rfl, rfl⟩, ⟨[], zl_nil (fun _ _ => rfl), List.Pairwise.nil, rfl, trivial⟩, fun y hy => ⟨[], zl_nil (fun _ _ => rfl), hr y hy⟩, fun c _ => zs_cg zs_0 (fun _ _ => rfl), fun n _ => zs_cg zs_0 (fun _ _ => rfl), hL, ⟨[], 0, zl_nil (fun _ _ => rfl), zt_mkn⟩, fun b _ => zs_cg zs_0 (fun _ _ => rfl), fun b _ => zs_cg zs_0 (fun _ _ => rfl), fun b _ => ⟨zs_cg zs_0 (fun _ _ => rfl), zs_cg zs_0 (fun _ _ => rfl)⟩⟩, fun k _ => rfl⟩
theorem i_vc_add {k : Nat} {u : SX} {v : SY} (I : i_Rel k u v) (hk : k + 5 ≤ 2560) (v1 : Int32) : wpX_add (fun r u' => wpY_add (fun r' v' => r' = r ∧ i_Rel (k + 5) u' v') v v1) u v1 := by
  obtain ⟨al, cx, cy, hA, hV⟩ := I
  obtain ⟨f_live, f_held, f_treeRoot, a_px, a_py, a_byX, a_rowHead, a_rowNext, a_cell, a_quad, a_quadX, a_quadY, a_quadSide, a_treeLow, a_treeHigh, a_splitsByY, a_lessX, a_lessY, a_slice, a_waiting, a_waitingGap⟩ := u
  have hl := hA.1
  have hb := hA.2.1
  rcases zp_place v1 4096 (by omega) with ⟨p, hp, e⟩ | hn
  · subst e
    by_cases hex : ∃ m, m < 28 ∧ al m = false
    · obtain ⟨m, ⟨hm, ha⟩, hmin⟩ := pk_least _ hex
      have hall : ∀ j, j < m → al j = true := fun j hj => by
        cases hj2 : al j
        · exact absurd ⟨by omega, hj2⟩ (hmin j hj)
        · rfl
      exact zx_addG hA hp hm ha hall (fun u' hu => zy_addG hV hb hp hm ha hall ⟨rfl, _, _, _, hu, zr_Vin hV m p⟩)
    · have hall : ∀ j, j < 28 → al j = true := fun j hj => by
        cases hj2 : al j
        · exact absurd ⟨j, hj, hj2⟩ hex
        · rfl
      exact zx_addF hl hp hall (zy_addF hV hb hp hall ⟨rfl, al, cx, cy, hA, hV⟩)
  · exact zx_addB hn (zy_addB hn ⟨rfl, al, cx, cy, hA, hV⟩)
theorem i_vc_remove {k : Nat} {u : SX} {v : SY} (I : i_Rel k u v) (hk : k + 5 ≤ 2560) (v1 : Int32) : wpX_remove (fun r u' => wpY_remove (fun r' v' => r' = r ∧ i_Rel (k + 5) u' v') v v1) u v1 := by
  obtain ⟨al, cx, cy, hA, hV⟩ := I
  obtain ⟨f_live, f_held, f_treeRoot, a_px, a_py, a_byX, a_rowHead, a_rowNext, a_cell, a_quad, a_quadX, a_quadY, a_quadSide, a_treeLow, a_treeHigh, a_splitsByY, a_lessX, a_lessY, a_slice, a_waiting, a_waitingGap⟩ := u
  have hl := hA.1
  have hb := hA.2.1
  rcases zp_alive al v1 with ⟨m, hm, e, ha⟩ | hn
  · subst e
    exact zx_removeG hA hm ha (fun u' hu => zy_removeG hV hb hm ha ⟨rfl, _, _, _, hu, zr_Vout hV m⟩)
  · exact zx_removeB hl hn (zy_removeB hV hb hn ⟨rfl, al, cx, cy, hA, hV⟩)
theorem i_vc_move {k : Nat} {u : SX} {v : SY} (I : i_Rel k u v) (hk : k + 5 ≤ 2560) (v1 : Int32) (v2 : Int32) : wpX_move (fun r u' => wpY_move (fun r' v' => r' = r ∧ i_Rel (k + 5) u' v') v v1 v2) u v1 v2 := by
  obtain ⟨al, cx, cy, hA, hV⟩ := I
  obtain ⟨f_live, f_held, f_treeRoot, a_px, a_py, a_byX, a_rowHead, a_rowNext, a_cell, a_quad, a_quadX, a_quadY, a_quadSide, a_treeLow, a_treeHigh, a_splitsByY, a_lessX, a_lessY, a_slice, a_waiting, a_waitingGap⟩ := u
  have hl := hA.1
  have hb := hA.2.1
  rcases zp_alive al v1 with ⟨m, hm, e, ha⟩ | hn
  · rcases zp_place v2 4096 (by omega) with ⟨p, hp, e2⟩ | hn
    · subst e e2
      exact zx_moveG hA hm ha hp (fun u' hu => zy_moveG hV hb hm ha hp ⟨rfl, _, _, _, hu, zr_Vmv hV m p⟩)
    · exact zx_moveB hl (Or.inr hn) (zy_moveB hV hb (Or.inr hn) ⟨rfl, al, cx, cy, hA, hV⟩)
  · exact zx_moveB hl (Or.inl hn) (zy_moveB hV hb (Or.inl hn) ⟨rfl, al, cx, cy, hA, hV⟩)
theorem i_vc_at {k : Nat} {u : SX} {v : SY} (I : i_Rel k u v) (hk : k + 5 ≤ 2560) (v1 : Int32) : wpX_at (fun r => wpY_at (fun r' => r' = r ∧ i_Rel (k + 5) u v) v v1) u v1 := by
  have I2 : i_Rel (k + 5) u v := I
  obtain ⟨al, cx, cy, hA, hV⟩ := I
  obtain ⟨f_live, f_held, f_treeRoot, a_px, a_py, a_byX, a_rowHead, a_rowNext, a_cell, a_quad, a_quadX, a_quadY, a_quadSide, a_treeLow, a_treeHigh, a_splitsByY, a_lessX, a_lessY, a_slice, a_waiting, a_waitingGap⟩ := u
  have hl := hA.1
  have hb := hA.2.1
  have hP := hA.2.2.1
  refine zx_at hl hP (fun m hm e ha => zy_at hV hb (fun j hj e2 _ => ⟨?_, I2⟩) (fun hn => absurd (ha.symm.trans (hn m hm e)) (by decide))) (fun hn => zy_at hV hb (fun j hj e2 ha => absurd (ha.symm.trans (hn j hj e2)) (by decide)) (fun _ => ⟨rfl, I2⟩))
  rw [(nI_eq (by omega) (by omega)).mp (e.symm.trans e2)]
theorem i_vc_points {k : Nat} {u : SX} {v : SY} (I : i_Rel k u v) (hk : k + 5 ≤ 2560) : wpX_points (fun r => wpY_points (fun r' => r' = r ∧ i_Rel (k + 5) u v) v) u := by
  have I2 : i_Rel (k + 5) u v := I
  obtain ⟨al, cx, cy, hA, hV⟩ := I
  obtain ⟨f_live, f_held, f_treeRoot, a_px, a_py, a_byX, a_rowHead, a_rowNext, a_cell, a_quad, a_quadX, a_quadY, a_quadSide, a_treeLow, a_treeHigh, a_splitsByY, a_lessX, a_lessY, a_slice, a_waiting, a_waitingGap⟩ := u
  have hl := hA.1
  have hb := hA.2.1
  exact zy_points hV hb (fun r hr => ⟨zs_ext hr hl (fun _ _ => rfl), I2⟩)
theorem i_vc_inside {k : Nat} {u : SX} {v : SY} (I : i_Rel k u v) (hk : k + 5 ≤ 2560) (v1 : Int32) (v2 : Int32) (v3 : Int32) : wpX_inside (fun r u' => wpY_inside (fun r' => r' = r ∧ i_Rel (k + 5) u' v) v v1 v2 v3) u v1 v2 v3 := by
  obtain ⟨al, cx, cy, hA, hV⟩ := I
  obtain ⟨f_live, f_held, f_treeRoot, a_px, a_py, a_byX, a_rowHead, a_rowNext, a_cell, a_quad, a_quadX, a_quadY, a_quadSide, a_treeLow, a_treeHigh, a_splitsByY, a_lessX, a_lessY, a_slice, a_waiting, a_waitingGap⟩ := u
  have hb := hA.2.1
  rcases zp_gb v1 v2 v3 with hbad | ⟨j, p, q, hj, hp, hq, e1, e2, e3⟩
  · exact zx_insB hbad (zy_insB hbad ⟨rfl, al, cx, cy, hA, hV⟩)
  · subst e1 e2 e3
    exact zx_insG hA hj hp hq (fun r u' hu hr => zy_insG hV hb hj hp hq (fun r2 hr2 => ⟨zs_ext hr2 hr (fun _ _ => rfl), al, cx, cy, hu, hV⟩))
theorem i_vc_count {k : Nat} {u : SX} {v : SY} (I : i_Rel k u v) (hk : k + 5 ≤ 2560) (v1 : Int32) (v2 : Int32) (v3 : Int32) : wpX_count (fun r u' => wpY_count (fun r' => r' = r ∧ i_Rel (k + 5) u' v) v v1 v2 v3) u v1 v2 v3 := by
  obtain ⟨al, cx, cy, hA, hV⟩ := I
  obtain ⟨f_live, f_held, f_treeRoot, a_px, a_py, a_byX, a_rowHead, a_rowNext, a_cell, a_quad, a_quadX, a_quadY, a_quadSide, a_treeLow, a_treeHigh, a_splitsByY, a_lessX, a_lessY, a_slice, a_waiting, a_waitingGap⟩ := u
  have hb := hA.2.1
  unfold wpX_count wpY_count
  rcases zp_gb v1 v2 v3 with hbad | ⟨j, p, q, hj, hp, hq, e1, e2, e3⟩
  · exact zx_insB hbad (br_t rfl (zy_insB hbad (zy_countB ⟨rfl, al, cx, cy, hA, hV⟩)))
  · subst e1 e2 e3
    refine zx_insG hA hj hp hq (fun r u' hu hr => ?_)
    obtain ⟨f_live, f_held, f_treeRoot, a_px, a_py, a_byX, a_rowHead, a_rowNext, a_cell, a_quad, a_quadX, a_quadY, a_quadSide, a_treeLow, a_treeHigh, a_splitsByY, a_lessX, a_lessY, a_slice, a_waiting, a_waitingGap⟩ := u'
    exact br_f (zs_n1 hr) (zx_countG hr (zy_insG hV hb hj hp hq (fun r2 hr2 => zy_countG hr2 ⟨rfl, al, cx, cy, hu, hV⟩)))
theorem i_vc_agree {k : Nat} {u : SX} {v : SY} (I : i_Rel k u v) (hk : k + 5 ≤ 2560) (v1 : Int32) (v2 : Int32) (v3 : Int32) (v4 : Int32) : wpX_agree (fun r u' => wpY_agree (fun r' => r' = r ∧ i_Rel (k + 5) u' v) v v1 v2 v3 v4) u v1 v2 v3 v4 := by
  obtain ⟨al, cx, cy, hA, hV⟩ := I
  obtain ⟨f_live, f_held, f_treeRoot, a_px, a_py, a_byX, a_rowHead, a_rowNext, a_cell, a_quad, a_quadX, a_quadY, a_quadSide, a_treeLow, a_treeHigh, a_splitsByY, a_lessX, a_lessY, a_slice, a_waiting, a_waitingGap⟩ := u
  have hb := hA.2.1
  unfold wpX_agree wpY_agree
  rcases zp_gb v1 v3 v4 with hbad | ⟨j, p, q, hj, hp, hq, e1, e2, e3⟩
  · refine zx_insB hbad ?_
    rcases zp_gb v2 v3 v4 with hbad2 | ⟨j2, p, q, hj2, hp, hq, e1, e2, e3⟩
    · exact zx_insB hbad2 (br_t rfl (zy_insB hbad (br_t (by decide) ⟨rfl, al, cx, cy, hA, hV⟩)))
    · subst e1 e2 e3
      refine zx_insG hA hj2 hp hq (fun r u' hu hr => ?_)
      obtain ⟨f_live, f_held, f_treeRoot, a_px, a_py, a_byX, a_rowHead, a_rowNext, a_cell, a_quad, a_quadX, a_quadY, a_quadSide, a_treeLow, a_treeHigh, a_splitsByY, a_lessX, a_lessY, a_slice, a_waiting, a_waitingGap⟩ := u'
      exact br_t rfl (zy_insB hbad (br_t (by decide) ⟨rfl, al, cx, cy, hu, hV⟩))
  · subst e1 e2 e3
    refine zx_insG hA hj hp hq (fun r u' hu hr => ?_)
    obtain ⟨f_live, f_held, f_treeRoot, a_px, a_py, a_byX, a_rowHead, a_rowNext, a_cell, a_quad, a_quadX, a_quadY, a_quadSide, a_treeLow, a_treeHigh, a_splitsByY, a_lessX, a_lessY, a_slice, a_waiting, a_waitingGap⟩ := u'
    rcases zp_gb v2 (nI p) (nI q) with hbad2 | ⟨j2, p2, q2, hj2, hp2, hq2, e1, e2, e3⟩
    · exact zx_insB hbad2 (br_f (zs_n1 hr) (br_f (zs_n1 hr) (zy_insG hV hb hj hp hq (fun r2 hr2 => br_f (zs_nn hr2) (zy_insB hbad2 (br_t (by decide) ⟨rfl, al, cx, cy, hu, hV⟩))))))
    · subst e1
      refine zx_insG hu hj2 hp hq (fun r3 u3 hu3 hr3 => ?_)
      obtain ⟨f_live, f_held, f_treeRoot, a_px, a_py, a_byX, a_rowHead, a_rowNext, a_cell, a_quad, a_quadX, a_quadY, a_quadSide, a_treeLow, a_treeHigh, a_splitsByY, a_lessX, a_lessY, a_slice, a_waiting, a_waitingGap⟩ := u3
      exact br_f (zs_n1 hr) (br_t (zs_ext hr hr3 (fun _ _ => rfl)) (zy_insG hV hb hj hp hq (fun r2 hr2 => br_f (zs_nn hr2) (zy_insG hV hb hj2 hp hq (fun r4 hr4 => br_f (zs_nn hr4) ⟨rfl, al, cx, cy, hu3, hV⟩)))))
theorem i_vc_nearest {k : Nat} {u : SX} {v : SY} (I : i_Rel k u v) (hk : k + 5 ≤ 2560) (v1 : Int32) (v2 : Int32) : wpX_nearest (fun r u' => wpY_nearest (fun r' => r' = r ∧ i_Rel (k + 5) u' v) v v1 v2) u v1 v2 := by
  obtain ⟨al, cx, cy, hA, hV⟩ := I
  obtain ⟨f_live, f_held, f_treeRoot, a_px, a_py, a_byX, a_rowHead, a_rowNext, a_cell, a_quad, a_quadX, a_quadY, a_quadSide, a_treeLow, a_treeHigh, a_splitsByY, a_lessX, a_lessY, a_slice, a_waiting, a_waitingGap⟩ := u
  have hb := hA.2.1
  rcases zp_place v1 4 (by omega) with ⟨e, he, e1⟩ | hn
  · rcases zp_place v2 4096 (by omega) with ⟨p, hp, e2⟩ | hn
    · subst e1 e2
      exact zx_nearest hA he hp (fun u' hu => zy_nearest hV hb he hp ⟨rfl, al, cx, cy, hu, hV⟩)
    · exact zx_nearestB (Or.inr hn) (zy_nearestB (Or.inr hn) ⟨rfl, al, cx, cy, hA, hV⟩)
  · exact zx_nearestB (Or.inl hn) (zy_nearestB (Or.inl hn) ⟨rfl, al, cx, cy, hA, hV⟩)
theorem i_vc_ranked {k : Nat} {u : SX} {v : SY} (I : i_Rel k u v) (hk : k + 5 ≤ 2560) (v1 : Int32) (v2 : Int32) : wpX_ranked (fun r => wpY_ranked (fun r' => r' = r ∧ i_Rel (k + 5) u v) v v1 v2) u v1 v2 := by
  have I2 : i_Rel (k + 5) u v := I
  obtain ⟨al, cx, cy, hA, hV⟩ := I
  obtain ⟨f_live, f_held, f_treeRoot, a_px, a_py, a_byX, a_rowHead, a_rowNext, a_cell, a_quad, a_quadX, a_quadY, a_quadSide, a_treeLow, a_treeHigh, a_splitsByY, a_lessX, a_lessY, a_slice, a_waiting, a_waitingGap⟩ := u
  have hl := hA.1
  have hb := hA.2.1
  have hP := hA.2.2.1
  rcases zp_place v1 4096 (by omega) with ⟨p, hp, e⟩ | hn
  · subst e
    exact zx_ranked hl hP hb hp (zy_ranked hV hb hp ⟨rfl, I2⟩)
  · unfold wpX_ranked
    exact zx_isPlace (fun p hp e => absurd e (hn p hp)) (fun _ => br_t rfl (zy_rankedB hn ⟨rfl, I2⟩))
theorem i_vc_square {k : Nat} {u : SX} {v : SY} (I : i_Rel k u v) (hk : k + 5 ≤ 2560) (v1 : Int32) : wpX_square (fun r => wpY_square (fun r' => r' = r ∧ i_Rel (k + 5) u v) v v1) u v1 := by
  have I2 : i_Rel (k + 5) u v := I
  obtain ⟨al, cx, cy, hA, hV⟩ := I
  obtain ⟨f_live, f_held, f_treeRoot, a_px, a_py, a_byX, a_rowHead, a_rowNext, a_cell, a_quad, a_quadX, a_quadY, a_quadSide, a_treeLow, a_treeHigh, a_splitsByY, a_lessX, a_lessY, a_slice, a_waiting, a_waitingGap⟩ := u
  have hl := hA.1
  have hb := hA.2.1
  have hP := hA.2.2.1
  unfold wpX_square wpY_square
  rcases zp_place v1 4096 (by omega) with ⟨p, hp, e⟩ | hn
  · subst e
    refine br_c (fun z => ?_) (fun z => zx_isPlaceN hp (br_f zn_z1 (zx_nearestOf hP hb hp hl (fun _ _ z => z) (zo_0 al _ (P := fun _ => False) (fun _ _ z => z)) (fun r hr => ?_))))
    · have hB : zo_B al (zp_f cx cy p) (-1) (fun k => al k = true) := zo_0 _ _ (fun j hj w => by
        rw [zs_e hl z hj] at w
        exact absurd w (by decide))
      refine zy_ranked hV hb hp ?_
      rw [← zo_best hB]
      exact br_f (by decide) ⟨rfl, I2⟩
    · have hB : zo_B al (zp_f cx cy p) r (fun k => al k = true) := zo_cg hr (fun _ _ z => Or.inr z)
      have hbest := zo_best hB
      rcases hB with ⟨h1, h2⟩ | ⟨b, h1, h2, h3, h4⟩
      · obtain ⟨j, hj, hj2⟩ := zs_ne hl z
        exact absurd hj2 (h2 j hj)
      · subst h3
        refine zx_squareFrom hP h1 hp (zy_ranked hV hb hp ?_)
        rw [← hbest]
        exact br_t (nI_pos' (by omega)) (zy_far hV hb h1 h2 hp ⟨rfl, I2⟩)
  · have hY : wpY_ranked (fun r_1 => (0 ≤ r_1 → wpY_far (fun r_4 => r_4 = -1 ∧ i_Rel (k + 5) (f_live, f_held, f_treeRoot, a_px, a_py, a_byX, a_rowHead, a_rowNext, a_cell, a_quad, a_quadX, a_quadY, a_quadSide, a_treeLow, a_treeHigh, a_splitsByY, a_lessX, a_lessY, a_slice, a_waiting, a_waitingGap) v) v r_1 v1) ∧ (¬ 0 ≤ r_1 → -1 = (-1 : Int32) ∧ i_Rel (k + 5) (f_live, f_held, f_treeRoot, a_px, a_py, a_byX, a_rowHead, a_rowNext, a_cell, a_quad, a_quadX, a_quadY, a_quadSide, a_treeLow, a_treeHigh, a_splitsByY, a_lessX, a_lessY, a_slice, a_waiting, a_waitingGap) v)) v v1 0 := zy_rankedB hn (br_f (by decide) ⟨rfl, I2⟩)
    exact br_c (fun _ => hY) (fun _ => zx_isPlace (fun p hp e => absurd e (hn p hp)) (fun _ => br_t rfl hY))
theorem i_vc_around {k : Nat} {u : SX} {v : SY} (I : i_Rel k u v) (hk : k + 5 ≤ 2560) (v1 : Int32) (v2 : Int32) : wpX_around (fun r => wpY_around (fun r' => r' = r ∧ i_Rel (k + 5) u v) v v1 v2) u v1 v2 := by
  have I2 : i_Rel (k + 5) u v := I
  obtain ⟨al, cx, cy, hA, hV⟩ := I
  obtain ⟨f_live, f_held, f_treeRoot, a_px, a_py, a_byX, a_rowHead, a_rowNext, a_cell, a_quad, a_quadX, a_quadY, a_quadSide, a_treeLow, a_treeHigh, a_splitsByY, a_lessX, a_lessY, a_slice, a_waiting, a_waitingGap⟩ := u
  have hl := hA.1
  have hb := hA.2.1
  have hP := hA.2.2.1
  rcases zp_place v1 4096 (by omega) with ⟨p, hp, e⟩ | hn
  · subst e
    exact zx_around hl hP hp (fun r hr => zy_around hV hb hp (fun r2 hr2 => ⟨zs_ext hr2 hr (fun _ _ => rfl), I2⟩))
  · unfold wpX_around wpY_around
    exact zx_isPlace (fun p hp e => absurd e (hn p hp)) (fun _ => br_t rfl (zy_isPlace (fun p hp e => absurd e (hn p hp)) (fun _ => br_t rfl ⟨rfl, I2⟩)))
theorem i_vc_closest {k : Nat} {u : SX} {v : SY} (I : i_Rel k u v) (hk : k + 5 ≤ 2560) : wpX_closest (fun r => wpY_closest (fun r' => r' = r ∧ i_Rel (k + 5) u v) v) u := by
  have I2 : i_Rel (k + 5) u v := I
  obtain ⟨al, cx, cy, hA, hV⟩ := I
  obtain ⟨f_live, f_held, f_treeRoot, a_px, a_py, a_byX, a_rowHead, a_rowNext, a_cell, a_quad, a_quadX, a_quadY, a_quadSide, a_treeLow, a_treeHigh, a_splitsByY, a_lessX, a_lessY, a_slice, a_waiting, a_waitingGap⟩ := u
  have hl := hA.1
  have hb := hA.2.1
  have hP := hA.2.2.1
  have hO := hA.2.2.2.1
  exact zx_closest hl hP hb hO (zy_closest hV hb ⟨rfl, I2⟩)
theorem i_vc_staircase {k : Nat} {u : SX} {v : SY} (I : i_Rel k u v) (hk : k + 5 ≤ 2560) : wpX_staircase (fun r => wpY_staircase (fun r' => r' = r ∧ i_Rel (k + 5) u v) v) u := by
  have I2 : i_Rel (k + 5) u v := I
  obtain ⟨al, cx, cy, hA, hV⟩ := I
  obtain ⟨f_live, f_held, f_treeRoot, a_px, a_py, a_byX, a_rowHead, a_rowNext, a_cell, a_quad, a_quadX, a_quadY, a_quadSide, a_treeLow, a_treeHigh, a_splitsByY, a_lessX, a_lessY, a_slice, a_waiting, a_waitingGap⟩ := u
  have hl := hA.1
  have hb := hA.2.1
  have hP := hA.2.2.1
  exact zx_staircase hl hP hb (fun r hr => zy_staircase hV hb (fun r2 hr2 => ⟨zs_ext hr2 hr (fun _ _ => rfl), I2⟩))
theorem i_vc_below {k : Nat} {u : SX} {v : SY} (I : i_Rel k u v) (hk : k + 5 ≤ 2560) (v1 : Int32) : wpX_below (fun r => wpY_below (fun r' => r' = r ∧ i_Rel (k + 5) u v) v v1) u v1 := by
  have I2 : i_Rel (k + 5) u v := I
  obtain ⟨al, cx, cy, hA, hV⟩ := I
  obtain ⟨f_live, f_held, f_treeRoot, a_px, a_py, a_byX, a_rowHead, a_rowNext, a_cell, a_quad, a_quadX, a_quadY, a_quadSide, a_treeLow, a_treeHigh, a_splitsByY, a_lessX, a_lessY, a_slice, a_waiting, a_waitingGap⟩ := u
  have hl := hA.1
  have hb := hA.2.1
  have hP := hA.2.2.1
  rcases zp_alive al v1 with ⟨m, hm, e, ha⟩ | hn
  · subst e
    exact zx_below hl hP hb hm ha (zy_below hV hb hm ha ⟨rfl, I2⟩)
  · unfold wpX_below wpY_below
    exact zx_has hl (fun m hm e ha => absurd (ha.symm.trans (hn m hm e)) (by decide)) (fun _ => br_t rfl (zy_is hV hb (fun m hm e ha => absurd (ha.symm.trans (hn m hm e)) (by decide)) (fun _ => br_t rfl ⟨rfl, I2⟩)))
