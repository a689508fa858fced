/-! ===== the component: the k-d tree searched ===== -/
section
variable {f_live f_held f_treeRoot : Int32} {a_px a_py a_byX a_rowHead a_rowNext a_cell a_quad a_quadX a_quadY a_quadSide a_treeLow a_treeHigh a_splitsByY a_lessX a_lessY a_slice a_waiting a_waitingGap : Nat → Int32} {al : Nat → Bool} {cx cy : Nat → Nat}
theorem zx_push {post : Int32 → SX → Prop} {node g : Int32} {top : Nat} (ht : ¬ node = -1 → top < 28) (hn : node = -1 → post (nI top) (f_live, f_held, f_treeRoot, a_px, a_py, a_byX, a_rowHead, a_rowNext, a_cell, a_quad, a_quadX, a_quadY, a_quadSide, a_treeLow, a_treeHigh, a_splitsByY, a_lessX, a_lessY, a_slice, a_waiting, a_waitingGap)) (hy : ¬ node = -1 → post (nI (top + 1)) (f_live, f_held, f_treeRoot, a_px, a_py, a_byX, a_rowHead, a_rowNext, a_cell, a_quad, a_quadX, a_quadY, a_quadSide, a_treeLow, a_treeHigh, a_splitsByY, a_lessX, a_lessY, a_slice, upd a_waiting top node, upd a_waitingGap top g)) : wpX_pushTree post (f_live, f_held, f_treeRoot, a_px, a_py, a_byX, a_rowHead, a_rowNext, a_cell, a_quad, a_quadX, a_quadY, a_quadSide, a_treeLow, a_treeHigh, a_splitsByY, a_lessX, a_lessY, a_slice, a_waiting, a_waitingGap) node g (nI top) := by
  refine br_c hn (fun z => ?_)
  have ht2 := ht z
  have e : (nI top).toNatClampNeg = top := nI_clamp (by omega)
  refine br_t (nI_lt (b := 28) ht2 (by omega)) ⟨zx_i341 (by omega), nm_r (e' := upd a_waiting top node) (by rw [e]) ⟨zx_i28 ht2, nm_r (e' := upd a_waitingGap top g) (by rw [e]) ?_⟩⟩
  rw [nI_1]
  exact hy z
/-- a subtree is pushed: nothing, if it is empty -/
theorem zx_pu {post : Int32 → SX → Prop} {q : Nat → Nat} {L : List (List Nat)} {A : List Nat} {f dd : Nat} {b : Bool} {r gp : Int32} (hK : zk_K (zt_X al cx cy q a_treeLow a_treeHigh a_splitsByY a_waiting a_waitingGap) L) (hT : zt_T cx cy a_treeLow a_treeHigh a_splitsByY f A b r) (hA : ∀ j, j ∈ A → j < 28 ∧ al j = true) (hl : A ≠ [] → L.length < 28) (hd : dd ≤ 8192) (hg : gp * gp = nI dd) (hq : ∀ j, j ∈ A → dd ≤ q j)
    (h : ∀ L' w g, zk_K (zt_X al cx cy q a_treeLow a_treeHigh a_splitsByY w g) L' → (∀ k l, l ∈ L' → k ∈ l → k ∈ A ∨ ∃ l2, l2 ∈ L ∧ k ∈ l2) → (∀ k, (k ∈ A ∨ ∃ l, l ∈ L ∧ k ∈ l) → ∃ l, l ∈ L' ∧ k ∈ l) → zk_N List.length L' = A.length + zk_N List.length L → post (nI L'.length) (f_live, f_held, f_treeRoot, a_px, a_py, a_byX, a_rowHead, a_rowNext, a_cell, a_quad, a_quadX, a_quadY, a_quadSide, a_treeLow, a_treeHigh, a_splitsByY, a_lessX, a_lessY, a_slice, w, g)) : wpX_pushTree post (f_live, f_held, f_treeRoot, a_px, a_py, a_byX, a_rowHead, a_rowNext, a_cell, a_quad, a_quadX, a_quadY, a_quadSide, a_treeLow, a_treeHigh, a_splitsByY, a_lessX, a_lessY, a_slice, a_waiting, a_waitingGap) r gp (nI L.length) := by
  have hne : ¬ r = -1 → A ≠ [] := fun z e => z (by subst e; exact zt_nil hT)
  refine zx_push (fun z => hl (hne z)) (fun z => ?_) (fun z => ?_)
  · have e := zt_ne hT z (fun j hj => (hA j hj).1)
    subst e
    refine h L _ _ hK (fun k l z1 z2 => Or.inr ⟨l, z1, z2⟩) (fun k z1 => ?_) (by simp)
    rcases z1 with z1 | z1
    · exact absurd z1 (by simp)
    · exact z1
  · refine h (A :: L) _ _ ⟨⟨⟨hne z, hA, f, b, ?_⟩, dd, hd, ?_, hq⟩, zt_Xf (Nat.le_refl _) hK⟩ (fun k l z1 z2 => ?_) (fun k z1 => ?_) rfl
    · rw [pk_us]; exact hT
    · rw [pk_us]; exact hg
    · rcases List.mem_cons.mp z1 with e | e
      · subst e; exact Or.inl z2
      · exact Or.inr ⟨l, e, z2⟩
    · rcases z1 with z1 | ⟨l, z1, z2⟩
      · exact ⟨A, by simp, z1⟩
      · exact ⟨l, by simp [z1], z2⟩
theorem zx_00 : (0 : Int32) * 0 = nI 0 := by decide
/-- from the choice of sides on, for a rectangle -/
theorem zx_t132 {post : Int32 → SX → Prop} {J : Int32 → Int32 → Int32 → Int32 → Int32 → Int32 → (Nat → Int32) → (Nat → Int32) → (Nat → Int32) → (Nat → Int32) → (Nat → Int32) → (Nat → Int32) → (Nat → Int32) → (Nat → Int32) → (Nat → Int32) → (Nat → Int32) → (Nat → Int32) → (Nat → Int32) → (Nat → Int32) → (Nat → Int32) → (Nat → Int32) → (Nat → Int32) → (Nat → Int32) → (Nat → Int32) → Prop} {x1 x2 s : Int32} {L : List (List Nat)} {A B : List Nat} {m t sp le mo f : Nat} {b : Bool} (hm : m < 28)
    (hK : zk_K (zt_X al cx cy (fun _ => 0) a_treeLow a_treeHigh a_splitsByY a_waiting a_waitingGap) L) (hTA : zt_T cx cy a_treeLow a_treeHigh a_splitsByY f A b (a_treeLow m)) (hTB : zt_T cx cy a_treeLow a_treeHigh a_splitsByY f B b (a_treeHigh m))
    (hA : ∀ j, j ∈ A → j < 28 ∧ al j = true) (hB : ∀ j, j ∈ B → j < 28 ∧ al j = true) (hl : A.length + B.length + zk_N List.length L ≤ 28) (hsp : sp < 64) (hle : le < 64) (hmo : mo < 64)
    (h : ∀ L' w g, zk_K (zt_X al cx cy (fun _ => 0) a_treeLow a_treeHigh a_splitsByY w g) L' → (∀ k, ((k ∈ A ∧ le < sp) ∨ (k ∈ B ∧ sp ≤ mo) ∨ ∃ l, l ∈ L ∧ k ∈ l) → ∃ l, l ∈ L' ∧ k ∈ l) → zk_N List.length L' ≤ A.length + B.length + zk_N List.length L → J s (nI L'.length) (nI (t + 1)) f_live f_held f_treeRoot a_px a_py a_byX a_rowHead a_rowNext a_cell a_quad a_quadX a_quadY a_quadSide a_treeLow a_treeHigh a_splitsByY a_lessX a_lessY a_slice (w) (g)) :
    wX_insideTree_132 post J x1 x2 s (nI L.length) (nI t) (nI m) (nI sp) (nI le) (nI mo) f_live f_held f_treeRoot a_px a_py a_byX a_rowHead a_rowNext a_cell a_quad a_quadX a_quadY a_quadSide a_treeLow a_treeHigh a_splitsByY a_lessX a_lessY a_slice a_waiting a_waitingGap := by
  have e : (nI m).toNatClampNeg = m := nI_clamp (by omega)
  have hLn := zt_N2 hK
  have hpos : ∀ C : List Nat, C ≠ [] → 1 ≤ C.length := fun C hC => by
    cases C with
    | nil => exact absurd rfl hC
    | cons a C => simp
  -- the high side, behind any low side
  have key : ∀ (L1 : List (List Nat)) (w g : Nat → Int32), zk_K (zt_X al cx cy (fun _ => 0) a_treeLow a_treeHigh a_splitsByY w g) L1 → (∀ k, ((k ∈ A ∧ le < sp) ∨ ∃ l, l ∈ L ∧ k ∈ l) → ∃ l, l ∈ L1 ∧ k ∈ l) → zk_N List.length L1 ≤ A.length + zk_N List.length L →
      wX_insideTree_157 post J x1 x2 s (nI L1.length) (nI t) (nI m) (nI sp) (nI mo) f_live f_held f_treeRoot a_px a_py a_byX a_rowHead a_rowNext a_cell a_quad a_quadX a_quadY a_quadSide a_treeLow a_treeHigh a_splitsByY a_lessX a_lessY a_slice (w) (g) := by
    intro L1 w g k1 k2 k3
    have hL1 := zt_N2 k1
    refine pk_lt mo sp (fun z => nm_r (nI_1 t) (h L1 w g k1 (fun k z1 => ?_) (by omega))) (fun z => ⟨zx_i28 hm, ?_⟩)
    · rcases z1 with z1 | z1 | z1
      · exact k2 k (Or.inl z1)
      · exact absurd z1.2 (by omega)
      · exact k2 k (Or.inr z1)
    · rw [e]
      refine zx_pu k1 hTB hB (fun z1 => by have := hpos B z1; omega) (by omega) zx_00 (fun _ _ => Nat.le_refl 0) (fun L' w' g' q1 q2 q3 q4 => nm_r (nI_1 t) (h L' w' g' q1 (fun k z1 => ?_) (by omega)))
      rcases z1 with z1 | z1 | z1
      · exact q3 k (Or.inr (k2 k (Or.inl z1)))
      · exact q3 k (Or.inl z1.1)
      · exact q3 k (Or.inr (k2 k (Or.inr z1)))
  refine pk_le sp le (fun z => key L _ _ hK (fun k z1 => ?_) (by omega)) (fun z => ⟨zx_i28 hm, ?_⟩)
  · rcases z1 with z1 | z1
    · exact absurd z1.2 (by omega)
    · exact z1
  · rw [e]
    refine zx_pu hK hTA hA (fun z1 => by have := hpos A z1; omega) (by omega) zx_00 (fun _ _ => Nat.le_refl 0) (fun L' w' g' q1 q2 q3 q4 => key L' w' g' q1 (fun k z1 => ?_) (by omega))
    rcases z1 with z1 | z1
    · exact q3 k (Or.inl z1.1)
    · exact q3 k (Or.inr z1)
theorem zx_t59 {post : Int32 → SX → Prop} {J : Int32 → Int32 → Int32 → Int32 → Int32 → Int32 → (Nat → Int32) → (Nat → Int32) → (Nat → Int32) → (Nat → Int32) → (Nat → Int32) → (Nat → Int32) → (Nat → Int32) → (Nat → Int32) → (Nat → Int32) → (Nat → Int32) → (Nat → Int32) → (Nat → Int32) → (Nat → Int32) → (Nat → Int32) → (Nat → Int32) → (Nat → Int32) → (Nat → Int32) → (Nat → Int32) → Prop} {s : Int32} {L : List (List Nat)} {T : List Nat} {m t f lo hi : Nat} {b : Bool} (hP : zr_P cx cy a_px a_py) (hb : zr_b cx cy) (hm : m < 28) (hlo : lo < 4096) (hhi : hi < 4096)
    (hK : zk_K (zt_X al cx cy (fun _ => 0) a_treeLow a_treeHigh a_splitsByY a_waiting a_waitingGap) L) (hsy : a_splitsByY m = zt_b b) (hTA : zt_T cx cy a_treeLow a_treeHigh a_splitsByY f (T.filter (zt_lt cx cy b m)) (!b) (a_treeLow m)) (hTB : zt_T cx cy a_treeLow a_treeHigh a_splitsByY f (T.filter (zt_ge cx cy b m)) (!b) (a_treeHigh m))
    (hT : ∀ j, j ∈ T → j < 28 ∧ al j = true) (hl : T.length + zk_N List.length L ≤ 28)
    (h : ∀ L' w g, zk_K (zt_X al cx cy (fun _ => 0) a_treeLow a_treeHigh a_splitsByY w g) L' → (∀ k, zp_in lo hi (cx k) (cy k) = true → (k ∈ T ∨ ∃ l, l ∈ L ∧ k ∈ l) → ∃ l, l ∈ L' ∧ k ∈ l) → zk_N List.length L' ≤ T.length + zk_N List.length L → J s (nI L'.length) (nI (t + 1)) f_live f_held f_treeRoot a_px a_py a_byX a_rowHead a_rowNext a_cell a_quad a_quadX a_quadY a_quadSide a_treeLow a_treeHigh a_splitsByY a_lessX a_lessY a_slice (w) (g)) :
    wX_insideTree_59 post J (nI lo) (nI hi) s (nI L.length) (nI t) (nI m) f_live f_held f_treeRoot a_px a_py a_byX a_rowHead a_rowNext a_cell a_quad a_quadX a_quadY a_quadSide a_treeLow a_treeHigh a_splitsByY a_lessX a_lessY a_slice a_waiting a_waitingGap := by
  have e : (nI m).toNatClampNeg = m := nI_clamp (by omega)
  have hbm := hb m
  have hln := zt_ln cx cy b m T
  have key : wX_insideTree_132 post J (nI lo) (nI hi) s (nI L.length) (nI t) (nI m) (nI (zt_c b (cx m) (cy m))) (nI (zt_c b (lo % 64) (lo / 64))) (nI (zt_c b (hi % 64) (hi / 64))) f_live f_held f_treeRoot a_px a_py a_byX a_rowHead a_rowNext a_cell a_quad a_quadX a_quadY a_quadSide a_treeLow a_treeHigh a_splitsByY a_lessX a_lessY a_slice a_waiting a_waitingGap := by
    refine zx_t132 hm hK hTA hTB (fun j hj => hT j (List.mem_filter.mp hj).1) (fun j hj => hT j (List.mem_filter.mp hj).1) (by omega) (by unfold zt_c; split <;> omega) (by unfold zt_c; split <;> omega) (by unfold zt_c; split <;> omega) (fun L' w g q1 q2 q3 => h L' w g q1 (fun k z1 z2 => ?_) (by omega))
    rcases z2 with z2 | z2
    · rcases zt_mm cx cy b m z2 with z3 | z3
      · refine q2 k (Or.inl ⟨z3, ?_⟩)
        apply Classical.byContradiction
        intro z4
        exact zt_plo z3 (by omega) z1
      · refine q2 k (Or.inr (Or.inl ⟨z3, ?_⟩))
        apply Classical.byContradiction
        intro z4
        exact zt_phi z3 (by omega) z1
    · exact q2 k (Or.inr (Or.inr z2))
  cases b
  · have hsy0 : a_splitsByY (nI m).toNatClampNeg = 0 := by rw [e]; exact hsy
    refine ⟨zx_i28 hm, br_t hsy0 ⟨zx_i28 hm, ?_⟩⟩
    rw [zx_pxI hP hm]
    refine ⟨zx_i28 hm, br_t hsy0 (zx_xOf hlo ⟨zx_i28 hm, br_t hsy0 (zx_xOf hhi key)⟩)⟩
  · have hsy1 : ¬ a_splitsByY (nI m).toNatClampNeg = 0 := by rw [e, hsy]; decide
    refine ⟨zx_i28 hm, br_f hsy1 ⟨zx_i28 hm, ?_⟩⟩
    rw [zx_pyI hP hm]
    refine ⟨zx_i28 hm, br_f hsy1 (zx_yOf hlo ⟨zx_i28 hm, br_f hsy1 (zx_yOf hhi key)⟩)⟩
theorem zx_t17 {post : Int32 → SX → Prop} {lo hi : Nat} (hP : zr_P cx cy a_px a_py) (hb : zr_b cx cy) (hlo : lo < 4096) (hhi : hi < 4096)
    (h : ∀ r w g, zs_S r (fun k => al k && zp_in lo hi (cx k) (cy k)) → post r (f_live, f_held, f_treeRoot, a_px, a_py, a_byX, a_rowHead, a_rowNext, a_cell, a_quad, a_quadX, a_quadY, a_quadSide, a_treeLow, a_treeHigh, a_splitsByY, a_lessX, a_lessY, a_slice, w, g)) :
    ∀ d t (L : List (List Nat)) s (F : Nat → Bool) (w g : Nat → Int32), t + d = 28 → zk_N List.length L + t ≤ 28 → zk_K (zt_X al cx cy (fun _ => 0) a_treeLow a_treeHigh a_splitsByY w g) L → zs_S s F → zj_J (fun k => al k && zp_in lo hi (cx k) (cy k)) (fun l k => k ∈ l) F L → wX_insideTree_17 post (nI lo) (nI hi) (d + 1) s (nI L.length) (nI t) f_live f_held f_treeRoot a_px a_py a_byX a_rowHead a_rowNext a_cell a_quad a_quadX a_quadY a_quadSide a_treeLow a_treeHigh a_splitsByY a_lessX a_lessY a_slice (w) (g) := by
  intro d
  induction d with
  | zero =>
    intro t L s F w g ht hN hK hs hJ
    have hlen := zt_N2 hK
    have e : t = 28 := by omega
    have e2 : L = [] := List.eq_nil_of_length_eq_zero (by omega)
    subst e e2
    exact br_t zn_28t (h s w g (zs_cg hs (zj_end hJ)))
  | succ d ih =>
    intro t L s F w g ht hN hK hs hJ
    refine br_f (zn_28f (by omega)) ?_
    cases L with
    | nil => exact br_t (show nI 0 ≤ 0 by decide) (h s w g (zs_cg hs (zj_end hJ)))
    | cons l L =>
      have hLn := zt_N2 hK.2
      obtain ⟨⟨⟨hne, hal, f, b, hT⟩, _⟩, hK2⟩ := hK
      cases l with
      | nil => exact absurd rfl hne
      | cons m T =>
        have eN : zk_N List.length ((m :: T) :: L) = (T.length + 1) + zk_N List.length L := rfl
        obtain ⟨f', ef, er, hsy, hTA, hTB⟩ := zt_hd hT
        have hm := hal m (by simp)
        have ew : w (nI L.length).toNatClampNeg = nI m := by rw [nI_clamp (by omega)]; exact er
        refine br_f (nI_nle (n := L.length + 1) (by omega) (by omega)) (nm_r (pk_m1 _) ⟨zx_i341 (by omega), nm_r ew ?_⟩)
        refine zx_isIn hP hb hm.1 hlo hhi (fun z => br_f zn_z1 (nm_e (zx_t59 hP hb hm.1 hlo hhi hK2 hsy hTA hTB (fun j hj => hal j (by simp [hj])) (by omega) (fun L' w' g' q1 q2 q3 => ih (t + 1) L' _ _ w' g' (by omega) (by omega) q1 (zs_set hs hm.1) (zj_mv hJ (fun k hk z1 => ?_) (fun k hk z1 => ?_) (fun k l hk z1 z2 z3 => ?_)))))) (fun z => br_t rfl (zx_t59 hP hb hm.1 hlo hhi hK2 hsy hTA hTB (fun j hj => hal j (by simp [hj])) (by omega) (fun L' w' g' q1 q2 q3 => ih (t + 1) L' _ _ w' g' (by omega) (by omega) q1 hs (zj_mv hJ (fun k hk z1 => z1) hJ.1 (fun k l hk z1 z2 z3 => ?_)))))
        · show (F k || decide (k = m)) = true
          rw [z1]; rfl
        · rcases (Bool.or_eq_true _ _).mp z1 with z2 | z2
          · exact hJ.1 k hk z2
          · have e : k = m := of_decide_eq_true z2
            show (al k && zp_in lo hi (cx k) (cy k)) = true
            rw [e, hm.2, z]; rfl
        · have zX := ((Bool.and_eq_true _ _).mp z1).2
          rcases List.mem_cons.mp z2 with e | e
          · subst e
            rcases List.mem_cons.mp z3 with e | e
            · left
              show (F k || decide (k = m)) = true
              rw [decide_eq_true e]; simp
            · exact Or.inr (q2 k zX (Or.inl e))
          · exact Or.inr (q2 k zX (Or.inr ⟨l, e, z3⟩))
        · have zX := ((Bool.and_eq_true _ _).mp z1).2
          rcases List.mem_cons.mp z2 with e | e
          · subst e
            rcases List.mem_cons.mp z3 with e | e
            · subst e
              rw [z] at zX
              exact absurd zX (by decide)
            · exact Or.inr (q2 k zX (Or.inl e))
          · exact Or.inr (q2 k zX (Or.inr ⟨l, e, z3⟩))
theorem zx_insideTree {post : Int32 → SX → Prop} {lo hi : Nat} (hP : zr_P cx cy a_px a_py) (hb : zr_b cx cy) (hT : zr_T al cx cy f_treeRoot a_treeLow a_treeHigh a_splitsByY) (hlo : lo < 4096) (hhi : hi < 4096)
    (h : ∀ r w g, zs_S r (fun k => al k && zp_in lo hi (cx k) (cy k)) → post r (f_live, f_held, f_treeRoot, a_px, a_py, a_byX, a_rowHead, a_rowNext, a_cell, a_quad, a_quadX, a_quadY, a_quadSide, a_treeLow, a_treeHigh, a_splitsByY, a_lessX, a_lessY, a_slice, w, g)) : wpX_insideTree post (f_live, f_held, f_treeRoot, a_px, a_py, a_byX, a_rowHead, a_rowNext, a_cell, a_quad, a_quadX, a_quadY, a_quadSide, a_treeLow, a_treeHigh, a_splitsByY, a_lessX, a_lessY, a_slice, a_waiting, a_waitingGap) (nI lo) (nI hi) := by
  unfold wpX_insideTree
  obtain ⟨T, f, hM, hT2⟩ := hT
  have hlen := zl_len hM
  refine zx_pu (q := fun _ => 0) (L := []) (dd := 0) trivial hT2 (fun j hj => (hM.2 j).mp hj) (fun _ => by decide) (by omega) zx_00 (fun _ _ => Nat.le_refl 0) (fun L' w g q1 q2 q3 q4 => ⟨29, zx_t17 hP hb hlo hhi h 28 0 L' 0 (fun _ => false) w g rfl ?_ q1 zs_0 ⟨fun k _ z => absurd (show false = true from z) (by decide), fun k hk z => Or.inr (q3 k (Or.inl ?_))⟩⟩)
  · rw [q4]
    show T.length + 0 + 0 ≤ 28
    omega
  · exact (hM.2 k).mpr ⟨hk, ((Bool.and_eq_true _ _).mp z).1⟩
/-! the nearest by the tree -/
theorem zn_sg {a b : Nat} (ha : a < 64) (hb : b < 64) {A B : Prop} (f : b ≤ a → A) (g : a < b → B) : (0 ≤ nI a - nI b → A) ∧ (¬ 0 ≤ nI a - nI b → B) := by
  by_cases h : b ≤ a
  · refine br_t ?_ (f h)
    rw [pk_sub h]
    exact nI_pos' (by omega)
  · exact br_f (Int32.not_le.mpr (pk_sneg (by omega) (by omega))) (g (by omega))
theorem zx_n151 {post : Int32 → SX → Prop} {J : Int32 → Int32 → Int32 → Int32 → Int32 → Int32 → (Nat → Int32) → (Nat → Int32) → (Nat → Int32) → (Nat → Int32) → (Nat → Int32) → (Nat → Int32) → (Nat → Int32) → (Nat → Int32) → (Nat → Int32) → (Nat → Int32) → (Nat → Int32) → (Nat → Int32) → (Nat → Int32) → (Nat → Int32) → (Nat → Int32) → (Nat → Int32) → (Nat → Int32) → (Nat → Int32) → Prop} {x1 best g7 g6 rA rB : Int32} {q : Nat → Nat} {L : List (List Nat)} {A B : List Nat} {t f dA dB : Nat} {b : Bool}
    (hK : zk_K (zt_X al cx cy q a_treeLow a_treeHigh a_splitsByY a_waiting a_waitingGap) L) (hTA : zt_T cx cy a_treeLow a_treeHigh a_splitsByY f A b rA) (hTB : zt_T cx cy a_treeLow a_treeHigh a_splitsByY f B b rB)
    (hA : ∀ j, j ∈ A → j < 28 ∧ al j = true) (hB : ∀ j, j ∈ B → j < 28 ∧ al j = true) (hl : A.length + B.length + zk_N List.length L ≤ 28)
    (hdA : dA ≤ 8192) (hgA : g7 * g7 = nI dA) (hqA : ∀ j, j ∈ A → dA ≤ q j) (hdB : dB ≤ 8192) (hgB : g6 * g6 = nI dB) (hqB : ∀ j, j ∈ B → dB ≤ q j)
    (h : ∀ L' w g, zk_K (zt_X al cx cy q a_treeLow a_treeHigh a_splitsByY w g) L' → (∀ k, (k ∈ A ∨ k ∈ B ∨ ∃ l, l ∈ L ∧ k ∈ l) → ∃ l, l ∈ L' ∧ k ∈ l) → zk_N List.length L' ≤ A.length + B.length + zk_N List.length L → J best (nI L'.length) (nI (t + 1)) f_live f_held f_treeRoot a_px a_py a_byX a_rowHead a_rowNext a_cell a_quad a_quadX a_quadY a_quadSide a_treeLow a_treeHigh a_splitsByY a_lessX a_lessY a_slice (w) (g)) :
    wX_nearestTree_151 post J x1 best (nI L.length) (nI t) g6 g7 rA rB f_live f_held f_treeRoot a_px a_py a_byX a_rowHead a_rowNext a_cell a_quad a_quadX a_quadY a_quadSide a_treeLow a_treeHigh a_splitsByY a_lessX a_lessY a_slice a_waiting a_waitingGap := by
  have hLn := zt_N2 hK
  have hpos : ∀ C : List Nat, C ≠ [] → 1 ≤ C.length := fun C hC => by
    cases C with
    | nil => exact absurd rfl hC
    | cons a C => simp
  unfold wX_nearestTree_151
  refine zx_pu hK hTA hA (fun z1 => by have := hpos A z1; omega) hdA hgA hqA (fun L1 w1 g1 q1 q2 q3 q4 => ?_)
  have hL1 := zt_N2 q1
  refine zx_pu q1 hTB hB (fun z1 => by have := hpos B z1; omega) hdB hgB hqB (fun L2 w2 g2 p1 p2 p3 p4 => nm_r (nI_1 t) (h L2 w2 g2 p1 (fun k z => ?_) (by omega)))
  rcases z with z | z | z
  · exact p3 k (Or.inr (q3 k (Or.inl z)))
  · exact p3 k (Or.inl z)
  · exact p3 k (Or.inr (q3 k (Or.inr z)))
theorem zx_n103 {post : Int32 → SX → Prop} {J : Int32 → Int32 → Int32 → Int32 → Int32 → Int32 → (Nat → Int32) → (Nat → Int32) → (Nat → Int32) → (Nat → Int32) → (Nat → Int32) → (Nat → Int32) → (Nat → Int32) → (Nat → Int32) → (Nat → Int32) → (Nat → Int32) → (Nat → Int32) → (Nat → Int32) → (Nat → Int32) → (Nat → Int32) → (Nat → Int32) → (Nat → Int32) → (Nat → Int32) → (Nat → Int32) → Prop} {x1 best g6 : Int32} {L : List (List Nat)} {T : List Nat} {p m t f dB : Nat} {b : Bool} (hb : zr_b cx cy) (hm : m < 28) (hp : p < 4096)
    (hK : zk_K (zt_X al cx cy (zp_f cx cy p) a_treeLow a_treeHigh a_splitsByY a_waiting a_waitingGap) L) (hTA : zt_T cx cy a_treeLow a_treeHigh a_splitsByY f (T.filter (zt_lt cx cy b m)) (!b) (a_treeLow m)) (hTB : zt_T cx cy a_treeLow a_treeHigh a_splitsByY f (T.filter (zt_ge cx cy b m)) (!b) (a_treeHigh m))
    (hT : ∀ j, j ∈ T → j < 28 ∧ al j = true) (hl : T.length + zk_N List.length L ≤ 28) (hdB : dB ≤ 8192) (hgB : g6 * g6 = nI dB) (hqB : ∀ j, j ∈ T → dB ≤ zp_f cx cy p j)
    (h : ∀ L' w g, zk_K (zt_X al cx cy (zp_f cx cy p) a_treeLow a_treeHigh a_splitsByY w g) L' → (∀ k, (k ∈ T ∨ ∃ l, l ∈ L ∧ k ∈ l) → ∃ l, l ∈ L' ∧ k ∈ l) → zk_N List.length L' ≤ T.length + zk_N List.length L → J best (nI L'.length) (nI (t + 1)) f_live f_held f_treeRoot a_px a_py a_byX a_rowHead a_rowNext a_cell a_quad a_quadX a_quadY a_quadSide a_treeLow a_treeHigh a_splitsByY a_lessX a_lessY a_slice (w) (g)) :
    wX_nearestTree_103 post J x1 best (nI L.length) (nI t) (nI m) g6 (nI (zt_c b (p % 64) (p / 64)) - nI (zt_c b (cx m) (cy m))) f_live f_held f_treeRoot a_px a_py a_byX a_rowHead a_rowNext a_cell a_quad a_quadX a_quadY a_quadSide a_treeLow a_treeHigh a_splitsByY a_lessX a_lessY a_slice a_waiting a_waitingGap := by
  have e : (nI m).toNatClampNeg = m := nI_clamp (by omega)
  have hbm := hb m
  have hln := zt_ln cx cy b m T
  have h1 : zt_c b (p % 64) (p / 64) < 64 := by unfold zt_c; split <;> omega
  have h2 : zt_c b (cx m) (cy m) < 64 := by unfold zt_c; split <;> omega
  have hdd : zn_d (zt_c b (p % 64) (p / 64)) (zt_c b (cx m) (cy m)) * zn_d (zt_c b (p % 64) (p / 64)) (zt_c b (cx m) (cy m)) ≤ 8192 := by
    have := zn_sq (zn_dl h1 h2)
    omega
  have hcov : ∀ k, (k ∈ T ∨ ∃ l, l ∈ L ∧ k ∈ l) → k ∈ T.filter (zt_lt cx cy b m) ∨ k ∈ T.filter (zt_ge cx cy b m) ∨ ∃ l, l ∈ L ∧ k ∈ l := fun k z => by
    rcases z with z | z
    · rcases zt_mm cx cy b m z with z | z
      · exact Or.inl z
      · exact Or.inr (Or.inl z)
    · exact Or.inr (Or.inr z)
  have hcov2 : ∀ k, (k ∈ T ∨ ∃ l, l ∈ L ∧ k ∈ l) → k ∈ T.filter (zt_ge cx cy b m) ∨ k ∈ T.filter (zt_lt cx cy b m) ∨ ∃ l, l ∈ L ∧ k ∈ l := fun k z => by
    rcases hcov k z with z | z | z
    · exact Or.inr (Or.inl z)
    · exact Or.inl z
    · exact Or.inr (Or.inr z)
  refine zn_sg h1 h2 (fun z => ⟨zx_i28 hm, zn_sg h1 h2 (fun _ => ⟨zx_i28 hm, ?_⟩) (fun z2 => absurd z2 (by omega))⟩) (fun z => ⟨zx_i28 hm, zn_sg h1 h2 (fun z2 => absurd z2 (by omega)) (fun _ => ⟨zx_i28 hm, ?_⟩)⟩)
  · rw [e]
    exact zx_n151 hK hTA hTB (fun j hj => hT j (List.mem_filter.mp hj).1) (fun j hj => hT j (List.mem_filter.mp hj).1) (by omega) hdd (zn_dd _ _) (fun j hj => zt_flo hj z) hdB hgB (fun j hj => hqB j (List.mem_filter.mp hj).1) (fun L' w g q1 q2 q3 => h L' w g q1 (fun k z3 => q2 k (hcov k z3)) (by omega))
  · rw [e]
    exact zx_n151 hK hTB hTA (fun j hj => hT j (List.mem_filter.mp hj).1) (fun j hj => hT j (List.mem_filter.mp hj).1) (by omega) hdd (zn_dd _ _) (fun j hj => zt_fhi hj z) hdB hgB (fun j hj => hqB j (List.mem_filter.mp hj).1) (fun L' w g q1 q2 q3 => h L' w g q1 (fun k z3 => q2 k (hcov2 k z3)) (by omega))
theorem zx_n16 {post : Int32 → SX → Prop} {p : Nat} (hP : zr_P cx cy a_px a_py) (hb : zr_b cx cy) (hp : p < 4096)
    (h : ∀ r w g, zo_B al (zp_f cx cy p) r (fun k => al k = true) → post r (f_live, f_held, f_treeRoot, a_px, a_py, a_byX, a_rowHead, a_rowNext, a_cell, a_quad, a_quadX, a_quadY, a_quadSide, a_treeLow, a_treeHigh, a_splitsByY, a_lessX, a_lessY, a_slice, w, g)) :
    ∀ d t (L : List (List Nat)) best (w g : Nat → Int32), t + d = 28 → zk_N List.length L + t ≤ 28 → zk_K (zt_X al cx cy (zp_f cx cy p) a_treeLow a_treeHigh a_splitsByY w g) L → zo_B al (zp_f cx cy p) best (fun k => al k = true ∧ ∀ l, l ∈ L → k ∉ l) → wX_nearestTree_16 post (nI p) (d + 1) best (nI L.length) (nI t) f_live f_held f_treeRoot a_px a_py a_byX a_rowHead a_rowNext a_cell a_quad a_quadX a_quadY a_quadSide a_treeLow a_treeHigh a_splitsByY a_lessX a_lessY a_slice (w) (g) := by
  intro d
  induction d with
  | zero =>
    intro t L best w g ht hN hK hB
    have hlen := zt_N2 hK
    have e : t = 28 := by omega
    have e2 : L = [] := List.eq_nil_of_length_eq_zero (by omega)
    subst e e2
    exact br_t zn_28t (h best w g (zo_cg hB (fun k _ z => ⟨z, fun l hl => absurd hl (by simp)⟩)))
  | succ d ih =>
    intro t L best w g ht hN hK hB
    refine br_f (zn_28f (by omega)) ?_
    cases L with
    | nil => exact br_t (show nI 0 ≤ 0 by decide) (h best w g (zo_cg hB (fun k _ z => ⟨z, fun l hl => absurd hl (by simp)⟩)))
    | cons l L =>
      have hLn := zt_N2 hK.2
      obtain ⟨⟨⟨hne, hal, f, b, hT⟩, dd, hdd, hgg, hqq⟩, hK2⟩ := hK
      cases l with
      | nil => exact absurd rfl hne
      | cons m T =>
        have eN : zk_N List.length ((m :: T) :: L) = (T.length + 1) + zk_N List.length L := rfl
        obtain ⟨f', ef, er, hsy, hTA, hTB⟩ := zt_hd hT
        have hm := hal m (by simp)
        have em : (nI m).toNatClampNeg = m := nI_clamp (by omega)
        have ew : w (nI L.length).toNatClampNeg = nI m := by rw [nI_clamp (by omega)]; exact er
        have eg : g (nI L.length).toNatClampNeg = g L.length := by rw [nI_clamp (by omega)]
        refine br_f (nI_nle (n := L.length + 1) (by omega) (by omega)) (nm_r (pk_m1 _) ⟨zx_i341 (by omega), nm_r ew ⟨zx_i28 (by omega), nm_r eg ?_⟩⟩)
        refine zx_reach hP hb hp hB hdd hgg (br_f zn_z1 ?_) (fun hr => br_t rfl (nm_r (nI_1 t) (ih (t + 1) L best w g (by omega) (by omega) hK2 (zo_cut hB hr (fun k hk z => ?_)))))
        · refine zx_nearerOf hP hb hp hB hm.1 hm.2 (fun r hr => ⟨zx_i28 hm.1, ?_⟩)
          have key : wX_nearestTree_103 post (wX_nearestTree_16 post (nI p) (d + 1)) (nI p) r (nI L.length) (nI t) (nI m) (g L.length) (nI (zt_c b (p % 64) (p / 64)) - nI (zt_c b (cx m) (cy m))) f_live f_held f_treeRoot a_px a_py a_byX a_rowHead a_rowNext a_cell a_quad a_quadX a_quadY a_quadSide a_treeLow a_treeHigh a_splitsByY a_lessX a_lessY a_slice (w) (g) := by
            refine zx_n103 hb hm.1 hp hK2 hTA hTB (fun j hj => hal j (by simp [hj])) (by omega) hdd hgg (fun j hj => hqq j (by simp [hj])) (fun L' w' g' q1 q2 q3 => ih (t + 1) L' r w' g' (by omega) (by omega) q1 (zo_cg hr (fun k hk z => ?_)))
            by_cases e : k = m
            · exact Or.inr e
            · refine Or.inl ⟨z.1, fun l hl hkl => ?_⟩
              rcases List.mem_cons.mp hl with e2 | e2
              · subst e2
                rcases List.mem_cons.mp hkl with e3 | e3
                · exact e e3
                · obtain ⟨l', q5, q6⟩ := q2 k (Or.inl e3)
                  exact z.2 l' q5 q6
              · obtain ⟨l', q5, q6⟩ := q2 k (Or.inr ⟨l, e2, hkl⟩)
                exact z.2 l' q5 q6
          cases b
          · have hsy0 : a_splitsByY (nI m).toNatClampNeg = 0 := by rw [em]; exact hsy
            refine br_t hsy0 (zx_xOf hp ⟨zx_i28 hm.1, ?_⟩)
            rw [zx_pxI hP hm.1]
            exact key
          · have hsy1 : ¬ a_splitsByY (nI m).toNatClampNeg = 0 := by rw [em, hsy]; decide
            refine br_f hsy1 (zx_yOf hp ⟨zx_i28 hm.1, ?_⟩)
            rw [zx_pyI hP hm.1]
            exact key
        · by_cases e : k ∈ m :: T
          · exact Or.inr (hqq k e)
          · refine Or.inl ⟨z.1, fun l hl => ?_⟩
            rcases List.mem_cons.mp hl with e2 | e2
            · rw [e2]; exact e
            · exact z.2 l e2
theorem zx_nearestTree {post : Int32 → SX → Prop} {p : Nat} (hP : zr_P cx cy a_px a_py) (hb : zr_b cx cy) (hT : zr_T al cx cy f_treeRoot a_treeLow a_treeHigh a_splitsByY) (hp : p < 4096)
    (h : ∀ r w g, zo_B al (zp_f cx cy p) r (fun k => al k = true) → post r (f_live, f_held, f_treeRoot, a_px, a_py, a_byX, a_rowHead, a_rowNext, a_cell, a_quad, a_quadX, a_quadY, a_quadSide, a_treeLow, a_treeHigh, a_splitsByY, a_lessX, a_lessY, a_slice, w, g)) : wpX_nearestTree post (f_live, f_held, f_treeRoot, a_px, a_py, a_byX, a_rowHead, a_rowNext, a_cell, a_quad, a_quadX, a_quadY, a_quadSide, a_treeLow, a_treeHigh, a_splitsByY, a_lessX, a_lessY, a_slice, a_waiting, a_waitingGap) (nI p) := by
  unfold wpX_nearestTree
  obtain ⟨T, f, hM, hT2⟩ := hT
  have hlen := zl_len hM
  refine zx_pu (q := zp_f cx cy p) (L := []) (dd := 0) trivial hT2 (fun j hj => (hM.2 j).mp hj) (fun _ => by decide) (by omega) zx_00 (fun _ _ => Nat.zero_le _) (fun L' w g q1 q2 q3 q4 => ⟨29, zx_n16 hP hb hp h 28 0 L' (-1) w g rfl ?_ q1 (zo_0 _ _ (fun k hk z => ?_))⟩)
  · rw [q4]
    show T.length + 0 + 0 ≤ 28
    omega
  · obtain ⟨l, q5, q6⟩ := q3 k (Or.inl ((hM.2 k).mpr ⟨hk, z.1⟩))
    exact z.2 l q5 q6
end
