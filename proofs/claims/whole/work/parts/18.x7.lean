/-! ===== the component: the tree grown, the bounds, the slices, the quads laid out ===== -/
section
variable {f_live f_held f_treeRoot : Int32} {a_px a_py a_byX a_rowHead a_rowNext a_cell a_quad a_quadX a_quadY a_quadSide a_treeLow a_treeHigh a_splitsByY a_lessX a_lessY a_slice a_waiting a_waitingGap : Nat → Int32} {al al' : Nat → Bool} {cx cy : Nat → Nat} {post : SX → Prop}
theorem zx_g122 {J : Int32 → Int32 → Prop} {x1 x2 x4 z0 : Int32} {t : Nat} (h1 : z0 = -1 → wpX_hang (fun u => match u with | (f_live, f_held, f_treeRoot, a_px, a_py, a_byX, a_rowHead, a_rowNext, a_cell, a_quad, a_quadX, a_quadY, a_quadSide, a_treeLow, a_treeHigh, a_splitsByY, a_lessX, a_lessY, a_slice, a_waiting, a_waitingGap) => post (f_live, f_held, f_treeRoot, a_px, a_py, a_byX, a_rowHead, a_rowNext, a_cell, a_quad, a_quadX, a_quadY, a_quadSide, a_treeLow, a_treeHigh, a_splitsByY, a_lessX, a_lessY, a_slice, a_waiting, a_waitingGap)) (f_live, f_held, f_treeRoot, a_px, a_py, a_byX, a_rowHead, a_rowNext, a_cell, a_quad, a_quadX, a_quadY, a_quadSide, a_treeLow, a_treeHigh, a_splitsByY, a_lessX, a_lessY, a_slice, a_waiting, a_waitingGap) x1 x2 x4) (h2 : ¬ z0 = -1 → J z0 (nI (t + 1))) : wX_growTree_122 post J x1 x2 (nI t) x4 z0 f_live f_held f_treeRoot a_px a_py a_byX a_rowHead a_rowNext a_cell a_quad a_quadX a_quadY a_quadSide a_treeLow a_treeHigh a_splitsByY a_lessX a_lessY a_slice a_waiting a_waitingGap := br_c h1 (fun z => nm_r (nI_1 t) (h2 z))
theorem zx_hangL {k m : Nat} {b : Bool} (hk : k < 28) (hm : m < 28) (hs : a_splitsByY m = zt_b b) (h : post (f_live, f_held, f_treeRoot, a_px, a_py, a_byX, a_rowHead, a_rowNext, a_cell, a_quad, a_quadX, a_quadY, a_quadSide, upd a_treeLow m (nI k), a_treeHigh, upd a_splitsByY k (zt_b (!b)), a_lessX, a_lessY, a_slice, a_waiting, a_waitingGap)) : wpX_hang post (f_live, f_held, f_treeRoot, a_px, a_py, a_byX, a_rowHead, a_rowNext, a_cell, a_quad, a_quadX, a_quadY, a_quadSide, a_treeLow, a_treeHigh, a_splitsByY, a_lessX, a_lessY, a_slice, a_waiting, a_waitingGap) (nI k) (nI m) 1 := by
  have e1 : (nI k).toNatClampNeg = k := nI_clamp (by omega)
  have e2 : (nI m).toNatClampNeg = m := nI_clamp (by omega)
  refine ⟨zx_i28 hm, ?_⟩
  rw [e2, hs]
  cases b
  · exact br_t rfl ⟨zx_i28 hk, nm_r (e' := upd a_splitsByY k 1) (by rw [e1, zx_nb1]) (br_f zn_z1 ⟨zx_i28 hm, nm_r (e' := upd a_treeLow m (nI k)) (by rw [e2]) h⟩)⟩
  · exact br_f (by decide) ⟨zx_i28 hk, nm_r (e' := upd a_splitsByY k 0) (by rw [e1, zx_nb0]) (br_f zn_z1 ⟨zx_i28 hm, nm_r (e' := upd a_treeLow m (nI k)) (by rw [e2]) h⟩)⟩
theorem zx_hangH {k m : Nat} {b : Bool} (hk : k < 28) (hm : m < 28) (hs : a_splitsByY m = zt_b b) (h : post (f_live, f_held, f_treeRoot, a_px, a_py, a_byX, a_rowHead, a_rowNext, a_cell, a_quad, a_quadX, a_quadY, a_quadSide, a_treeLow, upd a_treeHigh m (nI k), upd a_splitsByY k (zt_b (!b)), a_lessX, a_lessY, a_slice, a_waiting, a_waitingGap)) : wpX_hang post (f_live, f_held, f_treeRoot, a_px, a_py, a_byX, a_rowHead, a_rowNext, a_cell, a_quad, a_quadX, a_quadY, a_quadSide, a_treeLow, a_treeHigh, a_splitsByY, a_lessX, a_lessY, a_slice, a_waiting, a_waitingGap) (nI k) (nI m) 0 := by
  have e1 : (nI k).toNatClampNeg = k := nI_clamp (by omega)
  have e2 : (nI m).toNatClampNeg = m := nI_clamp (by omega)
  refine ⟨zx_i28 hm, ?_⟩
  rw [e2, hs]
  cases b
  · exact br_t rfl ⟨zx_i28 hk, nm_r (e' := upd a_splitsByY k 1) (by rw [e1, zx_nb1]) (br_t rfl ⟨zx_i28 hm, nm_r (e' := upd a_treeHigh m (nI k)) (by rw [e2]) h⟩)⟩
  · exact br_f (by decide) ⟨zx_i28 hk, nm_r (e' := upd a_splitsByY k 0) (by rw [e1, zx_nb0]) (br_t rfl ⟨zx_i28 hm, nm_r (e' := upd a_treeHigh m (nI k)) (by rw [e2]) h⟩)⟩
theorem zx_g42 (hP : zr_P cx cy a_px a_py) (hb : zr_b cx cy) {k : Nat} (hk : k < 28) (hk1 : a_treeLow k = -1) (hk2 : a_treeHigh k = -1) :
    ∀ (f : Nat) (m : Nat) (t : List Nat) (b : Bool) (dp n : Nat), zt_T cx cy a_treeLow a_treeHigh a_splitsByY f (m :: t) b (nI m) → (m :: t).Nodup → k ∉ m :: t → (∀ j, j ∈ m :: t → j < 28) → (m :: t).length + dp ≤ 28 → (m :: t).length ≤ n → (∀ lo hi sy, zt_D cx cy a_treeLow a_treeHigh a_splitsByY lo hi sy k (f + 1) (m :: t) b (nI m) → post (f_live, f_held, f_treeRoot, a_px, a_py, a_byX, a_rowHead, a_rowNext, a_cell, a_quad, a_quadX, a_quadY, a_quadSide, lo, hi, sy, a_lessX, a_lessY, a_slice, a_waiting, a_waitingGap)) → wX_growTree_42 post (nI k) f_live f_held f_treeRoot a_px a_py a_byX a_rowHead a_rowNext a_cell a_quad a_quadX a_quadY a_quadSide a_treeLow a_treeHigh a_splitsByY a_lessX a_lessY a_slice a_waiting a_waitingGap n (nI m) (nI dp) := by
  intro f
  induction f with
  | zero =>
    intro m t b dp n hT
    have hT' : m :: t = [] ∧ nI m = -1 := hT
    exact absurd hT'.1 (by simp)
  | succ f ih =>
    intro m t b dp n hT hnd hkt h28 hlen hfu h
    obtain ⟨_, hsy, hTA, hTB⟩ := hT
    obtain ⟨n1, n2⟩ := List.nodup_cons.mp hnd
    have hm := h28 m (by simp)
    have hbm := hb m
    have hbk := hb k
    have e2 : (nI m).toNatClampNeg = m := nI_clamp (by omega)
    cases n with
    | zero => exact absurd hfu (by simp)
    | succ n =>
      rw [List.length_cons] at hlen hfu
      have hln := zt_ln cx cy b m t
      -- the low side
      have hlow : zt_lt cx cy b m k = true → wX_growTree_100 post (wX_growTree_42 post (nI k) f_live f_held f_treeRoot a_px a_py a_byX a_rowHead a_rowNext a_cell a_quad a_quadX a_quadY a_quadSide a_treeLow a_treeHigh a_splitsByY a_lessX a_lessY a_slice a_waiting a_waitingGap n) (nI k) (nI m) (nI dp) 1 f_live f_held f_treeRoot a_px a_py a_byX a_rowHead a_rowNext a_cell a_quad a_quadX a_quadY a_quadSide a_treeLow a_treeHigh a_splitsByY a_lessX a_lessY a_slice a_waiting a_waitingGap := by
        intro hlt
        refine br_f zn_z1 ⟨zx_i28 hm, ?_⟩
        rw [e2]
        cases hA : t.filter (zt_lt cx cy b m) with
        | nil =>
          rw [hA] at hTA
          exact zx_g122 (fun _ => zx_hangL hk hm hsy (h _ _ _ (zt_lo1 hkt n1 hlt hsy hTB hA hk1 hk2))) (fun z => absurd (zt_nil hTA) z)
        | cons p t2 =>
          have hp : ∀ j, j ∈ p :: t2 → j ∈ t := fun j hj => (List.mem_filter.mp (by rw [hA]; exact hj)).1
          have hA2 := hTA
          rw [hA] at hTA
          have er : a_treeLow m = nI p := (zt_hd hTA).choose_spec.2.1
          have hp28 := h28 p (List.mem_cons_of_mem _ (hp p (by simp)))
          rw [er]
          rw [er] at hTA
          refine zx_g122 (fun z => absurd z (zn_n1 (by omega))) (fun _ => ih p t2 (!b) (dp + 1) n hTA ?_ (fun z => hkt (List.mem_cons_of_mem _ (hp k z))) (fun j hj => h28 j (List.mem_cons_of_mem _ (hp j hj))) ?_ ?_ (fun lo hi sy hD => h lo hi sy (zt_lo2 hkt n1 hlt hsy hTB ?_)))
          · rw [← hA]; exact List.Pairwise.filter _ n2
          · rw [hA] at hln; omega
          · rw [hA] at hln; omega
          · rw [hA, er]; exact hD
      have hhigh : zt_lt cx cy b m k = false → wX_growTree_100 post (wX_growTree_42 post (nI k) f_live f_held f_treeRoot a_px a_py a_byX a_rowHead a_rowNext a_cell a_quad a_quadX a_quadY a_quadSide a_treeLow a_treeHigh a_splitsByY a_lessX a_lessY a_slice a_waiting a_waitingGap n) (nI k) (nI m) (nI dp) 0 f_live f_held f_treeRoot a_px a_py a_byX a_rowHead a_rowNext a_cell a_quad a_quadX a_quadY a_quadSide a_treeLow a_treeHigh a_splitsByY a_lessX a_lessY a_slice a_waiting a_waitingGap := by
        intro hlt
        refine br_t rfl ⟨zx_i28 hm, ?_⟩
        rw [e2]
        cases hA : t.filter (zt_ge cx cy b m) with
        | nil =>
          rw [hA] at hTB
          exact zx_g122 (fun _ => zx_hangH hk hm hsy (h _ _ _ (zt_hi1 hkt n1 hlt hsy hTA hA hk1 hk2))) (fun z => absurd (zt_nil hTB) z)
        | cons p t2 =>
          have hp : ∀ j, j ∈ p :: t2 → j ∈ t := fun j hj => (List.mem_filter.mp (by rw [hA]; exact hj)).1
          rw [hA] at hTB
          have er : a_treeHigh m = nI p := (zt_hd hTB).choose_spec.2.1
          have hp28 := h28 p (List.mem_cons_of_mem _ (hp p (by simp)))
          rw [er]
          rw [er] at hTB
          refine zx_g122 (fun z => absurd z (zn_n1 (by omega))) (fun _ => ih p t2 (!b) (dp + 1) n hTB ?_ (fun z => hkt (List.mem_cons_of_mem _ (hp k z))) (fun j hj => h28 j (List.mem_cons_of_mem _ (hp j hj))) ?_ ?_ (fun lo hi sy hD => h lo hi sy (zt_hi2 hkt n1 hlt hsy hTA ?_)))
          · rw [← hA]; exact List.Pairwise.filter _ n2
          · rw [hA] at hln; omega
          · rw [hA] at hln; omega
          · rw [hA, er]; exact hD
      refine br_f (zn_28f (by omega)) ⟨zx_i28 hm, ?_⟩
      cases b
      · have hsy0 : a_splitsByY (nI m).toNatClampNeg = 0 := by rw [e2]; exact hsy
        refine br_t hsy0 ⟨zx_i28 hk, zx_i28 hm, pk_le (cx m) (cx k) (fun z => hhigh ?_) (fun z => hlow ?_) (zx_pxI hP hm) (zx_pxI hP hk)⟩
        · exact decide_eq_false (by omega : ¬ cx k < cx m)
        · exact decide_eq_true z
      · have hsy1 : ¬ a_splitsByY (nI m).toNatClampNeg = 0 := by rw [e2, hsy]; decide
        refine br_f hsy1 ⟨zx_i28 hk, zx_i28 hm, pk_le (cy m) (cy k) (fun z => hhigh ?_) (fun z => hlow ?_) (zx_pyI hP hm) (zx_pyI hP hk)⟩
        · exact decide_eq_false (by omega : ¬ cy k < cy m)
        · exact decide_eq_true z
theorem zx_grow (hP : zr_P cx cy a_px a_py) (hb : zr_b cx cy) {k f : Nat} {T : List Nat} (hk : k < 28) (hT : zt_T cx cy a_treeLow a_treeHigh a_splitsByY f T false f_treeRoot) (hnd : T.Nodup) (hkT : k ∉ T) (h28 : ∀ j, j ∈ T → j < 28) (hlen : T.length ≤ 28)
    (h : ∀ root lo hi sy g, zt_T cx cy lo hi sy g (T ++ [k]) false root → post (f_live, f_held, root, a_px, a_py, a_byX, a_rowHead, a_rowNext, a_cell, a_quad, a_quadX, a_quadY, a_quadSide, lo, hi, sy, a_lessX, a_lessY, a_slice, a_waiting, a_waitingGap)) : wpX_growTree post (f_live, f_held, f_treeRoot, a_px, a_py, a_byX, a_rowHead, a_rowNext, a_cell, a_quad, a_quadX, a_quadY, a_quadSide, a_treeLow, a_treeHigh, a_splitsByY, a_lessX, a_lessY, a_slice, a_waiting, a_waitingGap) (nI k) := by
  have e1 : (nI k).toNatClampNeg = k := nI_clamp (by omega)
  refine ⟨zx_i28 hk, nm_r (e' := upd a_treeLow k (-1)) (by rw [e1]) ⟨zx_i28 hk, nm_r (e' := upd a_treeHigh k (-1)) (by rw [e1]) ⟨zx_i28 hk, nm_r (e' := upd a_splitsByY k 0) (by rw [e1, zx_nb0]) ?_⟩⟩⟩
  have hT2 : zt_T cx cy (upd a_treeLow k (-1)) (upd a_treeHigh k (-1)) (upd a_splitsByY k 0) f T false f_treeRoot := zt_fr _ _ _ _ (fun j hj => by
    have hne : j ≠ k := fun e => hkT (by rw [← e]; exact hj)
    exact ⟨rfl, rfl, pk_un hne, pk_un hne, pk_un hne⟩) hT
  cases T with
  | nil =>
    have er := zt_nil hT
    exact br_t er (h _ _ _ _ 1 (zt_leaf 0 pk_us pk_us pk_us))
  | cons m t =>
    obtain ⟨g, eg, er, _⟩ := zt_hd hT
    have hm := h28 m (by simp)
    subst er
    exact br_f (zn_n1 (by omega)) ⟨28, zx_g42 hP hb hk pk_us pk_us f m t false 0 28 hT2 hnd hkT h28 (by omega) (by omega) (fun lo hi sy hD => h _ _ _ _ _ hD.1)⟩
theorem zx_growTree (hP : zr_P cx cy a_px a_py) (hb : zr_b cx cy) (hT : zr_T al cx cy f_treeRoot a_treeLow a_treeHigh a_splitsByY) {k : Nat} (hk : k < 28) (ha : al k = false) (hF : zr_F al al' k) (h : ∀ root lo hi sy, zr_T al' cx cy root lo hi sy → post (f_live, f_held, root, a_px, a_py, a_byX, a_rowHead, a_rowNext, a_cell, a_quad, a_quadX, a_quadY, a_quadSide, lo, hi, sy, a_lessX, a_lessY, a_slice, a_waiting, a_waitingGap)) : wpX_growTree post (f_live, f_held, f_treeRoot, a_px, a_py, a_byX, a_rowHead, a_rowNext, a_cell, a_quad, a_quadX, a_quadY, a_quadSide, a_treeLow, a_treeHigh, a_splitsByY, a_lessX, a_lessY, a_slice, a_waiting, a_waitingGap) (nI k) := by
  obtain ⟨T, f, hM, hT2⟩ := hT
  refine zx_grow hP hb hk hT2 hM.1 (fun z => ?_) (fun j hj => ((hM.2 j).mp hj).1) (zl_len hM) (fun root lo hi sy g hg => h _ _ _ _ ⟨T ++ [k], g, zl_ins (B := []) (by rw [List.append_nil]; exact hM) hk ha (fun j _ => zr_Fi hF ha j), hg⟩)
  have := ((hM.2 k).mp z).2
  rw [ha] at this
  exact absurd this (by decide)
theorem zx_replant (hl : zs_S f_live al) (hP : zr_P cx cy a_px a_py) (hb : zr_b cx cy) (h : ∀ root lo hi sy, zr_T al cx cy root lo hi sy → post (f_live, f_held, root, a_px, a_py, a_byX, a_rowHead, a_rowNext, a_cell, a_quad, a_quadX, a_quadY, a_quadSide, lo, hi, sy, a_lessX, a_lessY, a_slice, a_waiting, a_waitingGap)) : wpX_replantTree post (f_live, f_held, f_treeRoot, a_px, a_py, a_byX, a_rowHead, a_rowNext, a_cell, a_quad, a_quadX, a_quadY, a_quadSide, a_treeLow, a_treeHigh, a_splitsByY, a_lessX, a_lessY, a_slice, a_waiting, a_waitingGap) := by
  have key : ∀ d i (root : Int32) (lo hi sy : Nat → Int32) (f : Nat), i + d = 28 → zt_T cx cy lo hi sy f (zt_I al i) false root → wX_replantTree_7 post (d + 1) (nI i) f_live f_held (root) a_px a_py a_byX a_rowHead a_rowNext a_cell a_quad a_quadX a_quadY a_quadSide (lo) (hi) (sy) a_lessX a_lessY a_slice a_waiting a_waitingGap := by
    intro d
    induction d with
    | zero =>
      intro i root lo hi sy f hi28 hT
      have e : i = 28 := by omega
      subst e
      exact br_t zn_28t (h _ _ _ _ ⟨_, f, zt_IM al, hT⟩)
    | succ d ih =>
      intro i root lo hi sy f hid hT
      have hi28 : i < 28 := by omega
      refine br_f (zn_28f hi28) (zx_hasN hl hi28 (fun ha => br_f zn_z1 ?_) (fun ha => br_t rfl (nm_r (nI_1 i) (ih (i + 1) root lo hi sy f (by omega) (by rw [zt_If ha]; exact hT)))))
      refine zx_grow hP hb hi28 hT (zt_In al i) (fun z => ?_) (fun j hj => ?_) ?_ (fun root' lo' hi' sy' g hg => nm_r (nI_1 i) (ih (i + 1) root' lo' hi' sy' g (by omega) (by rw [zt_It ha]; exact hg)))
      · exact absurd (zt_Im.mp z).1 (by omega)
      · have := (zt_Im.mp hj).1
        omega
      · have := zt_Il al i
        omega
  exact ⟨29, key 28 0 (-1) _ _ _ 0 rfl zt_mkn⟩
theorem zx_toggleBounds (hP : zr_P cx cy a_px a_py) (hb : zr_b cx cy) (hBx : zr_B al cx a_lessX) (hBy : zr_B al cy a_lessY) {k : Nat} (hk : k < 28) (hF : zr_F al al' k) (h : ∀ lx ly, zr_B al' cx lx → zr_B al' cy ly → post (f_live, f_held, f_treeRoot, a_px, a_py, a_byX, a_rowHead, a_rowNext, a_cell, a_quad, a_quadX, a_quadY, a_quadSide, a_treeLow, a_treeHigh, a_splitsByY, lx, ly, a_slice, a_waiting, a_waitingGap)) : wpX_toggleBounds post (f_live, f_held, f_treeRoot, a_px, a_py, a_byX, a_rowHead, a_rowNext, a_cell, a_quad, a_quadX, a_quadY, a_quadSide, a_treeLow, a_treeHigh, a_splitsByY, a_lessX, a_lessY, a_slice, a_waiting, a_waitingGap) (nI k) := by
  have hbk := hb k
  have inv0 : ∀ (c : Nat → Nat) (old : Nat → Int32), zr_B al c old → ∀ n, n < 65 → (n < c k + 1 → zs_S (old n) (fun j => al' j && decide (c j < n))) ∧ (c k + 1 ≤ n → zs_S (old n) (fun j => al j && decide (c j < n))) := fun c old ho n hn =>
    ⟨fun z => zr_ff (c := fun j => decide (c j < n)) (ho n hn) hF (decide_eq_false (by omega)), fun _ => ho n hn⟩
  have step : ∀ (c : Nat → Nat) (a : Nat → Int32) (b : Nat), b < 65 → c k < b → (∀ n, n < 65 → (n < b → zs_S (a n) (fun j => al' j && decide (c j < n))) ∧ (b ≤ n → zs_S (a n) (fun j => al j && decide (c j < n)))) → ∀ n, n < 65 → (n < b + 1 → zs_S (upd a b (a b ^^^ (1 <<< (nI k &&& 31))) n) (fun j => al' j && decide (c j < n))) ∧ (b + 1 ≤ n → zs_S (upd a b (a b ^^^ (1 <<< (nI k &&& 31))) n) (fun j => al j && decide (c j < n))) := by
    intro c a b hb65 hcb hA n hn
    by_cases e : n = b
    · subst e
      rw [pk_us]
      exact ⟨fun _ => zr_ft (c := fun j => decide (c j < n)) ((hA n hn).2 (Nat.le_refl _)) hk hF (decide_eq_true hcb), fun z => by omega⟩
    · rw [pk_un e]
      exact ⟨fun z => (hA n hn).1 (by omega), fun z => (hA n hn).2 (by omega)⟩
  have key2 : ∀ (lx : Nat → Int32), zr_B al' cx lx → ∀ d b (a : Nat → Int32), b + d = 65 → cy k < b → (∀ n, n < 65 → (n < b → zs_S (a n) (fun j => al' j && decide (cy j < n))) ∧ (b ≤ n → zs_S (a n) (fun j => al j && decide (cy j < n)))) → wX_toggleBounds_42 post (nI k) f_live f_held f_treeRoot (d + 1) (nI b) a_px a_py a_byX a_rowHead a_rowNext a_cell a_quad a_quadX a_quadY a_quadSide a_treeLow a_treeHigh a_splitsByY (lx) (a) a_slice a_waiting a_waitingGap := by
    intro lx hlx d
    induction d with
    | zero =>
      intro b a hbd hcb hA
      have e : b = 65 := by omega
      subst e
      exact br_t (nI_le (a := 65) (Nat.le_refl _) (by omega)) (h _ _ hlx (fun n hn => (hA n hn).1 hn))
    | succ d ih =>
      intro b a hbd hcb hA
      have e : (nI b).toNatClampNeg = b := nI_clamp (by omega)
      have i65 : vp_in (nI b) 65 := vp_in_nI (by omega) (by omega)
      exact br_f (nI_ge (b := 65) (by omega) (by omega)) ⟨i65, i65, nm_r (e' := upd a b (a b ^^^ (1 <<< (nI k &&& 31)))) (by rw [e]) (nm_r (nI_1 b) (ih (b + 1) _ (by omega) (by omega) (step cy a b (by omega) hcb hA)))⟩
  have key1 : ∀ d b (a : Nat → Int32), b + d = 65 → cx k < b → (∀ n, n < 65 → (n < b → zs_S (a n) (fun j => al' j && decide (cx j < n))) ∧ (b ≤ n → zs_S (a n) (fun j => al j && decide (cx j < n)))) → wX_toggleBounds_9 post (nI k) f_live f_held f_treeRoot (d + 1) (nI b) a_px a_py a_byX a_rowHead a_rowNext a_cell a_quad a_quadX a_quadY a_quadSide a_treeLow a_treeHigh a_splitsByY (a) a_lessY a_slice a_waiting a_waitingGap := by
    intro d
    induction d with
    | zero =>
      intro b a hbd hcb hA
      have e : b = 65 := by omega
      subst e
      exact br_t (nI_le (a := 65) (Nat.le_refl _) (by omega)) ⟨zx_i28 hk, nm_r (e' := nI (cy k + 1)) (by rw [zx_pyI hP hk, nI_1]) ⟨65 - (cy k + 1) + 1, key2 a (fun n hn => (hA n hn).1 hn) (65 - (cy k + 1)) (cy k + 1) a_lessY (by omega) (by omega) (inv0 cy a_lessY hBy)⟩⟩
    | succ d ih =>
      intro b a hbd hcb hA
      have e : (nI b).toNatClampNeg = b := nI_clamp (by omega)
      have i65 : vp_in (nI b) 65 := vp_in_nI (by omega) (by omega)
      exact br_f (nI_ge (b := 65) (by omega) (by omega)) ⟨i65, i65, nm_r (e' := upd a b (a b ^^^ (1 <<< (nI k &&& 31)))) (by rw [e]) (nm_r (nI_1 b) (ih (b + 1) _ (by omega) (by omega) (step cx a b (by omega) hcb hA)))⟩
  exact ⟨zx_i28 hk, nm_r (e' := nI (cx k + 1)) (by rw [zx_pxI hP hk, nI_1]) ⟨65 - (cx k + 1) + 1, key1 (65 - (cx k + 1)) (cx k + 1) a_lessX (by omega) (by omega) (inv0 cx a_lessX hBx)⟩⟩
theorem zx_toggleSlices (hP : zr_P cx cy a_px a_py) (hb : zr_b cx cy) (hI : zr_I al cx cy a_slice) {k : Nat} (hk : k < 28) (hF : zr_F al al' k) (h : ∀ sl, zr_I al' cx cy sl → post (f_live, f_held, f_treeRoot, a_px, a_py, a_byX, a_rowHead, a_rowNext, a_cell, a_quad, a_quadX, a_quadY, a_quadSide, a_treeLow, a_treeHigh, a_splitsByY, a_lessX, a_lessY, sl, a_waiting, a_waitingGap)) : wpX_toggleSlices post (f_live, f_held, f_treeRoot, a_px, a_py, a_byX, a_rowHead, a_rowNext, a_cell, a_quad, a_quadX, a_quadY, a_quadSide, a_treeLow, a_treeHigh, a_splitsByY, a_lessX, a_lessY, a_slice, a_waiting, a_waitingGap) (nI k) := by
  have hbk := hb k
  have key : ∀ d i (a : Nat → Int32), i + d = 6 → (∀ b, b < 6 → (b < i → zs_S (a b) (fun j => al' j && zr_h (cx j) b) ∧ zs_S (a (6 + b)) (fun j => al' j && zr_h (cy j) b)) ∧ (i ≤ b → zs_S (a b) (fun j => al j && zr_h (cx j) b) ∧ zs_S (a (6 + b)) (fun j => al j && zr_h (cy j) b))) → wX_toggleSlices_2 post (nI k) f_live f_held f_treeRoot (d + 1) (nI i) a_px a_py a_byX a_rowHead a_rowNext a_cell a_quad a_quadX a_quadY a_quadSide a_treeLow a_treeHigh a_splitsByY a_lessX a_lessY (a) a_waiting a_waitingGap := by
    intro d
    induction d with
    | zero =>
      intro i a hid hA
      have e : i = 6 := by omega
      subst e
      exact br_t (nI_le (a := 6) (Nat.le_refl _) (by omega)) (h _ (fun b hb2 => (hA b hb2).1 hb2))
    | succ d ih =>
      intro i a hid hA
      have hi6 : i < 6 := by omega
      have e1 : (nI i).toNatClampNeg = i := nI_clamp (by omega)
      have e6 : 6 + nI i = nI (6 + i) := nI_add 6 i
      have e2 : (nI (6 + i)).toNatClampNeg = 6 + i := nI_clamp (by omega)
      have ex : (a_px (nI k).toNatClampNeg >>> (nI i &&& 31)) &&& 1 = if zr_h (cx k) i then 1 else 0 := by rw [zx_pxI hP hk]; exact zi_bit (by omega) (by omega)
      have ey : (a_py (nI k).toNatClampNeg >>> (nI i &&& 31)) &&& 1 = if zr_h (cy k) i then 1 else 0 := by rw [zx_pyI hP hk]; exact zi_bit (by omega) (by omega)
      have i12 : vp_in (nI i) 12 := vp_in_nI (by omega) (by omega)
      have j12 : vp_in (6 + nI i) 12 := by rw [e6]; exact vp_in_nI (by omega) (by omega)
      obtain ⟨hx0, hy0⟩ := (hA i hi6).2 (Nat.le_refl _)
      refine br_f (nI_ge (b := 6) (by omega) (by omega)) ⟨i12, zx_i28 hk, i12, nm_r (e' := upd a i (a i ^^^ ((if zr_h (cx k) i then 1 else 0) <<< (nI k &&& 31)))) (by rw [e1, ex]) ⟨j12, zx_i28 hk, j12, nm_r (e' := upd (upd a i (a i ^^^ ((if zr_h (cx k) i then 1 else 0) <<< (nI k &&& 31)))) (6 + i) (a (6 + i) ^^^ ((if zr_h (cy k) i then 1 else 0) <<< (nI k &&& 31)))) (by rw [e6, e2, ey, pk_un (f := a) (show 6 + i ≠ i by omega)]) (nm_r (nI_1 i) (ih (i + 1) _ (by omega) (fun b hb2 => ?_)))⟩⟩
      by_cases e : b = i
      · subst e
        rw [pk_un (show b ≠ 6 + b by omega), pk_us, pk_us]
        exact ⟨fun _ => ⟨zr_fb (c := fun j => zr_h (cx j) b) hx0 hk hF, zr_fb (c := fun j => zr_h (cy j) b) hy0 hk hF⟩, fun z => by omega⟩
      · rw [pk_un (show b ≠ 6 + i by omega), pk_un e, pk_un (show 6 + b ≠ 6 + i by omega), pk_un (show 6 + b ≠ i by omega)]
        exact ⟨fun z => (hA b hb2).1 (by omega), fun z => (hA b hb2).2 (by omega)⟩
  exact ⟨7, key 6 0 a_slice rfl (fun b hb2 => ⟨fun z => by omega, fun _ => hI b hb2⟩)⟩
end
