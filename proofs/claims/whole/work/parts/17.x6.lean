/-! ===== the component: what comes and goes, each way of keeping by itself ===== -/
section
variable {f_live f_held f_treeRoot : Int32} {a_px a_py a_byX a_rowHead a_rowNext a_cell a_quad a_quadX a_quadY a_quadSide a_treeLow a_treeHigh a_splitsByY a_lessX a_lessY a_slice a_waiting a_waitingGap : Nat → Int32} {al al' : Nat → Bool} {cx cy : Nat → Nat} {post : SX → Prop}
theorem zx_nb0 : vp_nar .boolean 0 = 0 := by first | rfl | decide
theorem zx_nb1 : vp_nar .boolean 1 = 1 := by first | rfl | decide
theorem zx_enterSorted (hP : zr_P cx cy a_px a_py) (hb : zr_b cx cy) (hO : zr_O al cx f_held a_byX) {k : Nat} (hk : k < 28) (ha : al k = false) (hF : zr_F al al' k) (h : ∀ held byX, zr_O al' cx held byX → post (f_live, held, f_treeRoot, a_px, a_py, byX, a_rowHead, a_rowNext, a_cell, a_quad, a_quadX, a_quadY, a_quadSide, a_treeLow, a_treeHigh, a_splitsByY, a_lessX, a_lessY, a_slice, a_waiting, a_waitingGap)) : wpX_enterSorted post (f_live, f_held, f_treeRoot, a_px, a_py, a_byX, a_rowHead, a_rowNext, a_cell, a_quad, a_quadX, a_quadY, a_quadSide, a_treeLow, a_treeHigh, a_splitsByY, a_lessX, a_lessY, a_slice, a_waiting, a_waitingGap) (nI k) := by
  obtain ⟨S, hM, hpw, he, hS⟩ := hO
  have hl := zl_lt hM hk ha
  have hbk := hb k
  subst he
  have fin : ∀ (A B : List Nat) (a : Nat → Int32), A ++ B = S → zl_J a A B → (∀ j, j ∈ A → cx j ≤ cx k) → (∀ j, j ∈ B → cx k ≤ cx j) → wX_enterSorted_51 post (nI k) (nI A.length) f_live (nI S.length) f_treeRoot a_px a_py (a) a_rowHead a_rowNext a_cell a_quad a_quadX a_quadY a_quadSide a_treeLow a_treeHigh a_splitsByY a_lessX a_lessY a_slice a_waiting a_waitingGap := by
    intro A B a e hJ q1 q2
    subst e
    have hl2 : A.length < 28 := by rw [List.length_append] at hl; omega
    refine ⟨zx_i28 hl2, nm_r (e' := upd a A.length (nI k)) (by rw [nI_clamp (by omega)]) (nm_r (nI_1 _) (h _ _ (zr_Oin hM hpw hF ha hk q1 q2 hJ)))⟩
  have key : ∀ d (A B : List Nat) (a : Nat → Int32), A.length = d → A ++ B = S → zl_J a A B → (∀ j, j ∈ B → cx k ≤ cx j) → wX_enterSorted_5 post (nI k) f_live (nI S.length) f_treeRoot (d + 1) (nI d) a_px a_py (a) a_rowHead a_rowNext a_cell a_quad a_quadX a_quadY a_quadSide a_treeLow a_treeHigh a_splitsByY a_lessX a_lessY a_slice a_waiting a_waitingGap := by
    intro d
    induction d with
    | zero =>
      intro A B a e1 e2 hJ q
      have e3 : A = [] := List.eq_nil_of_length_eq_zero e1
      subst e3
      exact br_t (show nI 0 ≤ 0 by decide) (fin [] B a e2 hJ (fun j hj => absurd hj (by simp)) q)
    | succ d ih =>
      intro A B a e1 e2 hJ q
      rcases List.eq_nil_or_concat A with e3 | ⟨A2, m, e3⟩
      · subst e3; exact absurd e1 (by simp)
      · rw [List.concat_eq_append] at e3
        subst e3
        have e4 : A2.length = d := by rw [List.length_append, List.length_singleton] at e1; omega
        subst e4
        have hd28 : A2.length + 1 < 28 := by
          rw [← e2, List.length_append, List.length_append, List.length_singleton] at hl
          omega
        have hmS : m ∈ S := by rw [← e2]; simp
        have hm := ((hM.2 m).mp hmS).1
        have hbm := hb m
        have ea : a (nI A2.length).toNatClampNeg = nI m := by rw [nI_clamp (by omega)]; exact zl_Jm hJ
        refine br_f (nI_nle (by omega) (by omega)) ?_
        rw [nI_pred, ea]
        refine ⟨zx_i28 (by omega), zx_i28 hm, zx_i28 hk, ?_⟩
        refine pk_le (cx m) (cx k) (fun z => ?_) (fun z => ⟨zx_i28 (by omega), zx_i28 hd28, nm_r (e' := upd a (A2.length + 1) (nI m)) (by rw [nI_clamp (by omega)]) (nm_r (pk_m1 _) (ih A2 (m :: B) _ rfl (by rw [← e2]; simp) (zl_Js hJ) (fun j hj => ?_)))⟩) (zx_pxI hP hm) (zx_pxI hP hk)
        · have e5 : (A2 ++ [m]).length = A2.length + 1 := by simp
          rw [← e5]
          refine fin (A2 ++ [m]) B a e2 hJ (fun j hj => ?_) q
          rw [← e2] at hpw
          have p1 := (List.pairwise_append.mp (List.pairwise_append.mp hpw).1).2.2
          rcases List.mem_append.mp hj with w | w
          · exact Nat.le_trans (p1 j w m (by simp)) z
          · rw [List.mem_singleton.mp w]; exact z
        · rcases List.mem_cons.mp hj with w | w
          · rw [w]; omega
          · exact q j w
  exact ⟨S.length + 1, key S.length S [] a_byX rfl (by simp) (zl_J0 hS) (fun j hj => absurd hj (by simp))⟩
theorem zx_leaveSorted (hO : zr_O al cx f_held a_byX) {k : Nat} (hk : k < 28) (ha : al k = true) (hF : zr_F al al' k) (h : ∀ held byX, zr_O al' cx held byX → post (f_live, held, f_treeRoot, a_px, a_py, byX, a_rowHead, a_rowNext, a_cell, a_quad, a_quadX, a_quadY, a_quadSide, a_treeLow, a_treeHigh, a_splitsByY, a_lessX, a_lessY, a_slice, a_waiting, a_waitingGap)) : wpX_leaveSorted post (f_live, f_held, f_treeRoot, a_px, a_py, a_byX, a_rowHead, a_rowNext, a_cell, a_quad, a_quadX, a_quadY, a_quadSide, a_treeLow, a_treeHigh, a_splitsByY, a_lessX, a_lessY, a_slice, a_waiting, a_waitingGap) (nI k) := by
  obtain ⟨S, hM, hpw, he, hS⟩ := hO
  have hl := zl_len hM
  subst he
  have key : ∀ (B A : List Nat) (a : Nat → Int32) (n : Nat), A ++ B = S → zl_G a k A B → B.length < n → wX_leaveSorted_4 post (nI k) f_live (nI S.length) f_treeRoot n (nI (A.filter (zl_no k)).length) (nI A.length) a_px a_py (a) a_rowHead a_rowNext a_cell a_quad a_quadX a_quadY a_quadSide a_treeLow a_treeHigh a_splitsByY a_lessX a_lessY a_slice a_waiting a_waitingGap := by
    intro B
    induction B with
    | nil =>
      intro A a n e hG hn
      cases n with
      | zero => exact absurd hn (by simp)
      | succ n =>
        rw [List.append_nil] at e
        subst e
        exact br_t (nI_le (Nat.le_refl _) (by omega)) (h _ _ (zr_Oout hM hpw hF ha hG))
    | cons m B ih =>
      intro A a n e hG hn
      cases n with
      | zero => exact absurd hn (by simp)
      | succ n =>
        have hlen : A.length + (B.length + 1) = S.length := by rw [← e, List.length_append, List.length_cons]
        have hfl := zl_Gl k A
        have hm := ((hM.2 m).mp (by rw [← e]; simp)).1
        have ea : a (nI A.length).toNatClampNeg = nI m := by rw [nI_clamp (by omega)]; exact hG.2.1
        have e2 : (A ++ [m]) ++ B = S := by rw [← e]; simp
        have e3 : (A ++ [m]).length = A.length + 1 := by simp
        have hn2 : B.length < n := by rw [List.length_cons] at hn; omega
        refine br_f (nI_ge (by omega) (by omega)) ⟨zx_i28 (by omega), ?_⟩
        rw [ea]
        refine pk_eq m k (fun z => ?_) (fun z => ⟨zx_i28 (by omega), zx_i28 (by omega), nm_r (e' := upd a (A.filter (zl_no k)).length (nI m)) (by rw [nI_clamp (by omega)]) (nm_r (nI_1 _) (nm_r (nI_1 _) ?_))⟩)
        · subst z
          obtain ⟨g1, g2⟩ := zl_Gf hG
          have := ih (A ++ [m]) a n e2 g1 hn2
          rw [g2, e3] at this
          exact nm_r (nI_1 _) this
        · obtain ⟨g1, g2⟩ := zl_Gt hG z
          have := ih (A ++ [m]) _ n e2 g1 hn2
          rw [g2, e3] at this
          exact this
  exact ⟨S.length + 1, key S [] a_byX (S.length + 1) rfl ⟨trivial, hS⟩ (by omega)⟩
theorem zx_enterRow (hP : zr_P cx cy a_px a_py) (hb : zr_b cx cy) (hR : zr_R al cy a_rowHead a_rowNext) {k : Nat} (hk : k < 28) (ha : al k = false) (hF : zr_F al al' k) (h : ∀ rh rn, zr_R al' cy rh rn → post (f_live, f_held, f_treeRoot, a_px, a_py, a_byX, rh, rn, a_cell, a_quad, a_quadX, a_quadY, a_quadSide, a_treeLow, a_treeHigh, a_splitsByY, a_lessX, a_lessY, a_slice, a_waiting, a_waitingGap)) : wpX_enterRow post (f_live, f_held, f_treeRoot, a_px, a_py, a_byX, a_rowHead, a_rowNext, a_cell, a_quad, a_quadX, a_quadY, a_quadSide, a_treeLow, a_treeHigh, a_splitsByY, a_lessX, a_lessY, a_slice, a_waiting, a_waitingGap) (nI k) := by
  have hbk := hb k
  have e1 : (nI k).toNatClampNeg = k := nI_clamp (by omega)
  have e2 : a_py (nI k).toNatClampNeg = nI (cy k) := zx_pyI hP hk
  have e3 : (nI (cy k)).toNatClampNeg = cy k := nI_clamp (by omega)
  have i64 : vp_in (a_py (nI k).toNatClampNeg) 64 := by rw [e2]; exact vp_in_nI hbk.2 (by omega)
  refine ⟨zx_i28 hk, i64, zx_i28 hk, nm_r (e' := upd a_rowNext k (a_rowHead (cy k))) (by rw [e2, e3, e1]) ⟨zx_i28 hk, i64, nm_r (e' := upd a_rowHead (cy k) (nI k)) (by rw [e2, e3]) (h _ _ (zr_Rin hR hF ha hk hbk.2))⟩⟩
theorem zx_lr {k : Nat} (hk : k < 28) : ∀ (t : List Nat) (m n st : Nat), (m :: t).Nodup → zl_C a_rowNext (m :: t) (nI m) → k ∈ t → m ≠ k → (∀ j, j ∈ m :: t → j < 28) → (m :: t).length + st ≤ 28 → t.length < n → (∀ rn, zl_E a_rowNext rn k (m :: t) (nI m) → post (f_live, f_held, f_treeRoot, a_px, a_py, a_byX, a_rowHead, rn, a_cell, a_quad, a_quadX, a_quadY, a_quadSide, a_treeLow, a_treeHigh, a_splitsByY, a_lessX, a_lessY, a_slice, a_waiting, a_waitingGap)) → wX_leaveRow_40 post (nI k) f_live f_held f_treeRoot a_px a_py a_byX a_rowHead a_rowNext a_cell a_quad a_quadX a_quadY a_quadSide a_treeLow a_treeHigh a_splitsByY a_lessX a_lessY a_slice a_waiting a_waitingGap n (nI m) (nI st) := by
  intro t
  induction t with
  | nil => intro m n st _ _ hkt; exact absurd hkt (by simp)
  | cons p t ih =>
    intro m n st hn hc hkt hmk hj hlen hfu h
    cases n with
    | zero => exact absurd hfu (by simp)
    | succ n =>
      rw [List.length_cons, List.length_cons] at hlen
      have hm := hj m (by simp)
      have hp := hj p (by simp)
      have e1 : (nI m).toNatClampNeg = m := nI_clamp (by omega)
      have e2 : (nI k).toNatClampNeg = k := nI_clamp (by omega)
      have e3 : a_rowNext m = nI p := hc.2.1
      refine br_f (zn_28f (by omega)) (br_f (zn_n1 (by omega)) ⟨zx_i28 hm, ?_⟩)
      rw [e1, e2]
      refine pk_eq p k (fun z => ?_) (fun z => ⟨zx_i28 hm, nm_r e3 (nm_r (nI_1 st) ?_)⟩) e3 rfl
      · subst z
        exact ⟨zx_i28 hk, zx_i28 hm, nm_e (h _ (zl_E1 hn hc))⟩
      · have hkt2 : k ∈ t := by
          rcases List.mem_cons.mp hkt with w | w
          · exact absurd w.symm z
          · exact w
        refine ih p n (st + 1) (List.nodup_cons.mp hn).2 (by have := hc.2; rw [e3] at this; exact this) hkt2 z (fun j hj2 => hj j (List.mem_cons_of_mem _ hj2)) (by rw [List.length_cons]; omega) (by rw [List.length_cons] at hfu; omega) (fun rn hE => h rn (zl_E2 hn hmk z hc (by rw [e3]; exact hE)))
theorem zx_leaveRow (hP : zr_P cx cy a_px a_py) (hb : zr_b cx cy) (hR : zr_R al cy a_rowHead a_rowNext) {k : Nat} (hk : k < 28) (ha : al k = true) (hF : zr_F al al' k) (h : ∀ rh rn, zr_R al' cy rh rn → post (f_live, f_held, f_treeRoot, a_px, a_py, a_byX, rh, rn, a_cell, a_quad, a_quadX, a_quadY, a_quadSide, a_treeLow, a_treeHigh, a_splitsByY, a_lessX, a_lessY, a_slice, a_waiting, a_waitingGap)) : wpX_leaveRow post (f_live, f_held, f_treeRoot, a_px, a_py, a_byX, a_rowHead, a_rowNext, a_cell, a_quad, a_quadX, a_quadY, a_quadSide, a_treeLow, a_treeHigh, a_splitsByY, a_lessX, a_lessY, a_slice, a_waiting, a_waitingGap) (nI k) := by
  have hbk := hb k
  have e1 : (nI k).toNatClampNeg = k := nI_clamp (by omega)
  have e3 : (nI (cy k)).toNatClampNeg = cy k := nI_clamp (by omega)
  have i64 : vp_in (nI (cy k)) 64 := vp_in_nI hbk.2 (by omega)
  obtain ⟨R, hM, hC⟩ := hR (cy k) hbk.2
  have hkR : k ∈ R := (hM.2 k).mpr ⟨hk, by simp [ha]⟩
  have hR28 : ∀ j, j ∈ R → j < 28 := fun j hj => ((hM.2 j).mp hj).1
  have hlen := zl_len hM
  refine ⟨zx_i28 hk, nm_r (zx_pyI hP hk) ⟨i64, ?_⟩⟩
  cases R with
  | nil => exact absurd hkR (by simp)
  | cons m t =>
    have hm := hR28 m (by simp)
    have e4 : a_rowHead (cy k) = nI m := hC.1
    rw [e3, e1]
    refine pk_eq m k (fun z => ⟨zx_i28 hk, i64, nm_e ?_⟩) (fun z => ⟨i64, nm_r e4 ⟨29, ?_⟩⟩) e4 rfl
    · subst z
      refine h _ _ (zr_Rout hR hF ha hbk.2 hM ⟨?_, fun j _ => rfl⟩ (fun y _ hy => pk_un hy))
      rw [List.filter_cons, if_neg (by rw [zl_noF]; decide), zl_nf (List.nodup_cons.mp hM.1).1, pk_us]
      exact hC.2
    · have hkt : k ∈ t := by
        rcases List.mem_cons.mp hkR with w | w
        · exact absurd w.symm z
        · exact w
      refine zx_lr hk t m 29 0 hM.1 ⟨rfl, hC.2⟩ hkt z hR28 hlen (by rw [List.length_cons] at hlen; omega) (fun rn hE => h _ _ (zr_Rout hR hF ha hbk.2 hM (by rw [e4]; exact hE) (fun y _ _ => rfl)))
theorem zx_toggleCell (hP : zr_P cx cy a_px a_py) (hb : zr_b cx cy) (hC : zr_C al cx cy a_cell) {k : Nat} (hk : k < 28) (hF : zr_F al al' k) (h : ∀ c, zr_C al' cx cy c → post (f_live, f_held, f_treeRoot, a_px, a_py, a_byX, a_rowHead, a_rowNext, c, a_quad, a_quadX, a_quadY, a_quadSide, a_treeLow, a_treeHigh, a_splitsByY, a_lessX, a_lessY, a_slice, a_waiting, a_waitingGap)) : wpX_toggleCell post (f_live, f_held, f_treeRoot, a_px, a_py, a_byX, a_rowHead, a_rowNext, a_cell, a_quad, a_quadX, a_quadY, a_quadSide, a_treeLow, a_treeHigh, a_splitsByY, a_lessX, a_lessY, a_slice, a_waiting, a_waitingGap) (nI k) := by
  have hbk := hb k
  have e : a_px (nI k).toNatClampNeg / 8 + 8 * (a_py (nI k).toNatClampNeg / 8) = nI (zr_c cx cy k) := by
    rw [zx_pxI hP hk, zx_pyI hP hk, zn_8 (by omega), zn_8 (by omega), zn_m8, nI_add]
    rfl
  have hc64 : zr_c cx cy k < 64 := by unfold zr_c; omega
  have i64 : vp_in (a_px (nI k).toNatClampNeg / 8 + 8 * (a_py (nI k).toNatClampNeg / 8)) 64 := by rw [e]; exact vp_in_nI hc64 (by omega)
  refine ⟨zx_i28 hk, by decide, zx_i28 hk, by decide, i64, i64, nm_r (e' := upd a_cell (zr_c cx cy k) (a_cell (zr_c cx cy k) ^^^ (1 <<< (nI k &&& 31)))) (by rw [e, nI_clamp (by omega)]) (h _ (fun c hc => ?_))⟩
  by_cases e2 : c = zr_c cx cy k
  · subst e2
    rw [pk_us]
    exact zr_ft (c := fun j => decide (zr_c cx cy j = zr_c cx cy k)) (hC _ hc) hk hF (by simp)
  · rw [pk_un e2]
    exact zr_ff (c := fun j => decide (zr_c cx cy j = c)) (hC _ hc) hF (decide_eq_false (fun z => e2 z.symm))
theorem zx_toggleQuads (hP : zr_P cx cy a_px a_py) (hb : zr_b cx cy) (hL : zr_L a_quadX a_quadY a_quadSide) (hQ : zr_Q al cx cy a_quad) {k : Nat} (hk : k < 28) (hF : zr_F al al' k) (h : ∀ q, zr_Q al' cx cy q → post (f_live, f_held, f_treeRoot, a_px, a_py, a_byX, a_rowHead, a_rowNext, a_cell, q, a_quadX, a_quadY, a_quadSide, a_treeLow, a_treeHigh, a_splitsByY, a_lessX, a_lessY, a_slice, a_waiting, a_waitingGap)) : wpX_toggleQuads post (f_live, f_held, f_treeRoot, a_px, a_py, a_byX, a_rowHead, a_rowNext, a_cell, a_quad, a_quadX, a_quadY, a_quadSide, a_treeLow, a_treeHigh, a_splitsByY, a_lessX, a_lessY, a_slice, a_waiting, a_waitingGap) (nI k) := by
  obtain ⟨hx, hy⟩ := hb k
  have key : ∀ d t (a : Nat → Int32), t + d = 4 → (∀ n, n < 341 → a n = if decide (n < zq_o (t + 1)) && zq_in n (cx k) (cy k) then a_quad n ^^^ (1 <<< (nI k &&& 31)) else a_quad n) → wX_toggleQuads_16 post (nI k) f_live f_held f_treeRoot (d + 1) (nI (zq_p (cx k) (cy k) t)) (nI t) a_px a_py a_byX a_rowHead a_rowNext a_cell (a) a_quadX a_quadY a_quadSide a_treeLow a_treeHigh a_splitsByY a_lessX a_lessY a_slice a_waiting a_waitingGap := by
    intro d
    induction d with
    | zero =>
      intro t a ht hA
      have e : t = 4 := by omega
      subst e
      refine br_t (nI_le (a := 4) (Nat.le_refl _) (by omega)) (h _ (fun n hn => ?_))
      rw [hA n hn, decide_eq_true (show n < zq_o (4 + 1) from hn)]
      cases hz : zq_in n (cx k) (cy k)
      · exact zr_ff (c := fun j => zq_in n (cx j) (cy j)) (hQ n hn) hF hz
      · exact zr_ft (c := fun j => zq_in n (cx j) (cy j)) (hQ n hn) hk hF hz
    | succ d ih =>
      intro t a ht hA
      have h85 := zq_p85 hx hy (show t < 4 by omega)
      have h341 := zq_p341 hx hy (show t + 1 ≤ 4 by omega)
      have hfl := zq_fl hx hy (show t + 1 ≤ 4 by omega) hA
      have ep : zq_p (cx k) (cy k) (t + 1) = 4 * zq_p (cx k) (cy k) t + 1 + (zq_rx (zq_p (cx k) (cy k) t) (cx k) + zq_ry (zq_p (cx k) (cy k) t) (cy k)) := rfl
      have ihn := ih (t + 1) _ (by omega) hfl
      generalize zq_p (cx k) (cy k) (t + 1) = p2 at *
      generalize zq_p (cx k) (cy k) t = p at *
      have hbd := zq_bd p (by omega)
      obtain ⟨q1, q2, q3⟩ := hL p (by omega)
      have e0 : (nI p).toNatClampNeg = p := nI_clamp (by omega)
      have f79 : ∀ x5 z0 : Nat, x5 = zq_rx p (cx k) → z0 = zq_ry p (cy k) → wX_toggleQuads_79 post (wX_toggleQuads_16 post (nI k) f_live f_held f_treeRoot (d + 1)) (nI k) (nI p) (nI t) (nI x5) (nI z0) f_live f_held f_treeRoot a_px a_py a_byX a_rowHead a_rowNext a_cell (a) a_quadX a_quadY a_quadSide a_treeLow a_treeHigh a_splitsByY a_lessX a_lessY a_slice a_waiting a_waitingGap := by
        intro x5 z0 w1 w2
        have e2 : 4 * nI p + 1 + nI x5 + nI z0 = nI p2 := by
          have e3 : 4 * nI p = nI (4 * p) := pk_mul 4 p
          rw [e3, nI_1, nI_add, nI_add, ep, w1, w2, Nat.add_assoc]
        refine nm_r e2 ⟨zx_i341 h341, zx_i341 h341, nm_r (e' := upd a p2 (a p2 ^^^ (1 <<< (nI k &&& 31)))) (by rw [nI_clamp (by omega)]) (nm_r (nI_1 t) ihn)⟩
      have f54 : ∀ x5 : Nat, x5 = zq_rx p (cx k) → wX_toggleQuads_54 post (wX_toggleQuads_16 post (nI k) f_live f_held f_treeRoot (d + 1)) (nI k) (nI p) (nI t) (nI (zq_s p / 2)) (nI x5) f_live f_held f_treeRoot a_px a_py a_byX a_rowHead a_rowNext a_cell (a) a_quadX a_quadY a_quadSide a_treeLow a_treeHigh a_splitsByY a_lessX a_lessY a_slice a_waiting a_waitingGap := by
        intro x5 w1
        refine ⟨zx_i28 hk, zx_i341 (by omega), pk_lt (cy k) (zq_y p + zq_s p / 2) (fun z => f79 x5 0 w1 ?_) (fun z => f79 x5 2 w1 ?_) (zx_pyI hP hk) (by rw [e0, q2, nI_add])⟩
        · unfold zq_ry; rw [if_neg (by omega)]
        · unfold zq_ry; rw [if_pos (by omega)]
      refine br_f (nI_ge (b := 4) (by omega) (by omega)) ⟨zx_i341 (by omega), by decide, nm_r (e' := nI (zq_s p / 2)) (by rw [e0, q3]; exact zn_2 (by omega)) ⟨zx_i28 hk, zx_i341 (by omega), pk_lt (cx k) (zq_x p + zq_s p / 2) (fun z => f54 0 ?_) (fun z => f54 1 ?_) (zx_pxI hP hk) (by rw [e0, q1, nI_add])⟩⟩
      · unfold zq_rx; rw [if_neg (by omega)]
      · unfold zq_rx; rw [if_pos (by omega)]
  refine nm_e ⟨5, key 4 0 _ rfl (fun n hn => ?_)⟩
  have := zq_fl hx hy (t := 0) (by omega) (a := a_quad) (old := a_quad) (v := 1 <<< (nI k &&& 31)) (fun n hn => by rw [decide_eq_false (show ¬ n < zq_o 0 from Nat.not_lt_zero n)]; rfl) n hn
  exact this
end
