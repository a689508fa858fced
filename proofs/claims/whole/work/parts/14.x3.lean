/-! ===== the component: rectangles by the grid and the quads ===== -/
section
variable {f_live f_held f_treeRoot : Int32} {a_px a_py a_byX a_rowHead a_rowNext a_cell a_quad a_quadX a_quadY a_quadSide a_treeLow a_treeHigh a_splitsByY a_lessX a_lessY a_slice a_waiting a_waitingGap : Nat → Int32} {al : Nat → Bool} {cx cy : Nat → Nat}
theorem zx_e1 {x s : Nat} (hs : 1 ≤ s) : nI x + nI s - 1 = nI (x + s - 1) := by
  obtain ⟨t, rfl⟩ : ∃ t, s = t + 1 := ⟨s - 1, by omega⟩
  rw [nI_add, show x + (t + 1) = (x + t) + 1 by omega, nI_pred]
  rfl
theorem zx_covers {post : Int32 → Prop} {lo hi x y s : Nat} (hlo : lo < 4096) (hhi : hi < 4096) (hx : x + s ≤ 64) (hy : y + s ≤ 64) (hs : 1 ≤ s) (ht : (∀ a b, x ≤ a → a < x + s → y ≤ b → b < y + s → zp_in lo hi a b = true) → post 1) (hf : post 0) : wpX_covers post (nI lo) (nI hi) (nI x) (nI y) (nI s) := by
  unfold wpX_covers
  refine zx_xOf hlo (pk_lt x (lo % 64) (fun _ => hf) (fun z1 => zx_xOf hhi ?_))
  refine pk_lt (hi % 64) (x + s - 1) (fun _ => hf) (fun z2 => zx_yOf hlo (pk_lt y (lo / 64) (fun _ => hf) (fun z3 => zx_yOf hhi ?_))) rfl (zx_e1 hs)
  refine pk_lt (hi / 64) (y + s - 1) (fun _ => hf) (fun z4 => ht (fun a b h1 h2 h3 h4 => (zp_iff _ _ _ _).mpr ?_)) rfl (zx_e1 hs)
  omega
theorem zx_cI (hb : zr_b cx cy) {c r : Nat} (hc : c < 8) (k : Nat) : zr_c cx cy k = c + 8 * r ↔ cx k / 8 = c ∧ cy k / 8 = r := by
  have := hb k
  unfold zr_c
  omega
def zx_gF (X : Nat → Bool) (cx cy : Nat → Nat) (r c : Nat) (k : Nat) : Bool := X k && (decide (cy k / 8 < r) || (decide (cy k / 8 = r) && decide (cx k / 8 < c)))
theorem zx_gS (hb : zr_b cx cy) {X : Nat → Bool} {r c k : Nat} (hc : c < 8) : (zx_gF X cx cy r c k || (X k && decide (zr_c cx cy k = c + 8 * r))) = zx_gF X cx cy r (c + 1) k := by
  have h := zx_cI hb (r := r) hc k
  unfold zx_gF
  cases X k
  · rfl
  · rw [Bool.eq_iff_iff]
    simp only [Bool.true_and, Bool.or_eq_true, Bool.and_eq_true, decide_eq_true_eq]
    rw [h]
    omega
theorem zx_gE {X : Nat → Bool} {r c k m : Nat} (hX : X k = true → cx k / 8 ≤ m) (hc : m < c) : zx_gF X cx cy r c k = zx_gF X cx cy (r + 1) 0 k := by
  unfold zx_gF
  cases h : X k
  · rfl
  · have := hX h
    rw [Bool.eq_iff_iff]
    simp only [Bool.true_and, Bool.or_eq_true, Bool.and_eq_true, decide_eq_true_eq]
    omega
theorem zx_g0 {X : Nat → Bool} {r c k : Nat} (hX : X k = true → c ≤ cx k / 8) : zx_gF X cx cy r c k = zx_gF X cx cy r 0 k := by
  unfold zx_gF
  cases h : X k
  · rfl
  · have := hX h
    rw [Bool.eq_iff_iff]
    simp only [Bool.true_and, Bool.or_eq_true, Bool.and_eq_true, decide_eq_true_eq]
    omega
theorem zx_g45 {post : Int32 → Prop} (hP : zr_P cx cy a_px a_py) (hb : zr_b cx cy) (hC : zr_C al cx cy a_cell) {J : Int32 → Int32 → Prop} {x4 : Int32} {lo hi r : Nat} (hlo : lo < 4096) (hhi : hi < 4096) (hr : r < 8)
    (h : ∀ s, zs_S s (zx_gF (fun k => al k && zp_in lo hi (cx k) (cy k)) cx cy (r + 1) 0) → J s (nI (r + 1))) :
    ∀ d c s, hi % 64 / 8 + 1 ≤ c + d → c ≤ 8 → zs_S s (zx_gF (fun k => al k && zp_in lo hi (cx k) (cy k)) cx cy r c) → wX_insideGrid_45 post J (nI lo) (nI hi) (nI (hi % 64 / 8)) x4 (nI r) f_live f_held f_treeRoot a_px a_py a_byX a_rowHead a_rowNext a_cell a_quad a_quadX a_quadY a_quadSide a_treeLow a_treeHigh a_splitsByY a_lessX a_lessY a_slice a_waiting a_waitingGap (d + 1) s (nI c) := by
  have hXm : ∀ k, (al k && zp_in lo hi (cx k) (cy k)) = true → cx k / 8 ≤ hi % 64 / 8 := fun k z => by
    have := (zp_iff _ _ _ _).mp ((Bool.and_eq_true _ _).mp z).2
    omega
  have hex : ∀ d c s, hi % 64 / 8 < c → c ≤ 8 → zs_S s (zx_gF (fun k => al k && zp_in lo hi (cx k) (cy k)) cx cy r c) → wX_insideGrid_45 post J (nI lo) (nI hi) (nI (hi % 64 / 8)) x4 (nI r) f_live f_held f_treeRoot a_px a_py a_byX a_rowHead a_rowNext a_cell a_quad a_quadX a_quadY a_quadSide a_treeLow a_treeHigh a_splitsByY a_lessX a_lessY a_slice a_waiting a_waitingGap (d + 1) s (nI c) := fun d c s hc hc8 hs =>
    br_t (nI_lt hc (by omega)) (nm_r (nI_1 r) (h s (zs_cg hs (fun k _ => zx_gE (hXm k) hc))))
  intro d
  induction d with
  | zero => exact fun c s hd hc hs => hex 0 c s (by omega) hc hs
  | succ d ih =>
    intro c s hd hc hs
    by_cases hle : c ≤ hi % 64 / 8
    · have hc8 : c < 8 := by omega
      have hcell := hC (c + 8 * r) (by omega)
      have e1 : nI c + 8 * nI r = nI (c + 8 * r) := by rw [zn_m8, nI_add]
      refine br_f (nI_nlt hle (by omega)) ?_
      rw [e1]
      refine ⟨vp_in_nI (by omega) (by omega), nm_r (e' := a_cell (c + 8 * r)) (by rw [nI_clamp (by omega)]) ?_⟩
      rw [show nI c * 8 = nI (c * 8) from pk_mul c 8, show nI r * 8 = nI (r * 8) from pk_mul r 8]
      refine zx_covers (x := c * 8) (y := r * 8) (s := 8) hlo hhi (by omega) (by omega) (by omega) (fun hcov => br_f zn_z1 (nm_e (nm_r (nI_1 c) (ih (c + 1) _ (by omega) (by omega) (zs_cg (zs_or hs hcell) (fun k _ => ?_)))))) (br_t rfl (zx_insideOf hP hb hcell hlo hhi (fun r2 hr2 => nm_e (nm_r (nI_1 c) (ih (c + 1) _ (by omega) (by omega) (zs_cg (zs_or hs hr2) (fun k _ => ?_)))))))
      · rw [← zx_gS hb hc8]
        refine congrArg (fun z => zx_gF (fun k => al k && zp_in lo hi (cx k) (cy k)) cx cy r c k || z) ?_
        show (al k && decide (zr_c cx cy k = c + 8 * r)) = ((al k && zp_in lo hi (cx k) (cy k)) && decide (zr_c cx cy k = c + 8 * r))
        by_cases e : zr_c cx cy k = c + 8 * r
        · have e2 := (zx_cI hb hc8 k).mp e
          rw [hcov (cx k) (cy k) (by omega) (by omega) (by omega) (by omega), Bool.and_true]
        · rw [decide_eq_false e, Bool.and_false, Bool.and_false]
      · rw [← zx_gS hb hc8]
        refine congrArg (fun z => zx_gF (fun k => al k && zp_in lo hi (cx k) (cy k)) cx cy r c k || z) ?_
        show ((al k && decide (zr_c cx cy k = c + 8 * r)) && zp_in lo hi (cx k) (cy k)) = ((al k && zp_in lo hi (cx k) (cy k)) && decide (zr_c cx cy k = c + 8 * r))
        cases al k <;> cases zp_in lo hi (cx k) (cy k) <;> cases decide (zr_c cx cy k = c + 8 * r) <;> rfl
    · exact hex (d + 1) c s (by omega) hc hs
theorem zx_insideGrid {post : Int32 → Prop} (hP : zr_P cx cy a_px a_py) (hb : zr_b cx cy) (hC : zr_C al cx cy a_cell) {lo hi : Nat} (hlo : lo < 4096) (hhi : hi < 4096) (h : ∀ r, zs_S r (fun k => al k && zp_in lo hi (cx k) (cy k)) → post r) : wpX_insideGrid post (f_live, f_held, f_treeRoot, a_px, a_py, a_byX, a_rowHead, a_rowNext, a_cell, a_quad, a_quadX, a_quadY, a_quadSide, a_treeLow, a_treeHigh, a_splitsByY, a_lessX, a_lessY, a_slice, a_waiting, a_waitingGap) (nI lo) (nI hi) := by
  unfold wpX_insideGrid
  refine zx_xOf hhi ⟨by decide, nm_r (zn_8 (p := hi % 64) (by omega)) (zx_yOf hhi ⟨by decide, nm_r (zn_8 (p := hi / 64) (by omega)) (zx_yOf hlo ⟨by decide, nm_r (zn_8 (p := lo / 64) (by omega)) ?_⟩)⟩)⟩
  have hXm : ∀ k, (al k && zp_in lo hi (cx k) (cy k)) = true → (lo / 64 / 8 ≤ cy k / 8 ∧ cy k / 8 ≤ hi / 64 / 8) ∧ lo % 64 / 8 ≤ cx k / 8 := fun k z => by
    have := (zp_iff _ _ _ _).mp ((Bool.and_eq_true _ _).mp z).2
    omega
  have hex : ∀ d r s, hi / 64 / 8 < r → r ≤ 8 → zs_S s (zx_gF (fun k => al k && zp_in lo hi (cx k) (cy k)) cx cy r 0) → wX_insideGrid_29 post (nI lo) (nI hi) (nI (hi % 64 / 8)) (nI (hi / 64 / 8)) f_live f_held f_treeRoot a_px a_py a_byX a_rowHead a_rowNext a_cell a_quad a_quadX a_quadY a_quadSide a_treeLow a_treeHigh a_splitsByY a_lessX a_lessY a_slice a_waiting a_waitingGap (d + 1) s (nI r) := fun d r s hr hr8 hs => by
    refine br_t (nI_lt hr (by omega)) (h s (zs_cg hs (fun k _ => ?_)))
    show ((al k && zp_in lo hi (cx k) (cy k)) && (decide (cy k / 8 < r) || (decide (cy k / 8 = r) && decide (cx k / 8 < 0)))) = (al k && zp_in lo hi (cx k) (cy k))
    cases hX : (al k && zp_in lo hi (cx k) (cy k))
    · rfl
    · have := hXm k hX
      rw [decide_eq_true (by omega : cy k / 8 < r)]
      rfl
  have key : ∀ d r s, hi / 64 / 8 + 1 ≤ r + d → r ≤ 8 → zs_S s (zx_gF (fun k => al k && zp_in lo hi (cx k) (cy k)) cx cy r 0) → wX_insideGrid_29 post (nI lo) (nI hi) (nI (hi % 64 / 8)) (nI (hi / 64 / 8)) f_live f_held f_treeRoot a_px a_py a_byX a_rowHead a_rowNext a_cell a_quad a_quadX a_quadY a_quadSide a_treeLow a_treeHigh a_splitsByY a_lessX a_lessY a_slice a_waiting a_waitingGap (d + 1) s (nI r) := by
    intro d
    induction d with
    | zero => exact fun r s hd hr hs => hex 0 r s (by omega) hr hs
    | succ d ih =>
      intro r s hd hr hs
      by_cases hle : r ≤ hi / 64 / 8
      · refine br_f (nI_nlt hle (by omega)) (zx_xOf hlo ⟨by decide, nm_r (zn_8 (p := lo % 64) (by omega)) ⟨9, ?_⟩⟩)
        exact zx_g45 hP hb hC hlo hhi (by omega) (fun s2 hs2 => ih (r + 1) s2 (by omega) (by omega) hs2) 8 (lo % 64 / 8) s (by omega) (by omega) (zs_cg hs (fun k _ => (zx_g0 (fun z => (hXm k z).2)).symm))
      · exact hex (d + 1) r s (by omega) hr hs
  refine ⟨9, key 8 (lo / 64 / 8) 0 (by omega) (by omega) (zs_cg zs_0 (fun k _ => ?_))⟩
  show false = ((al k && zp_in lo hi (cx k) (cy k)) && (decide (cy k / 8 < lo / 64 / 8) || (decide (cy k / 8 = lo / 64 / 8) && decide (cx k / 8 < 0))))
  cases hX : (al k && zp_in lo hi (cx k) (cy k))
  · rfl
  · have := hXm k hX
    rw [decide_eq_false (by omega : ¬ cy k / 8 < lo / 64 / 8), decide_eq_false (by omega : ¬ cx k / 8 < 0)]
    simp
/-! quads -/
theorem zx_i341 {n : Nat} (h : n < 341) : vp_in (nI n) 341 := vp_in_nI h (by omega)
theorem zx_misses {post : Int32 → Prop} (hL : zr_L a_quadX a_quadY a_quadSide) {lo hi n : Nat} (hlo : lo < 4096) (hhi : hi < 4096) (hn : n < 341) (ht : (∀ a b, zq_in n a b = true → ¬ zp_in lo hi a b = true) → post 1) (hf : post 0) : wpX_misses post (f_live, f_held, f_treeRoot, a_px, a_py, a_byX, a_rowHead, a_rowNext, a_cell, a_quad, a_quadX, a_quadY, a_quadSide, a_treeLow, a_treeHigh, a_splitsByY, a_lessX, a_lessY, a_slice, a_waiting, a_waitingGap) (nI lo) (nI hi) (nI n) := by
  have hbd := zq_bd n hn
  obtain ⟨q1, q2, q3⟩ := hL n hn
  have ht2 : (∀ a b, ((zq_x n ≤ a ∧ a < zq_x n + zq_s n) ∧ zq_y n ≤ b ∧ b < zq_y n + zq_s n) → ¬ (lo % 64 ≤ a ∧ a ≤ hi % 64 ∧ lo / 64 ≤ b ∧ b ≤ hi / 64)) → post 1 := fun w => ht (fun a b z1 z2 => w a b ((zq_iff _ _ _).mp z1) ((zp_iff _ _ _ _).mp z2))
  have e : (nI n).toNatClampNeg = n := nI_clamp (by omega)
  have e1 : a_quadX (nI n).toNatClampNeg = nI (zq_x n) := by rw [e]; exact q1
  have e2 : a_quadY (nI n).toNatClampNeg = nI (zq_y n) := by rw [e]; exact q2
  have e3 : a_quadSide (nI n).toNatClampNeg = nI (zq_s n) := by rw [e]; exact q3
  refine ⟨zx_i341 hn, zx_i341 hn, nm_r (e' := nI (zq_x n + zq_s n - 1)) (by rw [e1, e3]; exact zx_e1 (by omega)) ⟨zx_i341 hn, zx_i341 hn, nm_r (e' := nI (zq_y n + zq_s n - 1)) (by rw [e2, e3]; exact zx_e1 (by omega)) ⟨zx_i341 hn, ?_⟩⟩⟩
  refine zx_xOf hhi (pk_lt (hi % 64) (zq_x n) (fun z => ht2 (by omega)) (fun z1 => zx_xOf hlo ?_) rfl e1)
  refine pk_lt (zq_x n + zq_s n - 1) (lo % 64) (fun z => ht2 (by omega)) (fun z2 => ⟨zx_i341 hn, zx_yOf hhi ?_⟩)
  refine pk_lt (hi / 64) (zq_y n) (fun z => ht2 (by omega)) (fun z3 => zx_yOf hlo ?_) rfl e2
  exact pk_le (lo / 64) (zq_y n + zq_s n - 1) (fun z => hf) (fun z => ht2 (by omega))
theorem zx_qp {post : Int32 → SX → Prop} {J : Int32 → Int32 → Int32 → (Nat → Int32) → (Nat → Int32) → (Nat → Int32) → (Nat → Int32) → (Nat → Int32) → (Nat → Int32) → (Nat → Int32) → (Nat → Int32) → (Nat → Int32) → (Nat → Int32) → (Nat → Int32) → (Nat → Int32) → (Nat → Int32) → (Nat → Int32) → (Nat → Int32) → (Nat → Int32) → (Nat → Int32) → (Nat → Int32) → Prop} {x1 x2 x3 x5 : Int32} {n top m q : Nat} {w : Nat → Int32} (hq : q < 4) (ht : top < 341)
    (h : wX_insideQuads_135 post J x1 x2 x3 x5 (nI m) f_live f_held f_treeRoot n (nI (top + 1)) (nI (q + 1)) a_px a_py a_byX a_rowHead a_rowNext a_cell a_quad a_quadX a_quadY a_quadSide a_treeLow a_treeHigh a_splitsByY a_lessX a_lessY a_slice (upd w top (nI (4 * m + 1 + q))) a_waitingGap) :
    wX_insideQuads_135 post J x1 x2 x3 x5 (nI m) f_live f_held f_treeRoot (n + 1) (nI top) (nI q) a_px a_py a_byX a_rowHead a_rowNext a_cell a_quad a_quadX a_quadY a_quadSide a_treeLow a_treeHigh a_splitsByY a_lessX a_lessY a_slice (w) a_waitingGap := by
  refine br_f (nI_ge (b := 4) hq (by omega)) ⟨zx_i341 ht, nm_r (e' := upd w top (nI (4 * m + 1 + q))) ?_ (nm_r (nI_1 top) (nm_r (nI_1 q) h))⟩
  have e : 4 * nI m + 1 + nI q = nI (4 * m + 1 + q) := by
    have e2 : 4 * nI m = nI (4 * m) := pk_mul 4 m
    rw [e2, nI_1, nI_add]
  rw [nI_clamp (show top < 2 ^ 31 by omega), e]
theorem zx_kq {w : Nat → Int32} {L : List Nat} {m : Nat} (h : zk_K (fun n i => n < 341 ∧ w i = nI n) L) (hm : m < 341) : zk_K (fun n i => n < 341 ∧ upd w L.length (nI m) i = nI n) (m :: L) :=
  ⟨⟨hm, pk_us⟩, zk_fr L (fun l i hi hl => ⟨hl.1, by rw [pk_un (by omega)]; exact hl.2⟩) h⟩
theorem zx_q15 {post : Int32 → SX → Prop} (hP : zr_P cx cy a_px a_py) (hb : zr_b cx cy) (hL : zr_L a_quadX a_quadY a_quadSide) (hQ : zr_Q al cx cy a_quad) {lo hi : Nat} (hlo : lo < 4096) (hhi : hi < 4096)
    (h : ∀ r w, zs_S r (fun k => al k && zp_in lo hi (cx k) (cy k)) → post r (f_live, f_held, f_treeRoot, a_px, a_py, a_byX, a_rowHead, a_rowNext, a_cell, a_quad, a_quadX, a_quadY, a_quadSide, a_treeLow, a_treeHigh, a_splitsByY, a_lessX, a_lessY, a_slice, w, a_waitingGap)) :
    ∀ d t (L : List Nat) s (F : Nat → Bool) (w : Nat → Int32), t + d = 341 → zk_N zq_w L + t ≤ 341 → zk_K (fun n i => n < 341 ∧ w i = nI n) L → zs_S s F → zj_J (fun k => al k && zp_in lo hi (cx k) (cy k)) (fun n k => zq_in n (cx k) (cy k) = true) F L → wX_insideQuads_15 post (nI lo) (nI hi) f_live f_held f_treeRoot (d + 1) s (nI L.length) (nI t) a_px a_py a_byX a_rowHead a_rowNext a_cell a_quad a_quadX a_quadY a_quadSide a_treeLow a_treeHigh a_splitsByY a_lessX a_lessY a_slice (w) a_waitingGap := by
  intro d
  induction d with
  | zero =>
    intro t L s F w ht hN hK hs hJ
    have hlen := zk_len L (fun a _ => zq_w1 a)
    have e : t = 341 := by omega
    have e2 : L = [] := List.eq_nil_of_length_eq_zero (by omega)
    subst e e2
    exact br_t (nI_le (a := 341) (Nat.le_refl _) (by omega)) (h s w (zs_cg hs (zj_end hJ)))
  | succ d ih =>
    intro t L s F w ht hN hK hs hJ
    refine br_f (nI_ge (b := 341) (by omega) (by omega)) ?_
    cases L with
    | nil => exact br_t (show nI 0 ≤ 0 by decide) (h s w (zs_cg hs (zj_end hJ)))
    | cons n L =>
      have hlen := zk_len L (fun a _ => zq_w1 a)
      have hw := zq_w1 n
      have eN : zk_N zq_w (n :: L) = zq_w n + zk_N zq_w L := rfl
      rw [eN] at hN
      obtain ⟨⟨hn, ew⟩, hK2⟩ := hK
      have ewc : w (nI L.length).toNatClampNeg = nI n := by rw [nI_clamp (by omega)]; exact ew
      have en : (nI n).toNatClampNeg = n := nI_clamp (by omega)
      have hq := hQ n hn
      obtain ⟨q1, q2, q3⟩ := hL n hn
      have hbd := zq_bd n hn
      have hdrop : (∀ k, k < 28 → (al k && zp_in lo hi (cx k) (cy k)) = true → ¬ zq_in n (cx k) (cy k) = true) → wX_insideQuads_15 post (nI lo) (nI hi) f_live f_held f_treeRoot (d + 1) s (nI L.length) (nI (t + 1)) a_px a_py a_byX a_rowHead a_rowNext a_cell a_quad a_quadX a_quadY a_quadSide a_treeLow a_treeHigh a_splitsByY a_lessX a_lessY a_slice (w) a_waitingGap := fun hz => ih (t + 1) L s F w (by omega) (by omega) hK2 hs (zj_drop hJ hz)
      refine br_f (nI_nle (n := L.length + 1) (by omega) (by omega)) (nm_r (pk_m1 _) ⟨zx_i341 (by omega), nm_r ewc ⟨zx_i341 hn, ?_⟩⟩)
      rw [en, q1, q2, q3]
      refine br_c (fun z => nm_r (nI_1 t) (hdrop (fun k hk hX hm => ?_))) (fun _ => zx_misses hL hlo hhi hn (fun hz => br_f zn_z1 (nm_r (nI_1 t) (hdrop (fun k hk hX hm => hz _ _ hm ((Bool.and_eq_true _ _).mp hX).2)))) (br_t rfl ⟨zx_i341 hn, zx_i341 hn, zx_i341 hn, ?_⟩))
      · have h1 : (al k && zq_in n (cx k) (cy k)) = false := zs_e hq z hk
        rw [((Bool.and_eq_true _ _).mp hX).1, hm] at h1
        exact absurd h1 (by decide)
      · refine zx_covers hlo hhi (by omega) (by omega) (by omega) (fun hcov => br_f zn_z1 ⟨zx_i341 hn, nm_e (nm_r (nI_1 t) (ih (t + 1) L _ _ w (by omega) (by omega) hK2 (zs_or hs hq) (zj_take hJ (fun k hk z => ?_) (fun k hk z => ?_) (fun k hk z1 z2 => ?_))))⟩) (br_t rfl (pk_lt n 85 (fun z => ⟨5, ?_⟩) (fun z => ⟨zx_i341 hn, zx_insideOf hP hb hq hlo hhi (fun r hr => nm_e (nm_r (nI_1 t) (ih (t + 1) L _ _ w (by omega) (by omega) hK2 (zs_or hs hr) (zj_take hJ (fun k hk z => ?_) (fun k hk z => ?_) (fun k hk z1 z2 => ?_)))))⟩)))
        · show (F k || _) = true
          rw [z]; rfl
        · rcases (Bool.or_eq_true _ _).mp z with z1 | z1
          · exact hJ.1 k hk z1
          · have z2 := (Bool.and_eq_true _ _).mp z1
            have z3 := (zq_iff _ _ _).mp z2.2
            show (al k && zp_in lo hi (cx k) (cy k)) = true
            rw [z2.1, hcov (cx k) (cy k) z3.1.1 z3.1.2 z3.2.1 z3.2.2]; rfl
        · show (F k || (al k && zq_in n (cx k) (cy k))) = true
          rw [((Bool.and_eq_true _ _).mp z1).1, z2]; simp
        · have hc : ∀ q, q < 4 → 4 * n + 1 + q < 341 := fun q hq4 => by omega
          have h4 := zq_w4 n z
          have w0 := zq_w1 (4 * n + 1 + 0)
          have w1 := zq_w1 (4 * n + 1 + 1)
          have w2 := zq_w1 (4 * n + 1 + 2)
          have w3 := zq_w1 (4 * n + 1 + 3)
          refine zx_qp (q := 0) (by omega) (by omega) (zx_qp (q := 1) (by omega) (by omega) (zx_qp (q := 2) (by omega) (by omega) (zx_qp (q := 3) (by omega) (by omega) ?_)))
          refine br_t (nI_le (a := 4) (Nat.le_refl _) (by omega)) (nm_r (nI_1 t) (ih (t + 1) ((4 * n + 1 + 3) :: (4 * n + 1 + 2) :: (4 * n + 1 + 1) :: (4 * n + 1 + 0) :: L) s F _ (by omega) ?_ (zx_kq (zx_kq (zx_kq (zx_kq hK2 (hc 0 (by omega))) (hc 1 (by omega))) (hc 2 (by omega))) (hc 3 (by omega))) hs (zj_mv hJ (fun _ _ z => z) hJ.1 (fun k l hk hX hl hm => ?_))))
          · show zq_w (4 * n + 1 + 3) + (zq_w (4 * n + 1 + 2) + (zq_w (4 * n + 1 + 1) + (zq_w (4 * n + 1 + 0) + zk_N zq_w L))) + (t + 1) ≤ 341
            omega
          · rcases List.mem_cons.mp hl with e | e
            · subst e
              have hr4 := zq_r4 l (cx k) (cy k)
              have hin := (zq_ch z hr4 (cx k) (cy k)).mpr ⟨hm, rfl⟩
              generalize zq_rx l (cx k) + zq_ry l (cy k) = q at *
              refine Or.inr ⟨4 * l + 1 + q, ?_, hin⟩
              have hc4 : q = 0 ∨ q = 1 ∨ q = 2 ∨ q = 3 := by omega
              rcases hc4 with e | e | e | e <;> subst e <;> simp
            · exact Or.inr ⟨l, by simp [e], hm⟩
        · show (F k || _) = true
          rw [z]; rfl
        · rcases (Bool.or_eq_true _ _).mp z with z1 | z1
          · exact hJ.1 k hk z1
          · have z2 := (Bool.and_eq_true _ _).mp z1
            have z3 := (Bool.and_eq_true _ _).mp z2.1
            show (al k && zp_in lo hi (cx k) (cy k)) = true
            rw [z3.1, z2.2]; rfl
        · show (F k || ((al k && zq_in n (cx k) (cy k)) && zp_in lo hi (cx k) (cy k))) = true
          rw [((Bool.and_eq_true _ _).mp z1).1, z2, ((Bool.and_eq_true _ _).mp z1).2]; simp
theorem zx_insideQuads {post : Int32 → SX → Prop} (hP : zr_P cx cy a_px a_py) (hb : zr_b cx cy) (hL : zr_L a_quadX a_quadY a_quadSide) (hQ : zr_Q al cx cy a_quad) {lo hi : Nat} (hlo : lo < 4096) (hhi : hi < 4096)
    (h : ∀ r w, zs_S r (fun k => al k && zp_in lo hi (cx k) (cy k)) → post r (f_live, f_held, f_treeRoot, a_px, a_py, a_byX, a_rowHead, a_rowNext, a_cell, a_quad, a_quadX, a_quadY, a_quadSide, a_treeLow, a_treeHigh, a_splitsByY, a_lessX, a_lessY, a_slice, w, a_waitingGap)) : wpX_insideQuads post (f_live, f_held, f_treeRoot, a_px, a_py, a_byX, a_rowHead, a_rowNext, a_cell, a_quad, a_quadX, a_quadY, a_quadSide, a_treeLow, a_treeHigh, a_splitsByY, a_lessX, a_lessY, a_slice, a_waiting, a_waitingGap) (nI lo) (nI hi) := by
  refine nm_e ⟨342, zx_q15 hP hb hL hQ hlo hhi h 341 0 [0] 0 (fun _ => false) _ rfl (by decide) ⟨⟨by omega, pk_us⟩, trivial⟩ zs_0 ⟨fun k _ z => absurd (show false = true from z) (by decide), fun k _ _ => Or.inr ⟨0, by simp, zq_0 (hb k).1 (hb k).2⟩⟩⟩
end
