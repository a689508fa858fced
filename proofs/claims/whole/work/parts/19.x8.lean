/-! ===== the relation, the constructor, enter and leave, the dispatchers ===== -/
def zr_A (al : Nat → Bool) (cx cy : Nat → Nat) (u : SX) : Prop := match u with
  | (f_live, f_held, f_treeRoot, a_px, a_py, a_byX, a_rowHead, a_rowNext, a_cell, a_quad, a_quadX, a_quadY, a_quadSide, a_treeLow, a_treeHigh, a_splitsByY, a_lessX, a_lessY, a_slice, a_waiting, a_waitingGap) => zs_S f_live al ∧ zr_b cx cy ∧ zr_P cx cy a_px a_py ∧ zr_O al cx f_held a_byX ∧ zr_R al cy a_rowHead a_rowNext ∧ zr_C al cx cy a_cell ∧ zr_Q al cx cy a_quad ∧ zr_L a_quadX a_quadY a_quadSide ∧ zr_T al cx cy f_treeRoot a_treeLow a_treeHigh a_splitsByY ∧ zr_B al cx a_lessX ∧ zr_B al cy a_lessY ∧ zr_I al cx cy a_slice
section
variable {f_live f_held f_treeRoot : Int32} {a_px a_py a_byX a_rowHead a_rowNext a_cell a_quad a_quadX a_quadY a_quadSide a_treeLow a_treeHigh a_splitsByY a_lessX a_lessY a_slice a_waiting a_waitingGap : Nat → Int32} {al : Nat → Bool} {cx cy : Nat → Nat}
theorem zx_enter {post : SX → Prop} (hA : zr_A al cx cy (f_live, f_held, f_treeRoot, a_px, a_py, a_byX, a_rowHead, a_rowNext, a_cell, a_quad, a_quadX, a_quadY, a_quadSide, a_treeLow, a_treeHigh, a_splitsByY, a_lessX, a_lessY, a_slice, a_waiting, a_waitingGap)) {k p : Nat} (hk : k < 28) (ha : al k = false) (hp : p < 4096) (h : ∀ u', zr_A (fun j => al j || decide (j = k)) (zr_w cx k (p % 64)) (zr_w cy k (p / 64)) u' → post u') : wpX_enter post (f_live, f_held, f_treeRoot, a_px, a_py, a_byX, a_rowHead, a_rowNext, a_cell, a_quad, a_quadX, a_quadY, a_quadSide, a_treeLow, a_treeHigh, a_splitsByY, a_lessX, a_lessY, a_slice, a_waiting, a_waitingGap) (nI k) (nI p) := by
  unfold wpX_enter
  obtain ⟨hl, hb, hP, hO, hR, hC, hQ, hL, hT, hBx, hBy, hI⟩ := hA
  have e1 : (nI k).toNatClampNeg = k := nI_clamp (by omega)
  have hF := zr_Fin al k ha
  have hb2 : zr_b (zr_w cx k (p % 64)) (zr_w cy k (p / 64)) := zr_wb hb (by omega) (by omega)
  have hP2 := zr_wP (k := k) (x := p % 64) (y := p / 64) hP
  have hO2 := zr_wO (x := p % 64) hO ha
  have hR2 := zr_wR (y := p / 64) hR ha
  have hC2 := zr_wC (x := p % 64) (y := p / 64) hC ha
  have hQ2 := zr_wQ (x := p % 64) (y := p / 64) hQ ha
  have hT2 := zr_wT (x := p % 64) (y := p / 64) hT ha
  have hBx2 := zr_wB (x := p % 64) hBx ha
  have hBy2 := zr_wB (x := p / 64) hBy ha
  have hI2 := zr_wI (x := p % 64) (y := p / 64) hI ha
  refine zx_xOf hp ⟨zx_i28 hk, nm_r (e' := upd a_px k (nI (p % 64))) (by rw [e1]) (zx_yOf hp ⟨zx_i28 hk, nm_r (e' := upd a_py k (nI (p / 64))) (by rw [e1]) (nm_e ?_)⟩)⟩
  refine zx_enterSorted hP2 hb2 hO2 hk ha hF (fun held byX hO3 => ?_)
  refine zx_enterRow hP2 hb2 hR2 hk ha hF (fun rh rn hR3 => ?_)
  refine zx_toggleCell hP2 hb2 hC2 hk hF (fun c hC3 => ?_)
  refine zx_toggleQuads hP2 hb2 hL hQ2 hk hF (fun q hQ3 => ?_)
  refine zx_growTree hP2 hb2 hT2 hk ha hF (fun root lo hi sy hT3 => ?_)
  refine zx_toggleBounds hP2 hb2 hBx2 hBy2 hk hF (fun lx ly hBx3 hBy3 => ?_)
  refine zx_toggleSlices hP2 hb2 hI2 hk hF (fun sl hI3 => ?_)
  exact h _ ⟨zs_set hl hk, hb2, hP2, hO3, hR3, hC3, hQ3, hL, hT3, hBx3, hBy3, hI3⟩
theorem zx_leave {post : SX → Prop} (hA : zr_A al cx cy (f_live, f_held, f_treeRoot, a_px, a_py, a_byX, a_rowHead, a_rowNext, a_cell, a_quad, a_quadX, a_quadY, a_quadSide, a_treeLow, a_treeHigh, a_splitsByY, a_lessX, a_lessY, a_slice, a_waiting, a_waitingGap)) {k : Nat} (hk : k < 28) (ha : al k = true) (h : ∀ u', zr_A (fun j => al j && !decide (j = k)) cx cy u' → post u') : wpX_leave post (f_live, f_held, f_treeRoot, a_px, a_py, a_byX, a_rowHead, a_rowNext, a_cell, a_quad, a_quadX, a_quadY, a_quadSide, a_treeLow, a_treeHigh, a_splitsByY, a_lessX, a_lessY, a_slice, a_waiting, a_waitingGap) (nI k) := by
  unfold wpX_leave
  obtain ⟨hl, hb, hP, hO, hR, hC, hQ, hL, hT, hBx, hBy, hI⟩ := hA
  have hF := zr_Fout al k ha
  have hl2 := zs_clr hl hk
  refine nm_e ?_
  refine zx_leaveSorted hO hk ha hF (fun held byX hO3 => ?_)
  refine zx_leaveRow hP hb hR hk ha hF (fun rh rn hR3 => ?_)
  refine zx_toggleCell hP hb hC hk hF (fun c hC3 => ?_)
  refine zx_toggleQuads hP hb hL hQ hk hF (fun q hQ3 => ?_)
  refine zx_replant hl2 hP hb (fun root lo hi sy hT3 => ?_)
  refine zx_toggleBounds hP hb hBx hBy hk hF (fun lx ly hBx3 hBy3 => ?_)
  refine zx_toggleSlices hP hb hI hk hF (fun sl hI3 => ?_)
  exact h _ ⟨hl2, hb, hP, hO3, hR3, hC3, hQ3, hL, hT3, hBx3, hBy3, hI3⟩
/-! the constructor -/
def zq_T (c : Nat) (qx qy qs : Nat → Int32) : Prop := ∀ n, n < c → qx n = nI (zq_x n) ∧ qy n = nI (zq_y n) ∧ qs n = nI (zq_s n)
theorem zx_lq27 {post : SX → Prop} {J : Int32 → (Nat → Int32) → (Nat → Int32) → (Nat → Int32) → (Nat → Int32) → (Nat → Int32) → (Nat → Int32) → (Nat → Int32) → (Nat → Int32) → (Nat → Int32) → (Nat → Int32) → (Nat → Int32) → (Nat → Int32) → (Nat → Int32) → (Nat → Int32) → (Nat → Int32) → (Nat → Int32) → (Nat → Int32) → (Nat → Int32) → Prop} {m : Nat} (hm : m < 85) (h : ∀ qx qy qs, zq_T (4 * (m + 1) + 1) qx qy qs → J (nI (m + 1)) a_px a_py a_byX a_rowHead a_rowNext a_cell a_quad (qx) (qy) (qs) a_treeLow a_treeHigh a_splitsByY a_lessX a_lessY a_slice a_waiting a_waitingGap) :
    ∀ d q (qx qy qs : Nat → Int32), q + d = 4 → zq_T (4 * m + 1 + q) qx qy qs → wX_layOutQuads_27 post J (nI m) (nI (zq_s m / 2)) f_live f_held f_treeRoot (d + 1) (nI q) a_px a_py a_byX a_rowHead a_rowNext a_cell a_quad (qx) (qy) (qs) a_treeLow a_treeHigh a_splitsByY a_lessX a_lessY a_slice a_waiting a_waitingGap := by
  intro d
  induction d with
  | zero =>
    intro q qx qy qs hqd hT
    have e : q = 4 := by omega
    subst e
    exact br_t (nI_le (a := 4) (Nat.le_refl _) (by omega)) (nm_r (nI_1 m) (h qx qy qs (by rw [show 4 * (m + 1) + 1 = 4 * m + 1 + 4 by omega]; exact hT)))
  | succ d ih =>
    intro q qx qy qs hqd hT
    have hq : q < 4 := by omega
    have hi : 4 * m + 1 + q < 341 := by omega
    obtain ⟨t1, t2, t3⟩ := hT m (by omega)
    have em : (nI m).toNatClampNeg = m := nI_clamp (by omega)
    have ei : (nI (4 * m + 1 + q)).toNatClampNeg = 4 * m + 1 + q := nI_clamp (by omega)
    have e4 : 4 * nI m + 1 + nI q = nI (4 * m + 1 + q) := by
      have e5 : 4 * nI m = nI (4 * m) := pk_mul 4 m
      rw [e5, nI_1, nI_add]
    have er : nI q - nI q / 2 * 2 = nI (q % 2) := pk_rem (d := 2) (by omega) (by omega) (by omega)
    have ed : nI q / 2 = nI (q / 2) := pk_div (d := 2) (by omega) (by omega) (by omega)
    refine br_f (nI_ge (b := 4) hq (by omega)) (nm_r e4 ⟨zx_i341 (by omega), by decide, zx_i341 hi, nm_r (e' := upd qx (4 * m + 1 + q) (nI (zq_x (4 * m + 1 + q)))) (by rw [ei, em, t1, er, pk_mul, nI_add, zq_stx m hm q hq]) ⟨zx_i341 (by omega), by decide, zx_i341 hi, nm_r (e' := upd qy (4 * m + 1 + q) (nI (zq_y (4 * m + 1 + q)))) (by rw [ei, em, t2, ed, pk_mul, nI_add, zq_sty m hm q hq]) ⟨zx_i341 hi, nm_r (e' := upd qs (4 * m + 1 + q) (nI (zq_s (4 * m + 1 + q)))) (by rw [ei, zq_sts m hm q hq]) (nm_r (nI_1 q) (ih (q + 1) _ _ _ (by omega) (fun n hn => ?_)))⟩⟩⟩)
    by_cases e : n = 4 * m + 1 + q
    · subst e
      rw [pk_us, pk_us, pk_us]
      exact ⟨rfl, rfl, rfl⟩
    · rw [pk_un e, pk_un e, pk_un e]
      exact hT n (by omega)
theorem zx_layOut {post : SX → Prop} (h1 : ∀ n, a_quadX n = 0) (h2 : ∀ n, a_quadY n = 0) (h : ∀ qx qy qs, zr_L qx qy qs → post (f_live, f_held, f_treeRoot, a_px, a_py, a_byX, a_rowHead, a_rowNext, a_cell, a_quad, qx, qy, qs, a_treeLow, a_treeHigh, a_splitsByY, a_lessX, a_lessY, a_slice, a_waiting, a_waitingGap)) : wpX_layOutQuads post (f_live, f_held, f_treeRoot, a_px, a_py, a_byX, a_rowHead, a_rowNext, a_cell, a_quad, a_quadX, a_quadY, a_quadSide, a_treeLow, a_treeHigh, a_splitsByY, a_lessX, a_lessY, a_slice, a_waiting, a_waitingGap) := by
  have key : ∀ d m (qx qy qs : Nat → Int32), m + d = 85 → zq_T (4 * m + 1) qx qy qs → wX_layOutQuads_10 post f_live f_held f_treeRoot (d + 1) (nI m) a_px a_py a_byX a_rowHead a_rowNext a_cell a_quad (qx) (qy) (qs) a_treeLow a_treeHigh a_splitsByY a_lessX a_lessY a_slice a_waiting a_waitingGap := by
    intro d
    induction d with
    | zero =>
      intro m qx qy qs hmd hT
      have e : m = 85 := by omega
      subst e
      exact br_t (nI_le (a := 85) (Nat.le_refl _) (by omega)) (h qx qy qs (fun n hn => hT n hn))
    | succ d ih =>
      intro m qx qy qs hmd hT
      have hm : m < 85 := by omega
      have hbd := zq_bd m (by omega)
      have em : (nI m).toNatClampNeg = m := nI_clamp (by omega)
      refine br_f (nI_ge (b := 85) hm (by omega)) ⟨zx_i341 (by omega), by decide, nm_r (e' := nI (zq_s m / 2)) (by rw [em, (hT m (by omega)).2.2]; exact zn_2 (by omega)) ⟨5, ?_⟩⟩
      exact zx_lq27 hm (fun qx2 qy2 qs2 hT2 => ih (m + 1) qx2 qy2 qs2 (by omega) hT2) 4 0 qx qy qs rfl hT
  refine nm_e ⟨86, key 85 0 _ _ _ rfl (fun n hn => ?_)⟩
  have e : n = 0 := by omega
  subst e
  rw [h1, h2, pk_us]
  decide
theorem zx_init {post : SX → Prop} (h : ∀ rh qx qy qs, (∀ y, y < 64 → rh y = -1) → zr_L qx qy qs → post (0, 0, -1, (fun _ => 0), (fun _ => 0), (fun _ => 0), rh, (fun _ => 0), (fun _ => 0), (fun _ => 0), qx, qy, qs, (fun _ => 0), (fun _ => 0), (fun _ => 0), (fun _ => 0), (fun _ => 0), (fun _ => 0), (fun _ => 0), (fun _ => 0))) : wpX_init post := by
  have key : ∀ d y (rh : Nat → Int32), y + d = 64 → (∀ j, j < y → rh j = -1) → wX_init_170 post 0 0 (-1) (d + 1) (nI y) (fun _ => 0) (fun _ => 0) (fun _ => 0) rh (fun _ => 0) (fun _ => 0) (fun _ => 0) (fun _ => 0) (fun _ => 0) (fun _ => 0) (fun _ => 0) (fun _ => 0) (fun _ => 0) (fun _ => 0) (fun _ => 0) (fun _ => 0) (fun _ => 0) (fun _ => 0) := by
    intro d
    induction d with
    | zero =>
      intro y rh hyd hr
      have e : y = 64 := by omega
      subst e
      exact br_t (nI_le (a := 64) (Nat.le_refl _) (by omega)) (zx_layOut (fun _ => rfl) (fun _ => rfl) (fun qx qy qs hL => h rh qx qy qs hr hL))
    | succ d ih =>
      intro y rh hyd hr
      refine br_f (nI_ge (b := 64) (by omega) (by omega)) ⟨vp_in_nI (by omega) (by omega), nm_r (e' := upd rh y (-1)) (by rw [nI_clamp (by omega)]) (nm_r (nI_1 y) (ih (y + 1) _ (by omega) (fun j hj => ?_)))⟩
      by_cases e : j = y
      · subst e; exact pk_us
      · rw [pk_un e]; exact hr j (by omega)
  exact ⟨65, key 64 0 _ rfl (fun j hj => by omega)⟩
/-! inside and nearest by any engine -/
theorem zx_c8 {p0 : Int32} {A0 A1 A2 A3 A4 A5 A6 A7 : Prop} {e : Nat} (he : e < 8) (hp : p0 = nI e) (h0 : e = 0 → A0) (h1 : e = 1 → A1) (h2 : e = 2 → A2) (h3 : e = 3 → A3) (h4 : e = 4 → A4) (h5 : e = 5 → A5) (h6 : e = 6 → A6) (h7 : e = 7 → A7) : ((p0 = 0 → A0) ∧ (¬ p0 = 0 → ((p0 = 1 → A1) ∧ (¬ p0 = 1 → ((p0 = 2 → A2) ∧ (¬ p0 = 2 → ((p0 = 3 → A3) ∧ (¬ p0 = 3 → ((p0 = 4 → A4) ∧ (¬ p0 = 4 → ((p0 = 5 → A5) ∧ (¬ p0 = 5 → ((p0 = 6 → A6) ∧ (¬ p0 = 6 → ((p0 = 7 → A7) ∧ (¬ p0 = 7 → True)))))))))))))))) := by
  subst hp
  exact pk_eq e 0 h0 (fun _ => pk_eq e 1 h1 (fun _ => pk_eq e 2 h2 (fun _ => pk_eq e 3 h3 (fun _ => pk_eq e 4 h4 (fun _ => pk_eq e 5 h5 (fun _ => pk_eq e 6 h6 (fun _ => pk_eq e 7 h7 (fun _ => trivial))))))))
theorem zx_c4 {p0 : Int32} {A0 A1 A2 A3 : Prop} {e : Nat} (he : e < 4) (hp : p0 = nI e) (h0 : e = 0 → A0) (h1 : e = 1 → A1) (h2 : e = 2 → A2) (h3 : e = 3 → A3) : ((p0 = 0 → A0) ∧ (¬ p0 = 0 → ((p0 = 1 → A1) ∧ (¬ p0 = 1 → ((p0 = 2 → A2) ∧ (¬ p0 = 2 → ((p0 = 3 → A3) ∧ (¬ p0 = 3 → True)))))))) := by
  subst hp
  exact pk_eq e 0 h0 (fun _ => pk_eq e 1 h1 (fun _ => pk_eq e 2 h2 (fun _ => pk_eq e 3 h3 (fun _ => trivial))))
theorem zx_insG {post : Int32 → SX → Prop} (hA : zr_A al cx cy (f_live, f_held, f_treeRoot, a_px, a_py, a_byX, a_rowHead, a_rowNext, a_cell, a_quad, a_quadX, a_quadY, a_quadSide, a_treeLow, a_treeHigh, a_splitsByY, a_lessX, a_lessY, a_slice, a_waiting, a_waitingGap)) {e lo hi : Nat} (he : e < 8) (hlo : lo < 4096) (hhi : hi < 4096) (h : ∀ r u', zr_A al cx cy u' → zs_S r (fun k => al k && zp_in lo hi (cx k) (cy k)) → post r u') : wpX_inside post (f_live, f_held, f_treeRoot, a_px, a_py, a_byX, a_rowHead, a_rowNext, a_cell, a_quad, a_quadX, a_quadY, a_quadSide, a_treeLow, a_treeHigh, a_splitsByY, a_lessX, a_lessY, a_slice, a_waiting, a_waitingGap) (nI e) (nI lo) (nI hi) := by
  unfold wpX_inside
  have hA2 := hA
  obtain ⟨hl, hb, hP, hO, hR, hC, hQ, hL, hT, hBx, hBy, hI⟩ := hA2
  have hA3 : ∀ w g, zr_A al cx cy (f_live, f_held, f_treeRoot, a_px, a_py, a_byX, a_rowHead, a_rowNext, a_cell, a_quad, a_quadX, a_quadY, a_quadSide, a_treeLow, a_treeHigh, a_splitsByY, a_lessX, a_lessY, a_slice, w, g) := fun w g => ⟨hl, hb, hP, hO, hR, hC, hQ, hL, hT, hBx, hBy, hI⟩
  refine zx_isPlaceN hlo (br_f zn_z1 (zx_isPlaceN hhi (br_f zn_z1 (br_f (nI_pos (by omega)) (br_f (nI_nlt (a := 7) (by omega) (by omega)) ?_)))))
  exact zx_c8 he rfl (fun _ => zx_insideOf hP hb hl hlo hhi (fun r hr => h r _ hA hr)) (fun _ => zx_insideSorted hP hb hO hlo hhi (fun r hr => h r _ hA hr)) (fun _ => zx_insideRows hP hb hR hlo hhi (fun r hr => h r _ hA hr)) (fun _ => zx_insideGrid hP hb hC hlo hhi (fun r hr => h r _ hA hr)) (fun _ => zx_insideQuads hP hb hL hQ hlo hhi (fun r w hr => h r _ (hA3 w a_waitingGap) hr)) (fun _ => zx_insideTree hP hb hT hlo hhi (fun r w g hr => h r _ (hA3 w g) hr)) (fun _ => zx_insideBounds hBx hBy hlo hhi (fun r hr => h r _ hA hr)) (fun _ => zx_insideSlices hl hb hI hlo hhi (fun r hr => h r _ hA hr))
theorem zx_insB {post : Int32 → SX → Prop} {e lo hi : Int32} (hbad : zp_bad e lo hi) (h : post (-1) (f_live, f_held, f_treeRoot, a_px, a_py, a_byX, a_rowHead, a_rowNext, a_cell, a_quad, a_quadX, a_quadY, a_quadSide, a_treeLow, a_treeHigh, a_splitsByY, a_lessX, a_lessY, a_slice, a_waiting, a_waitingGap)) : wpX_inside post (f_live, f_held, f_treeRoot, a_px, a_py, a_byX, a_rowHead, a_rowNext, a_cell, a_quad, a_quadX, a_quadY, a_quadSide, a_treeLow, a_treeHigh, a_splitsByY, a_lessX, a_lessY, a_slice, a_waiting, a_waitingGap) e lo hi := by
  unfold wpX_inside
  refine zx_isPlace (fun p hp e1 => br_f zn_z1 (zx_isPlace (fun q hq e2 => br_f zn_z1 ?_) (fun _ => br_t rfl h))) (fun _ => br_t rfl h)
  rcases zp_ix e 8 (by omega) with ⟨j, hj, e3⟩ | ⟨h0, hn⟩ | ⟨m, h1, h2, e3, hn⟩
  · rcases hbad with z | z | z
    · exact absurd e3 (z j hj)
    · exact absurd e1 (z p hp)
    · exact absurd e2 (z q hq)
  · exact br_t h0 h
  · subst e3
    exact br_f (nI_pos h2) (br_t (nI_lt (a := 7) (by omega) h2) h)
theorem zx_nearest {post : Int32 → SX → Prop} (hA : zr_A al cx cy (f_live, f_held, f_treeRoot, a_px, a_py, a_byX, a_rowHead, a_rowNext, a_cell, a_quad, a_quadX, a_quadY, a_quadSide, a_treeLow, a_treeHigh, a_splitsByY, a_lessX, a_lessY, a_slice, a_waiting, a_waitingGap)) {e p : Nat} (he : e < 4) (hp : p < 4096) (h : ∀ u', zr_A al cx cy u' → post (zo_a al (zp_f cx cy p) 0) u') : wpX_nearest post (f_live, f_held, f_treeRoot, a_px, a_py, a_byX, a_rowHead, a_rowNext, a_cell, a_quad, a_quadX, a_quadY, a_quadSide, a_treeLow, a_treeHigh, a_splitsByY, a_lessX, a_lessY, a_slice, a_waiting, a_waitingGap) (nI e) (nI p) := by
  unfold wpX_nearest
  have hA2 := hA
  obtain ⟨hl, hb, hP, hO, hR, hC, hQ, hL, hT, hBx, hBy, hI⟩ := hA2
  have hA3 : ∀ w g, zr_A al cx cy (f_live, f_held, f_treeRoot, a_px, a_py, a_byX, a_rowHead, a_rowNext, a_cell, a_quad, a_quadX, a_quadY, a_quadSide, a_treeLow, a_treeHigh, a_splitsByY, a_lessX, a_lessY, a_slice, w, g) := fun w g => ⟨hl, hb, hP, hO, hR, hC, hQ, hL, hT, hBx, hBy, hI⟩
  have hB : ∀ r u', zr_A al cx cy u' → zo_B al (zp_f cx cy p) r (fun k => al k = true) → post r u' := fun r u' q1 q2 => by
    rw [zo_best q2]
    exact h u' q1
  refine br_c (fun z => hB _ _ hA (zo_0 _ _ (fun k hk w => ?_))) (fun z => zx_isPlaceN hp (br_f zn_z1 (br_f (nI_pos (by omega)) (br_f (nI_nlt (a := 3) (by omega) (by omega)) ?_))))
  · rw [zs_e hl z hk] at w
    exact absurd w (by decide)
  · exact zx_c4 he rfl (fun _ => zx_nearestOf hP hb hp hl (fun _ _ z => z) (zo_0 al _ (P := fun _ => False) (fun _ _ z => z)) (fun r hr => hB r _ hA (zo_cg hr (fun k _ z => Or.inr z)))) (fun _ => zx_nearestSorted hP hb hO hp (fun r hr => hB r _ hA hr)) (fun _ => zx_nearestGrid hP hb hC hp (fun r hr => hB r _ hA hr)) (fun _ => zx_nearestTree hP hb hT hp (fun r w g hr => hB r _ (hA3 w g) hr))
theorem zx_nearestB {post : Int32 → SX → Prop} {e x : Int32} (hbad : (∀ j, j < 4 → ¬ e = nI j) ∨ (∀ p, p < 4096 → ¬ x = nI p)) (h : post (-1) (f_live, f_held, f_treeRoot, a_px, a_py, a_byX, a_rowHead, a_rowNext, a_cell, a_quad, a_quadX, a_quadY, a_quadSide, a_treeLow, a_treeHigh, a_splitsByY, a_lessX, a_lessY, a_slice, a_waiting, a_waitingGap)) : wpX_nearest post (f_live, f_held, f_treeRoot, a_px, a_py, a_byX, a_rowHead, a_rowNext, a_cell, a_quad, a_quadX, a_quadY, a_quadSide, a_treeLow, a_treeHigh, a_splitsByY, a_lessX, a_lessY, a_slice, a_waiting, a_waitingGap) e x := by
  unfold wpX_nearest
  refine br_c (fun _ => h) (fun _ => zx_isPlace (fun p hp e1 => br_f zn_z1 ?_) (fun _ => br_t rfl h))
  rcases zp_ix e 4 (by omega) with ⟨j, hj, e3⟩ | ⟨h0, hn⟩ | ⟨m, h1, h2, e3, hn⟩
  · rcases hbad with z | z
    · exact absurd e3 (z j hj)
    · exact absurd e1 (z p hp)
  · exact br_t h0 h
  · subst e3
    exact br_f (nI_pos h2) (br_t (nI_lt (a := 3) (by omega) h2) h)
end
