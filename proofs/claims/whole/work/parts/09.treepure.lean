/-! ===== the tree, what the searches need ===== -/
def zt_c (b : Bool) (x y : Nat) : Nat := if b then y else x
theorem zt_ltI (cx cy : Nat → Nat) (b : Bool) (m j : Nat) : zt_lt cx cy b m j = true ↔ zt_c b (cx j) (cy j) < zt_c b (cx m) (cy m) := by
  unfold zt_lt zt_c
  cases b <;> simp
theorem zt_geI (cx cy : Nat → Nat) (b : Bool) (m j : Nat) : zt_ge cx cy b m j = true ↔ zt_c b (cx m) (cy m) ≤ zt_c b (cx j) (cy j) := by
  unfold zt_ge zt_lt zt_c
  cases b <;> simp
/-- the low side holds nothing of the rectangle -/
theorem zt_plo {cx cy : Nat → Nat} {b : Bool} {m j lo hi : Nat} {t : List Nat} (hj : j ∈ t.filter (zt_lt cx cy b m)) (h : zt_c b (cx m) (cy m) ≤ zt_c b (lo % 64) (lo / 64)) : ¬ zp_in lo hi (cx j) (cy j) = true := by
  have h1 := (zt_ltI cx cy b m j).mp (List.mem_filter.mp hj).2
  intro z
  obtain ⟨z1, z2, z3, z4⟩ := (zp_iff lo hi (cx j) (cy j)).mp z
  cases b
  · have h2 : cx j < cx m := h1
    have h3 : cx m ≤ lo % 64 := h
    omega
  · have h2 : cy j < cy m := h1
    have h3 : cy m ≤ lo / 64 := h
    omega
theorem zt_phi {cx cy : Nat → Nat} {b : Bool} {m j lo hi : Nat} {t : List Nat} (hj : j ∈ t.filter (zt_ge cx cy b m)) (h : zt_c b (hi % 64) (hi / 64) < zt_c b (cx m) (cy m)) : ¬ zp_in lo hi (cx j) (cy j) = true := by
  have h1 := (zt_geI cx cy b m j).mp (List.mem_filter.mp hj).2
  intro z
  obtain ⟨z1, z2, z3, z4⟩ := (zp_iff lo hi (cx j) (cy j)).mp z
  cases b
  · have h2 : cx m ≤ cx j := h1
    have h3 : hi % 64 < cx m := h
    omega
  · have h2 : cy m ≤ cy j := h1
    have h3 : hi / 64 < cy m := h
    omega
/-- the far side lies at least as far as its border -/
theorem zt_flo {cx cy : Nat → Nat} {b : Bool} {m j x y : Nat} {t : List Nat} (hj : j ∈ t.filter (zt_lt cx cy b m)) (h : zt_c b (cx m) (cy m) ≤ zt_c b x y) : zn_d (zt_c b x y) (zt_c b (cx m) (cy m)) * zn_d (zt_c b x y) (zt_c b (cx m) (cy m)) ≤ zn_q x y (cx j) (cy j) := by
  have h1 := (zt_ltI cx cy b m j).mp (List.mem_filter.mp hj).2
  cases b
  · have h2 : cx j < cx m := h1
    have h3 : cx m ≤ x := h
    exact zn_qx (by show zn_d x (cx m) ≤ zn_d x (cx j); unfold zn_d; omega)
  · have h2 : cy j < cy m := h1
    have h3 : cy m ≤ y := h
    exact zn_qy (by show zn_d y (cy m) ≤ zn_d y (cy j); unfold zn_d; omega)
theorem zt_fhi {cx cy : Nat → Nat} {b : Bool} {m j x y : Nat} {t : List Nat} (hj : j ∈ t.filter (zt_ge cx cy b m)) (h : zt_c b x y < zt_c b (cx m) (cy m)) : zn_d (zt_c b x y) (zt_c b (cx m) (cy m)) * zn_d (zt_c b x y) (zt_c b (cx m) (cy m)) ≤ zn_q x y (cx j) (cy j) := by
  have h1 := (zt_geI cx cy b m j).mp (List.mem_filter.mp hj).2
  cases b
  · have h2 : cx m ≤ cx j := h1
    have h3 : x < cx m := h
    exact zn_qx (by show zn_d x (cx m) ≤ zn_d x (cx j); unfold zn_d; omega)
  · have h2 : cy m ≤ cy j := h1
    have h3 : y < cy m := h
    exact zn_qy (by show zn_d y (cy m) ≤ zn_d y (cy j); unfold zn_d; omega)
/-- the alive below i, in their order: what the tree grown anew has taken -/
def zt_I (al : Nat → Bool) (i : Nat) : List Nat := (List.range i).filter al
theorem zt_It {al : Nat → Bool} {i : Nat} (h : al i = true) : zt_I al (i + 1) = zt_I al i ++ [i] := by
  unfold zt_I
  rw [List.range_succ]
  exact zt_fa h
theorem zt_If {al : Nat → Bool} {i : Nat} (h : al i = false) : zt_I al (i + 1) = zt_I al i := by
  unfold zt_I
  rw [List.range_succ]
  exact zt_fb h
theorem zt_Im {al : Nat → Bool} {i k : Nat} : k ∈ zt_I al i ↔ k < i ∧ al k = true := by
  unfold zt_I
  rw [List.mem_filter, List.mem_range]
theorem zt_In (al : Nat → Bool) (i : Nat) : (zt_I al i).Nodup := List.Pairwise.filter _ List.nodup_range
theorem zt_IM (al : Nat → Bool) : zl_M (zt_I al 28) al := ⟨zt_In al 28, fun _ => zt_Im⟩
theorem zt_Il (al : Nat → Bool) (i : Nat) : (zt_I al i).length ≤ i := by
  have := List.length_filter_le al (List.range i)
  rw [List.length_range] at this
  exact this
/-- what waits in the search of a rectangle, and in that of the nearest -/
def zt_W (al : Nat → Bool) (cx cy : Nat → Nat) (lo hi sy w : Nat → Int32) (l : List Nat) (i : Nat) : Prop := l ≠ [] ∧ (∀ j, j ∈ l → j < 28 ∧ al j = true) ∧ ∃ f b, zt_T cx cy lo hi sy f l b (w i)
def zt_X (al : Nat → Bool) (cx cy : Nat → Nat) (q : Nat → Nat) (lo hi sy w g : Nat → Int32) (l : List Nat) (i : Nat) : Prop := zt_W al cx cy lo hi sy w l i ∧ ∃ d, d ≤ 8192 ∧ g i * g i = nI d ∧ ∀ j, j ∈ l → d ≤ q j
theorem zt_Wf {al : Nat → Bool} {cx cy : Nat → Nat} {lo hi sy w : Nat → Int32} {L : List (List Nat)} {i : Nat} {x : Int32} (hi2 : L.length ≤ i) (h : zk_K (zt_W al cx cy lo hi sy w) L) : zk_K (zt_W al cx cy lo hi sy (upd w i x)) L :=
  zk_fr L (fun l j hj hl => by
    unfold zt_W at *
    rw [pk_un (by omega)]
    exact hl) h
theorem zt_Xf {al : Nat → Bool} {cx cy : Nat → Nat} {q : Nat → Nat} {lo hi sy w g : Nat → Int32} {L : List (List Nat)} {i : Nat} {x y : Int32} (hi2 : L.length ≤ i) (h : zk_K (zt_X al cx cy q lo hi sy w g) L) : zk_K (zt_X al cx cy q lo hi sy (upd w i x) (upd g i y)) L :=
  zk_fr L (fun l j hj hl => by
    unfold zt_X zt_W at *
    rw [pk_un (by omega), pk_un (by omega)]
    exact hl) h
theorem zt_N1 {al : Nat → Bool} {cx cy : Nat → Nat} {lo hi sy w : Nat → Int32} {L : List (List Nat)} (h : zk_K (zt_W al cx cy lo hi sy w) L) : L.length ≤ zk_N List.length L :=
  zk_len L (fun l hl => by
    obtain ⟨i, hi, _⟩ := zk_mem L h l hl
    cases l with
    | nil => exact absurd rfl hi
    | cons a t => simp)
theorem zt_N2 {al : Nat → Bool} {cx cy : Nat → Nat} {q : Nat → Nat} {lo hi sy w g : Nat → Int32} {L : List (List Nat)} (h : zk_K (zt_X al cx cy q lo hi sy w g) L) : L.length ≤ zk_N List.length L :=
  zt_N1 (zk_fr L (fun _ _ _ hl => hl.1) h)
/-! ===== the square from a place ===== -/
def zp_f (cx cy : Nat → Nat) (p k : Nat) : Nat := zn_q (p % 64) (p / 64) (cx k) (cy k)
theorem zp_fl {cx cy : Nat → Nat} (hb : zr_b cx cy) {p : Nat} (hp : p < 4096) (k : Nat) : zp_f cx cy p k ≤ 7938 := zn_ql (by omega) (by omega) (hb k).1 (hb k).2
theorem zp_pl {cx cy : Nat → Nat} (hb : zr_b cx cy) (k : Nat) : cx k + 64 * cy k < 4096 := by
  have := hb k
  omega
theorem zp_px {cx cy : Nat → Nat} (hb : zr_b cx cy) (k : Nat) : (cx k + 64 * cy k) % 64 = cx k := by
  have := hb k
  omega
theorem zp_py {cx cy : Nat → Nat} (hb : zr_b cx cy) (k : Nat) : (cx k + 64 * cy k) / 64 = cy k := by
  have := hb k
  omega
/-- any int: a place, or none -/
theorem zp_ix (x : Int32) (n : Nat) (hn : n < 2 ^ 31) : (∃ j, j < n ∧ x = nI j) ∨ (x < 0 ∧ ∀ j, j < n → ¬ x = nI j) ∨ (∃ m, n ≤ m ∧ m < 2 ^ 31 ∧ x = nI m ∧ ∀ j, j < n → ¬ x = nI j) := by
  by_cases h0 : x < 0
  · exact Or.inr (Or.inl ⟨h0, fun j hj e => nI_pos (n := j) (by omega) (by rw [← e]; exact h0)⟩)
  · obtain ⟨m, hm, rfl⟩ := nI_of h0
    by_cases h2 : m < n
    · exact Or.inl ⟨m, h2, rfl⟩
    · exact Or.inr (Or.inr ⟨m, by omega, hm, rfl, fun j hj e => by
        have := (nI_eq hm (by omega)).mp e
        omega⟩)
theorem zn_z1 : ¬ (1 : Int32) = 0 := by decide
theorem zn_28t : (28 : Int32) ≤ nI 28 := by decide
theorem zn_28f {i : Nat} (h : i < 28) : ¬ (28 : Int32) ≤ nI i := nI_ge (b := 28) h (by omega)
