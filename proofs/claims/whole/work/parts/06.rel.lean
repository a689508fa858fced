/-! ===== what the component keeps, part by part, against the picture al, cx, cy ===== -/
def zr_b (cx cy : Nat → Nat) : Prop := ∀ k, cx k < 64 ∧ cy k < 64
def zr_P (cx cy : Nat → Nat) (px py : Nat → Int32) : Prop := ∀ k, k < 28 → px k = nI (cx k) ∧ py k = nI (cy k)
def zr_O (al : Nat → Bool) (cx : Nat → Nat) (held : Int32) (byX : Nat → Int32) : Prop := ∃ S, zl_M S al ∧ S.Pairwise (fun a b => cx a ≤ cx b) ∧ held = nI S.length ∧ zl_A byX 0 S
def zr_R (al : Nat → Bool) (cy : Nat → Nat) (rh rn : Nat → Int32) : Prop := ∀ y, y < 64 → ∃ R, zl_M R (fun k => al k && decide (cy k = y)) ∧ zl_C rn R (rh y)
def zr_c (cx cy : Nat → Nat) (k : Nat) : Nat := cx k / 8 + 8 * (cy k / 8)
def zr_C (al : Nat → Bool) (cx cy : Nat → Nat) (cell : Nat → Int32) : Prop := ∀ c, c < 64 → zs_S (cell c) (fun k => al k && decide (zr_c cx cy k = c))
def zr_Q (al : Nat → Bool) (cx cy : Nat → Nat) (quad : Nat → Int32) : Prop := ∀ n, n < 341 → zs_S (quad n) (fun k => al k && zq_in n (cx k) (cy k))
def zr_L (qx qy qs : Nat → Int32) : Prop := ∀ n, n < 341 → qx n = nI (zq_x n) ∧ qy n = nI (zq_y n) ∧ qs n = nI (zq_s n)
def zr_T (al : Nat → Bool) (cx cy : Nat → Nat) (root : Int32) (lo hi sy : Nat → Int32) : Prop := ∃ T f, zl_M T al ∧ zt_T cx cy lo hi sy f T false root
def zr_B (al : Nat → Bool) (c : Nat → Nat) (less : Nat → Int32) : Prop := ∀ b, b < 65 → zs_S (less b) (fun k => al k && decide (c k < b))
def zr_h (c b : Nat) : Bool := decide (c / 2 ^ b % 2 = 1)
def zr_I (al : Nat → Bool) (cx cy : Nat → Nat) (sl : Nat → Int32) : Prop := ∀ b, b < 6 → zs_S (sl b) (fun k => al k && zr_h (cx k) b) ∧ zs_S (sl (6 + b)) (fun k => al k && zr_h (cy k) b)
/-- k comes or goes -/
def zr_F (al al' : Nat → Bool) (k : Nat) : Prop := (∀ j, j ≠ k → al' j = al j) ∧ al' k = !al k
theorem zr_Fin (al : Nat → Bool) (k : Nat) (h : al k = false) : zr_F al (fun j => al j || decide (j = k)) k := by
  refine ⟨fun j hj => ?_, ?_⟩
  · simp [hj]
  · simp [h]
theorem zr_Fout (al : Nat → Bool) (k : Nat) (h : al k = true) : zr_F al (fun j => al j && !decide (j = k)) k := by
  refine ⟨fun j hj => ?_, ?_⟩
  · simp [hj]
  · simp [h]
theorem zr_Fi {al al' : Nat → Bool} {k : Nat} (h : zr_F al al' k) (hk : al k = false) (j : Nat) : al' j = (al j || decide (j = k)) := by
  by_cases e : j = k
  · subst e; rw [h.2, hk]; simp
  · rw [h.1 j e]; simp [e]
theorem zr_Fo {al al' : Nat → Bool} {k : Nat} (h : zr_F al al' k) (hk : al k = true) (j : Nat) : al' j = (al j && !decide (j = k)) := by
  by_cases e : j = k
  · subst e; rw [h.2, hk]; simp
  · rw [h.1 j e]; simp [e]
/-- the flip of a bit of a set -/
theorem zr_ft {x : Int32} {al al' c : Nat → Bool} {k : Nat} (hx : zs_S x (fun j => al j && c j)) (hk : k < 28) (hF : zr_F al al' k) (hc : c k = true) : zs_S (x ^^^ (1 <<< (nI k &&& 31))) (fun j => al' j && c j) := by
  refine zs_cg (zs_tog hx hk) (fun j _ => ?_)
  by_cases e : j = k
  · subst e; rw [hF.2, hc]; cases al j <;> simp
  · rw [hF.1 j e]; simp [e]
theorem zr_ff {x : Int32} {al al' c : Nat → Bool} {k : Nat} (hx : zs_S x (fun j => al j && c j)) (hF : zr_F al al' k) (hc : c k = false) : zs_S x (fun j => al' j && c j) := by
  refine zs_cg hx (fun j _ => ?_)
  by_cases e : j = k
  · subst e; rw [hc]; simp
  · rw [hF.1 j e]
theorem zr_fb {x : Int32} {al al' c : Nat → Bool} {k : Nat} (hx : zs_S x (fun j => al j && c j)) (hk : k < 28) (hF : zr_F al al' k) : zs_S (x ^^^ ((if c k then 1 else 0) <<< (nI k &&& 31))) (fun j => al' j && c j) := by
  refine zs_cg (zs_xor hx (zs_bit hk (c k))) (fun j _ => ?_)
  by_cases e : j = k
  · subst e; rw [hF.2]; cases al j <;> cases c j <;> simp
  · rw [hF.1 j e]; simp [e]
/-! ===== a dead point's place is nobody's business ===== -/
def zr_w (c : Nat → Nat) (k v : Nat) : Nat → Nat := fun j => if j = k then v else c j
theorem zr_ws {c : Nat → Nat} {k v : Nat} : zr_w c k v k = v := if_pos rfl
theorem zr_wn {c : Nat → Nat} {k v j : Nat} (h : j ≠ k) : zr_w c k v j = c j := if_neg h
theorem zr_wb {cx cy : Nat → Nat} {k x y : Nat} (h : zr_b cx cy) (hx : x < 64) (hy : y < 64) : zr_b (zr_w cx k x) (zr_w cy k y) := by
  intro j
  by_cases e : j = k
  · subst e; rw [zr_ws, zr_ws]; exact ⟨hx, hy⟩
  · rw [zr_wn e, zr_wn e]; exact h j
theorem zr_wP {cx cy : Nat → Nat} {px py : Nat → Int32} {k x y : Nat} (h : zr_P cx cy px py) : zr_P (zr_w cx k x) (zr_w cy k y) (upd px k (nI x)) (upd py k (nI y)) := by
  intro j hj
  by_cases e : j = k
  · subst e; rw [zr_ws, zr_ws, pk_us, pk_us]; exact ⟨rfl, rfl⟩
  · rw [zr_wn e, zr_wn e, pk_un e, pk_un e]; exact h j hj
theorem zr_ws2 {x : Int32} {al c c' : Nat → Bool} {k : Nat} (hx : zs_S x (fun j => al j && c j)) (hk : al k = false) (h : ∀ j, j ≠ k → c' j = c j) : zs_S x (fun j => al j && c' j) := by
  refine zs_cg hx (fun j _ => ?_)
  by_cases e : j = k
  · subst e; rw [hk]; rfl
  · rw [h j e]
theorem zr_wO {al : Nat → Bool} {cx : Nat → Nat} {held : Int32} {byX : Nat → Int32} {k x : Nat} (h : zr_O al cx held byX) (hk : al k = false) : zr_O al (zr_w cx k x) held byX := by
  obtain ⟨S, h1, h2, h3, h4⟩ := h
  refine ⟨S, h1, ?_, h3, h4⟩
  refine List.Pairwise.imp_of_mem (fun ha hb hab => ?_) h2
  have hn : ∀ j, j ∈ S → j ≠ k := fun j hj e => by
    have := ((h1.2 j).mp hj).2
    rw [e, hk] at this
    exact absurd this (by decide)
  rw [zr_wn (hn _ ha), zr_wn (hn _ hb)]
  exact hab
theorem zr_wR {al : Nat → Bool} {cy : Nat → Nat} {rh rn : Nat → Int32} {k y : Nat} (h : zr_R al cy rh rn) (hk : al k = false) : zr_R al (zr_w cy k y) rh rn := by
  intro r hr
  obtain ⟨R, h1, h2⟩ := h r hr
  refine ⟨R, zl_cg h1 (fun j _ => ?_), h2⟩
  by_cases e : j = k
  · subst e; rw [hk]; rfl
  · rw [zr_wn e]
theorem zr_wC {al : Nat → Bool} {cx cy : Nat → Nat} {cell : Nat → Int32} {k x y : Nat} (h : zr_C al cx cy cell) (hk : al k = false) : zr_C al (zr_w cx k x) (zr_w cy k y) cell :=
  fun c hc => zr_ws2 (c := fun j => decide (zr_c cx cy j = c)) (h c hc) hk (fun j e => by unfold zr_c; rw [zr_wn e, zr_wn e])
theorem zr_wQ {al : Nat → Bool} {cx cy : Nat → Nat} {quad : Nat → Int32} {k x y : Nat} (h : zr_Q al cx cy quad) (hk : al k = false) : zr_Q al (zr_w cx k x) (zr_w cy k y) quad :=
  fun n hn => zr_ws2 (c := fun j => zq_in n (cx j) (cy j)) (h n hn) hk (fun j e => by rw [zr_wn e, zr_wn e])
theorem zr_wT {al : Nat → Bool} {cx cy : Nat → Nat} {root : Int32} {lo hi sy : Nat → Int32} {k x y : Nat} (h : zr_T al cx cy root lo hi sy) (hk : al k = false) : zr_T al (zr_w cx k x) (zr_w cy k y) root lo hi sy := by
  obtain ⟨T, f, h1, h2⟩ := h
  refine ⟨T, f, h1, zt_fr _ _ _ _ (fun j hj => ?_) h2⟩
  have hn : j ≠ k := fun e => by
    have := ((h1.2 j).mp hj).2
    rw [e, hk] at this
    exact absurd this (by decide)
  exact ⟨zr_wn hn, zr_wn hn, rfl, rfl, rfl⟩
theorem zr_wB {al : Nat → Bool} {c : Nat → Nat} {less : Nat → Int32} {k x : Nat} (h : zr_B al c less) (hk : al k = false) : zr_B al (zr_w c k x) less :=
  fun b hb => zr_ws2 (c := fun j => decide (c j < b)) (h b hb) hk (fun j e => by rw [zr_wn e])
theorem zr_wI {al : Nat → Bool} {cx cy : Nat → Nat} {sl : Nat → Int32} {k x y : Nat} (h : zr_I al cx cy sl) (hk : al k = false) : zr_I al (zr_w cx k x) (zr_w cy k y) sl :=
  fun b hb => ⟨zr_ws2 (c := fun j => zr_h (cx j) b) (h b hb).1 hk (fun j e => by rw [zr_wn e]), zr_ws2 (c := fun j => zr_h (cy j) b) (h b hb).2 hk (fun j e => by rw [zr_wn e])⟩
/-! ===== the reference's array ===== -/
def zr_V (al : Nat → Bool) (cx cy : Nat → Nat) (v : Nat → Int32) : Prop := ∀ k, k < 28 → v k = if al k then nI (cx k + 64 * cy k + 1) else 0
theorem zr_Vt {al : Nat → Bool} {cx cy : Nat → Nat} {v : Nat → Int32} (h : zr_V al cx cy v) {k : Nat} (hk : k < 28) (ha : al k = true) : v k = nI (cx k + 64 * cy k + 1) := by rw [h k hk, ha]; rfl
theorem zr_Vf {al : Nat → Bool} {cx cy : Nat → Nat} {v : Nat → Int32} (h : zr_V al cx cy v) {k : Nat} (hk : k < 28) (ha : al k = false) : v k = 0 := by rw [h k hk, ha]; rfl
theorem zr_Vin {al : Nat → Bool} {cx cy : Nat → Nat} {v : Nat → Int32} (h : zr_V al cx cy v) (k p : Nat) : zr_V (fun j => al j || decide (j = k)) (zr_w cx k (p % 64)) (zr_w cy k (p / 64)) (upd v k (nI (p + 1))) := by
  intro j hj
  by_cases e : j = k
  · subst e
    rw [pk_us, zr_ws, zr_ws]
    have e2 : p % 64 + 64 * (p / 64) = p := Nat.mod_add_div p 64
    simp [e2]
  · rw [pk_un e, zr_wn e, zr_wn e, h j hj]; simp [e]
theorem zr_Vout {al : Nat → Bool} {cx cy : Nat → Nat} {v : Nat → Int32} (h : zr_V al cx cy v) (k : Nat) : zr_V (fun j => al j && !decide (j = k)) cx cy (upd v k 0) := by
  intro j hj
  by_cases e : j = k
  · subst e
    rw [pk_us]; simp
  · rw [pk_un e, h j hj]; simp [e]
