/-! ===== the quads ===== -/
def zq_d : Nat → Nat → Nat × Nat × Nat
  | 0, _ => (0, 0, 64)
  | f + 1, n => if n = 0 then (0, 0, 64) else ((zq_d f ((n - 1) / 4)).1 + (zq_d f ((n - 1) / 4)).2.2 / 2 * ((n - 1) % 4 % 2), (zq_d f ((n - 1) / 4)).2.1 + (zq_d f ((n - 1) / 4)).2.2 / 2 * ((n - 1) % 4 / 2), (zq_d f ((n - 1) / 4)).2.2 / 2)
def zq_x (n : Nat) : Nat := (zq_d 4 n).1
def zq_y (n : Nat) : Nat := (zq_d 4 n).2.1
def zq_s (n : Nat) : Nat := (zq_d 4 n).2.2
theorem zq_stx : ∀ m, m < 85 → ∀ q, q < 4 → zq_x (4 * m + 1 + q) = zq_x m + zq_s m / 2 * (q % 2) := by decide +kernel
theorem zq_sty : ∀ m, m < 85 → ∀ q, q < 4 → zq_y (4 * m + 1 + q) = zq_y m + zq_s m / 2 * (q / 2) := by decide +kernel
theorem zq_sts : ∀ m, m < 85 → ∀ q, q < 4 → zq_s (4 * m + 1 + q) = zq_s m / 2 := by decide +kernel
theorem zq_bd : ∀ n, n < 341 → zq_x n + zq_s n ≤ 64 ∧ zq_y n + zq_s n ≤ 64 ∧ 4 ≤ zq_s n := by decide +kernel
theorem zq_ev : ∀ m, m < 85 → zq_s m / 2 * 2 = zq_s m := by decide +kernel
def zq_in (n x y : Nat) : Bool := decide (zq_x n ≤ x) && decide (x < zq_x n + zq_s n) && decide (zq_y n ≤ y) && decide (y < zq_y n + zq_s n)
theorem zq_iff (n x y : Nat) : zq_in n x y = true ↔ (zq_x n ≤ x ∧ x < zq_x n + zq_s n) ∧ zq_y n ≤ y ∧ y < zq_y n + zq_s n := by
  unfold zq_in
  simp only [Bool.and_eq_true, decide_eq_true_eq, and_assoc]
def zq_rx (m x : Nat) : Nat := if zq_x m + zq_s m / 2 ≤ x then 1 else 0
def zq_ry (m y : Nat) : Nat := if zq_y m + zq_s m / 2 ≤ y then 2 else 0
theorem zq_num {X Y h x y q rx ry : Nat} (hq : q < 4) (erx : rx = if X + h ≤ x then 1 else 0) (ery : ry = if Y + h ≤ y then 2 else 0) :
    ((X + h * (q % 2) ≤ x ∧ x < X + h * (q % 2) + h) ∧ Y + h * (q / 2) ≤ y ∧ y < Y + h * (q / 2) + h) ↔ ((X ≤ x ∧ x < X + h * 2) ∧ Y ≤ y ∧ y < Y + h * 2) ∧ q = rx + ry := by
  have hc : q = 0 ∨ q = 1 ∨ q = 2 ∨ q = 3 := by omega
  rcases hc with e | e | e | e <;> subst e <;> simp only [Nat.reduceMod, Nat.reduceDiv, Nat.mul_zero, Nat.mul_one, Nat.add_zero] <;> split at erx <;> split at ery <;> omega
theorem zq_ch {m : Nat} (hm : m < 85) {q : Nat} (hq : q < 4) (x y : Nat) : zq_in (4 * m + 1 + q) x y = true ↔ zq_in m x y = true ∧ q = zq_rx m x + zq_ry m y := by
  rw [zq_iff, zq_iff, zq_stx m hm q hq, zq_sty m hm q hq, zq_sts m hm q hq, zq_num hq (rx := zq_rx m x) (ry := zq_ry m y) rfl rfl, zq_ev m hm]
theorem zq_r4 (m x y : Nat) : zq_rx m x + zq_ry m y < 4 := by
  unfold zq_rx zq_ry
  split <;> split <;> omega
/-- the first quad of a level -/
def zq_o : Nat → Nat
  | 0 => 0
  | t + 1 => 4 * zq_o t + 1
theorem zq_o85 : ∀ t, t < 4 → zq_o (t + 1) ≤ 85 := by decide
/-- the quads on the way to a point -/
def zq_p (x y : Nat) : Nat → Nat
  | 0 => 0
  | t + 1 => 4 * zq_p x y t + 1 + (zq_rx (zq_p x y t) x + zq_ry (zq_p x y t) y)
theorem zq_0 {x y : Nat} (hx : x < 64) (hy : y < 64) : zq_in 0 x y = true := by
  rw [zq_iff]
  have h1 : zq_x 0 = 0 := by decide
  have h2 : zq_y 0 = 0 := by decide
  have h3 : zq_s 0 = 64 := by decide
  rw [h1, h2, h3]
  omega
theorem zq_pl {x y : Nat} (hx : x < 64) (hy : y < 64) : ∀ t, t ≤ 4 → (zq_o t ≤ zq_p x y t ∧ zq_p x y t < zq_o (t + 1)) ∧ ∀ n, zq_o t ≤ n → n < zq_o (t + 1) → (zq_in n x y = true ↔ n = zq_p x y t) := by
  intro t
  induction t with
  | zero =>
    intro _
    refine ⟨⟨Nat.le_refl _, Nat.zero_lt_one⟩, fun n _ h => ?_⟩
    have e1 : zq_o (0 + 1) = 1 := rfl
    have e2 : n = 0 := by omega
    subst e2
    exact ⟨fun _ => rfl, fun _ => zq_0 hx hy⟩
  | succ t ih =>
    intro ht
    obtain ⟨⟨h1, h2⟩, h3⟩ := ih (by omega)
    have h4 := zq_r4 (zq_p x y t) x y
    have h85 := zq_o85 t (by omega)
    have e1 : zq_o (t + 1) = 4 * zq_o t + 1 := rfl
    have e2 : zq_o (t + 1 + 1) = 4 * zq_o (t + 1) + 1 := rfl
    have e3 : zq_p x y (t + 1) = 4 * zq_p x y t + 1 + (zq_rx (zq_p x y t) x + zq_ry (zq_p x y t) y) := rfl
    refine ⟨by omega, fun n hn1 hn2 => ?_⟩
    obtain ⟨m, q, hq, rfl⟩ : ∃ m q, q < 4 ∧ n = 4 * m + 1 + q := ⟨(n - 1) / 4, (n - 1) % 4, Nat.mod_lt _ (by omega), by omega⟩
    have hm1 : zq_o t ≤ m := by omega
    have hm2 : m < zq_o (t + 1) := by omega
    rw [zq_ch (by omega) hq, h3 m hm1 hm2, e3]
    constructor
    · intro ⟨z1, z2⟩
      subst z1
      omega
    · intro z
      have z1 : m = zq_p x y t := by omega
      subst z1
      exact ⟨rfl, by omega⟩
theorem zq_p341 {x y : Nat} (hx : x < 64) (hy : y < 64) {t : Nat} (ht : t ≤ 4) : zq_p x y t < 341 := by
  have h := (zq_pl hx hy t ht).1.2
  have h2 : ∀ t, t ≤ 4 → zq_o (t + 1) ≤ 341 := by decide
  have := h2 t ht
  omega
theorem zq_p85 {x y : Nat} (hx : x < 64) (hy : y < 64) {t : Nat} (ht : t < 4) : zq_p x y t < 85 := by
  have h := (zq_pl hx hy t (by omega)).1.2
  have := zq_o85 t ht
  omega
/-- the array after t + 1 flips -/
theorem zq_fl {x y : Nat} (hx : x < 64) (hy : y < 64) {t : Nat} (ht : t ≤ 4) {a old : Nat → Int32} {v : Int32} (h : ∀ n, n < 341 → a n = if decide (n < zq_o t) && zq_in n x y then old n ^^^ v else old n) :
    ∀ n, n < 341 → upd a (zq_p x y t) (a (zq_p x y t) ^^^ v) n = if decide (n < zq_o (t + 1)) && zq_in n x y then old n ^^^ v else old n := by
  intro n hn
  obtain ⟨⟨h1, h2⟩, h3⟩ := zq_pl hx hy t ht
  have e1 : zq_o (t + 1) = 4 * zq_o t + 1 := rfl
  by_cases e : n = zq_p x y t
  · subst e
    rw [pk_us, h _ hn, decide_eq_true h2, decide_eq_false (by omega : ¬ zq_p x y t < zq_o t), (h3 _ h1 h2).mpr rfl]
    first | rfl | simp
  · rw [pk_un e, h n hn]
    by_cases hl : n < zq_o t
    · rw [decide_eq_true hl, decide_eq_true (by omega : n < zq_o (t + 1))]
    · rw [decide_eq_false hl]
      by_cases hl2 : n < zq_o (t + 1)
      · have h4 : zq_in n x y = false := by
          cases hz : zq_in n x y
          · rfl
          · exact absurd ((h3 n (by omega) hl2).mp hz) e
        rw [h4, Bool.and_false, Bool.and_false]
      · rw [decide_eq_false hl2]
/-- how many quads hang below a quad, with itself -/
def zq_w (n : Nat) : Nat := if n = 0 then 341 else if n < 5 then 85 else if n < 21 then 21 else if n < 85 then 5 else 1
theorem zq_w1 (n : Nat) : 1 ≤ zq_w n := by
  unfold zq_w
  (repeat' split) <;> omega
theorem zq_w4 : ∀ m, m < 85 → zq_w (4 * m + 1 + 0) + zq_w (4 * m + 1 + 1) + zq_w (4 * m + 1 + 2) + zq_w (4 * m + 1 + 3) + 1 = zq_w m := by decide +kernel
/-! ===== the rectangle, the grid ===== -/
/-- is (x, y) in the rectangle of two places -/
def zp_in (lo hi x y : Nat) : Bool := decide (lo % 64 ≤ x) && decide (x ≤ hi % 64) && decide (lo / 64 ≤ y) && decide (y ≤ hi / 64)
theorem zp_iff (lo hi x y : Nat) : zp_in lo hi x y = true ↔ lo % 64 ≤ x ∧ x ≤ hi % 64 ∧ lo / 64 ≤ y ∧ y ≤ hi / 64 := by
  unfold zp_in
  simp only [Bool.and_eq_true, decide_eq_true_eq, and_assoc]
/-- the ring of the grid in which a point lies, seen from a place -/
def zp_rg (x y a b : Nat) : Nat := if zn_d (x / 8) (a / 8) ≤ zn_d (y / 8) (b / 8) then zn_d (y / 8) (b / 8) else zn_d (x / 8) (a / 8)
theorem zp_rg7 {x y a b : Nat} (hx : x < 64) (hy : y < 64) (ha : a < 64) (hb : b < 64) : zp_rg x y a b < 8 := by
  unfold zp_rg zn_d
  split <;> omega
theorem zp_gap {x y a b r : Nat} (h : r + 1 ≤ zp_rg x y a b) : (8 * r + 1) * (8 * r + 1) ≤ zn_q x y a b := by
  unfold zp_rg at h
  split at h
  · exact zn_qy (by unfold zn_d at *; omega)
  · exact zn_qx (by unfold zn_d at *; omega)
theorem zp_rgE (x y a b r : Nat) : (zn_d (a / 8) (x / 8) = r ∧ zn_d (b / 8) (y / 8) ≤ r ∨ zn_d (b / 8) (y / 8) = r ∧ zn_d (a / 8) (x / 8) ≤ r) ↔ zp_rg x y a b = r := by
  unfold zp_rg
  rw [zn_dc (a / 8), zn_dc (b / 8)]
  split <;> omega
