/-! ===== sets of the 28 points as ints ===== -/
def zs_S (x : Int32) (p : Nat → Bool) : Prop := ∀ i, i < 32 → bt x i = (decide (i < 28) && p i)
theorem zs_b1 : ∀ m, m < 32 → bt 1 m = decide (m = 0) := by decide +kernel
theorem zs_ext {x y : Int32} {p q : Nat → Bool} (hx : zs_S x p) (hy : zs_S y q) (h : ∀ k, k < 28 → p k = q k) : x = y := by
  apply b_ext
  intro i hi
  rw [hx i hi, hy i hi]
  by_cases h28 : i < 28
  · rw [h i h28]
  · simp [h28]
theorem zs_cg {x : Int32} {p q : Nat → Bool} (hx : zs_S x p) (h : ∀ k, k < 28 → p k = q k) : zs_S x q := by
  intro i hi
  rw [hx i hi]
  by_cases h28 : i < 28
  · rw [h i h28]
  · simp [h28]
theorem zs_in {x : Int32} {p q : Nat → Bool} (hx : zs_S x p) (hy : zs_S x q) {k : Nat} (hk : k < 28) : p k = q k := by
  have h1 := hx k (by omega)
  have h2 := hy k (by omega)
  rw [h1] at h2
  simpa [hk] using h2
theorem zs_0 : zs_S 0 (fun _ => false) := by
  intro i _
  rw [b_0]; simp
theorem zs_or {x y : Int32} {p q : Nat → Bool} (hx : zs_S x p) (hy : zs_S y q) : zs_S (x ||| y) (fun k => p k || q k) := by
  intro i hi
  show _ = (decide (i < 28) && (p i || q i))
  rw [b_or, hx i hi, hy i hi]
  cases decide (i < 28) <;> cases p i <;> cases q i <;> rfl
theorem zs_and {x y : Int32} {p q : Nat → Bool} (hx : zs_S x p) (hy : zs_S y q) : zs_S (x &&& y) (fun k => p k && q k) := by
  intro i hi
  show _ = (decide (i < 28) && (p i && q i))
  rw [b_and, hx i hi, hy i hi]
  cases decide (i < 28) <;> cases p i <;> cases q i <;> rfl
theorem zs_xor {x y : Int32} {p q : Nat → Bool} (hx : zs_S x p) (hy : zs_S y q) : zs_S (x ^^^ y) (fun k => p k != q k) := by
  intro i hi
  show _ = (decide (i < 28) && (p i != q i))
  rw [b_xor, hx i hi, hy i hi]
  cases decide (i < 28) <;> cases p i <;> cases q i <;> rfl
theorem zs_an {x y : Int32} {p q : Nat → Bool} (hx : zs_S x p) (hy : zs_S y q) : zs_S (x &&& (y ^^^ (-1))) (fun k => p k && !q k) := by
  intro i hi
  show _ = (decide (i < 28) && (p i && !q i))
  rw [b_and, b_xor, b_m1 i hi, hx i hi, hy i hi]
  cases decide (i < 28) <;> cases p i <;> cases q i <;> rfl
theorem zs_one {k : Nat} (hk : k < 28) : zs_S (1 <<< (nI k &&& 31)) (fun j => decide (j = k)) := by
  intro i hi
  rw [b_shl k (by omega) 1 hi, zs_b1 _ (by omega)]
  by_cases e : i = k
  · subst e; simp [hk]
  · by_cases h2 : k ≤ i
    · have h3 : ¬ i - k = 0 := by omega
      simp [e, h3]
    · simp [e, h2]
theorem zs_zero {k : Nat} (hk : k < 28) : zs_S (0 <<< (nI k &&& 31)) (fun _ => false) := by
  intro i hi
  rw [b_shl k (by omega) 0 hi, b_0]
  simp
/-- a shifted bit, as the slices take it -/
theorem zs_bit {k : Nat} (hk : k < 28) (c : Bool) : zs_S ((if c then 1 else 0) <<< (nI k &&& 31)) (fun j => c && decide (j = k)) := by
  cases c
  · exact zs_cg (zs_zero hk) (fun j _ => by simp)
  · exact zs_cg (zs_one hk) (fun j _ => by simp)
theorem zs_set {x : Int32} {p : Nat → Bool} (hx : zs_S x p) {k : Nat} (hk : k < 28) : zs_S (x ||| (1 <<< (nI k &&& 31))) (fun j => p j || decide (j = k)) := zs_or hx (zs_one hk)
theorem zs_clr {x : Int32} {p : Nat → Bool} (hx : zs_S x p) {k : Nat} (hk : k < 28) : zs_S (x &&& ((1 <<< (nI k &&& 31)) ^^^ (-1))) (fun j => p j && !decide (j = k)) := zs_an hx (zs_one hk)
theorem zs_tog {x : Int32} {p : Nat → Bool} (hx : zs_S x p) {k : Nat} (hk : k < 28) : zs_S (x ^^^ (1 <<< (nI k &&& 31))) (fun j => p j != decide (j = k)) := zs_xor hx (zs_one hk)
/-- the test of a bit -/
theorem zs_t {x : Int32} {p : Nat → Bool} (hx : zs_S x p) {k : Nat} (hk : k < 28) : (x >>> (nI k &&& 31)) &&& 1 = if p k then 1 else 0 := by
  apply b_ext
  intro i hi
  rw [b_and, zs_b1 i hi]
  by_cases e : i = 0
  · subst e
    rw [b_sshr k (by omega) x hi, if_pos (by omega), Nat.add_zero, hx k (by omega)]
    cases hp : p k
    · simp [b_0]
    · simp [hk, zs_b1]
  · cases hp : p k
    · simp [e, b_0]
    · simp [e, zs_b1 i hi]
theorem zs_br {x : Int32} {p : Nat → Bool} (hx : zs_S x p) {k : Nat} (hk : k < 28) {A B : Prop} (f : p k = true → A) (g : p k = false → B) : ((x >>> (nI k &&& 31)) &&& 1 = 1 → A) ∧ (¬ (x >>> (nI k &&& 31)) &&& 1 = 1 → B) := by
  rw [zs_t hx hk]
  cases hp : p k
  · exact br_f (by decide) (g hp)
  · exact br_t rfl (f hp)
theorem zs_nn {x : Int32} {p : Nat → Bool} (hx : zs_S x p) : ¬ x < 0 := by
  have h31 := hx 31 (by omega)
  intro h
  rw [Int32.lt_iff_toBitVec_slt] at h
  have h2 : x.toBitVec.slt 0#32 = true := h
  rw [BitVec.slt_zero_eq_msb, BitVec.msb_eq_getLsbD_last] at h2
  have h3 : bt x 31 = true := h2
  rw [h3] at h31
  simp at h31
theorem zs_n1 {x : Int32} {p : Nat → Bool} (hx : zs_S x p) : ¬ x = -1 := by
  intro h
  exact zs_nn hx (by rw [h]; decide)
theorem zs_e {x : Int32} {p : Nat → Bool} (hx : zs_S x p) (h : x = 0) {k : Nat} (hk : k < 28) : p k = false := by
  subst h
  exact zs_in hx zs_0 hk
theorem zs_ne {x : Int32} {p : Nat → Bool} (hx : zs_S x p) (h : ¬ x = 0) : ∃ k, k < 28 ∧ p k = true := by
  apply Classical.byContradiction
  intro hn
  apply h
  refine zs_ext hx zs_0 (fun k hk => ?_)
  cases hp : p k
  · rfl
  · exact absurd ⟨k, hk, hp⟩ hn
/-- the scan loops: what is gathered below i -/
def zs_U (p : Nat → Bool) (i : Nat) : Nat → Bool := fun j => decide (j < i) && p j
theorem zs_u0 (p : Nat → Bool) : zs_S 0 (zs_U p 0) := zs_cg zs_0 (fun k _ => by simp [zs_U])
theorem zs_ut {x : Int32} {p : Nat → Bool} {i : Nat} (h : zs_S x (zs_U p i)) (hi : i < 28) (hp : p i = true) : zs_S (x ||| (1 <<< (nI i &&& 31))) (zs_U p (i + 1)) := by
  refine zs_cg (zs_set h hi) (fun j _ => ?_)
  show ((decide (j < i) && p j) || decide (j = i)) = (decide (j < i + 1) && p j)
  by_cases e : j = i
  · subst e; simp [hp]
  · have h1 : (decide (j < i + 1)) = decide (j < i) := by
      by_cases h2 : j < i
      · rw [decide_eq_true h2, decide_eq_true (by omega)]
      · rw [decide_eq_false h2, decide_eq_false (by omega)]
    rw [h1]; simp [e]
theorem zs_uf {x : Int32} {p : Nat → Bool} {i : Nat} (h : zs_S x (zs_U p i)) (hp : p i = false) : zs_S x (zs_U p (i + 1)) := by
  refine zs_cg h (fun j _ => ?_)
  show (decide (j < i) && p j) = (decide (j < i + 1) && p j)
  by_cases e : j = i
  · subst e; simp [hp]
  · have h1 : (decide (j < i + 1)) = decide (j < i) := by
      by_cases h2 : j < i
      · rw [decide_eq_true h2, decide_eq_true (by omega)]
      · rw [decide_eq_false h2, decide_eq_false (by omega)]
    rw [h1]
theorem zs_u28 {x : Int32} {p : Nat → Bool} (h : zs_S x (zs_U p 28)) : zs_S x p := zs_cg h (fun j hj => by simp [zs_U, hj])
/-! ===== numbers ===== -/
theorem zn_x {p : Nat} (h : p < 4096) : nI p - nI p / 64 * 64 = nI (p % 64) := pk_rem (d := 64) (by omega) (by omega) (by omega)
theorem zn_y {p : Nat} (h : p < 4096) : nI p / 64 = nI (p / 64) := pk_div (d := 64) (by omega) (by omega) (by omega)
theorem zn_8 {p : Nat} (h : p < 4096) : nI p / 8 = nI (p / 8) := pk_div (d := 8) (by omega) (by omega) (by omega)
theorem zn_2 {p : Nat} (h : p < 4096) : nI p / 2 = nI (p / 2) := pk_div (d := 2) (by omega) (by omega) (by omega)
theorem zn_r8 {p : Nat} (h : p < 4096) : nI p - nI p / 8 * 8 = nI (p % 8) := pk_rem (d := 8) (by omega) (by omega) (by omega)
theorem zn_m64 (p : Nat) : 64 * nI p = nI (64 * p) := pk_mul 64 p
theorem zn_m8 (p : Nat) : 8 * nI p = nI (8 * p) := pk_mul 8 p
theorem zn_n1 {k : Nat} (h : k < 2 ^ 31) : ¬ nI k = -1 := by
  intro e
  exact nI_pos h (by rw [e]; decide)
theorem zn_n1' {k : Nat} (h : k < 2 ^ 31) : ¬ (-1 : Int32) = nI k := fun e => zn_n1 h e.symm
/-- how far two numbers lie apart -/
def zn_d (a b : Nat) : Nat := (a - b) + (b - a)
theorem zn_dc (a b : Nat) : zn_d a b = zn_d b a := Nat.add_comm _ _
theorem zn_dd (a b : Nat) : (nI a - nI b) * (nI a - nI b) = nI (zn_d a b * zn_d a b) := by
  rcases Nat.le_total b a with h | h
  · have e : zn_d a b = a - b := by unfold zn_d; omega
    rw [pk_sub h, pk_mul, e]
  · have e : zn_d a b = b - a := by unfold zn_d; omega
    have e2 : nI a - nI b = -(nI b - nI a) := by grind
    rw [e2, Int32.neg_mul_neg, pk_sub h, pk_mul, e]
theorem zn_dl {a b : Nat} (ha : a < 64) (hb : b < 64) : zn_d a b ≤ 63 := by unfold zn_d; omega
theorem zn_sq {a b : Nat} (h : a ≤ b) : a * a ≤ b * b := Nat.mul_le_mul h h
/-- the square between (x, y) and (a, b) -/
def zn_q (x y a b : Nat) : Nat := zn_d x a * zn_d x a + zn_d y b * zn_d y b
theorem zn_qI (x y a b : Nat) : (nI x - nI a) * (nI x - nI a) + (nI y - nI b) * (nI y - nI b) = nI (zn_q x y a b) := by
  rw [zn_dd, zn_dd, nI_add]
  rfl
theorem zn_qc (x y a b : Nat) : zn_q x y a b = zn_q a b x y := by
  unfold zn_q
  rw [zn_dc x a, zn_dc y b]
theorem zn_ql {x y a b : Nat} (hx : x < 64) (hy : y < 64) (ha : a < 64) (hb : b < 64) : zn_q x y a b ≤ 7938 := by
  have h1 := zn_sq (zn_dl hx ha)
  have h2 := zn_sq (zn_dl hy hb)
  unfold zn_q
  omega
theorem zn_qx {x y a b g : Nat} (h : g ≤ zn_d x a) : g * g ≤ zn_q x y a b := by
  have h1 := zn_sq h
  unfold zn_q
  omega
theorem zn_qy {x y a b g : Nat} (h : g ≤ zn_d y b) : g * g ≤ zn_q x y a b := by
  have h1 := zn_sq h
  unfold zn_q
  omega
/-! ===== counts, and the first that is ===== -/
def zn_c (p : Nat → Bool) : Nat → Nat
  | 0 => 0
  | n + 1 => zn_c p n + (if p n then 1 else 0)
theorem zn_cl (p : Nat → Bool) (n : Nat) : zn_c p n ≤ n := by
  induction n with
  | zero => exact Nat.le_refl 0
  | succ n ih => show zn_c p n + (if p n then 1 else 0) ≤ n + 1; split <;> omega
theorem zn_cz (p : Nat → Bool) (n : Nat) (h : ∀ k, k < n → p k = false) : zn_c p n = 0 := by
  induction n with
  | zero => rfl
  | succ n ih =>
    show zn_c p n + (if p n then 1 else 0) = 0
    rw [ih (fun k hk => h k (by omega)), h n (by omega)]
    rfl
theorem zn_cz' (p : Nat → Bool) (n : Nat) (h : zn_c p n = 0) : ∀ k, k < n → p k = false := by
  induction n with
  | zero => intro k hk; omega
  | succ n ih =>
    have h' : zn_c p n + (if p n then 1 else 0) = 0 := h
    intro k hk
    by_cases e : k = n
    · subst e
      cases hp : p k
      · rfl
      · rw [hp] at h'; simp at h'
    · exact ih (by omega) k (by omega)
theorem zn_ccg (p q : Nat → Bool) (n : Nat) (h : ∀ k, k < n → p k = q k) : zn_c p n = zn_c q n := by
  induction n with
  | zero => rfl
  | succ n ih =>
    show zn_c p n + (if p n then 1 else 0) = zn_c q n + (if q n then 1 else 0)
    rw [ih (fun k hk => h k (by omega)), h n (by omega)]
/-- the answer of a search upward from i over d numbers -/
def zn_f (p : Nat → Bool) : Nat → Nat → Int32
  | 0, _ => -1
  | d + 1, i => if p i then nI i else zn_f p d (i + 1)
theorem zn_fcg (p q : Nat → Bool) : ∀ d i, (∀ k, i ≤ k → k < i + d → p k = q k) → zn_f p d i = zn_f q d i := by
  intro d
  induction d with
  | zero => intro i _; rfl
  | succ d ih =>
    intro i h
    show (if p i then nI i else zn_f p d (i + 1)) = (if q i then nI i else zn_f q d (i + 1))
    rw [h i (Nat.le_refl i) (by omega), ih (i + 1) (fun k h1 h2 => h k (by omega) (by omega))]
theorem zn_fu (p : Nat → Bool) (b : Nat) (hb : p b = true) : ∀ d i, i ≤ b → b < i + d → (∀ k, i ≤ k → k < b → p k = false) → zn_f p d i = nI b := by
  intro d
  induction d with
  | zero => intro i h1 h2; omega
  | succ d ih =>
    intro i h1 h2 h3
    show (if p i then nI i else zn_f p d (i + 1)) = nI b
    by_cases e : i = b
    · subst e; rw [if_pos hb]
    · rw [h3 i (Nat.le_refl i) (by omega)]
      exact ih (i + 1) (by omega) (by omega) (fun k h4 h5 => h3 k (by omega) h5)
theorem zn_fn (p : Nat → Bool) : ∀ d i, (∀ k, i ≤ k → k < i + d → p k = false) → zn_f p d i = -1 := by
  intro d
  induction d with
  | zero => intro i _; rfl
  | succ d ih =>
    intro i h
    show (if p i then nI i else zn_f p d (i + 1)) = -1
    rw [h i (Nat.le_refl i) (by omega)]
    exact ih (i + 1) (fun k h4 h5 => h k (by omega) (by omega))
