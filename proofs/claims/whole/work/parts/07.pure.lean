/-! ===== slices ===== -/
theorem zi_dv (c b : Nat) : c / 2 ^ (b + 1) = c / 2 ^ b / 2 := by
  rw [Nat.pow_succ, Nat.div_div_eq_div_mul]
theorem zi_lt (c B b : Nat) : decide (c / 2 ^ b < B / 2 ^ b) = (decide (c / 2 ^ (b + 1) < B / 2 ^ (b + 1)) || (decide (c / 2 ^ (b + 1) = B / 2 ^ (b + 1)) && (!zr_h c b && zr_h B b))) := by
  rw [zi_dv, zi_dv]
  unfold zr_h
  generalize c / 2 ^ b = u
  generalize B / 2 ^ b = w
  rw [Bool.eq_iff_iff]
  simp only [Bool.or_eq_true, Bool.and_eq_true, decide_eq_true_eq, Bool.not_eq_true', decide_eq_false_iff_not]
  omega
theorem zi_eq (c B b : Nat) : decide (c / 2 ^ b = B / 2 ^ b) = (decide (c / 2 ^ (b + 1) = B / 2 ^ (b + 1)) && (zr_h c b == zr_h B b)) := by
  rw [zi_dv, zi_dv]
  unfold zr_h
  generalize c / 2 ^ b = u
  generalize B / 2 ^ b = w
  rw [Bool.eq_iff_iff]
  simp only [Bool.and_eq_true, decide_eq_true_eq, beq_iff_eq, decide_eq_decide]
  omega
theorem zi_bit {c b : Nat} (hc : c < 4096) (hb : b < 32) : (nI c >>> (nI b &&& 31)) &&& 1 = if zr_h c b then 1 else 0 := by
  have h2 : c / 2 ^ b ≤ c := Nat.div_le_self _ _
  rw [pk_shrN (n := c) (by omega) (nI b &&& 31) b (s_l b hb), pk_andN (n := c / 2 ^ b) (m := 1) (by omega) 1 (by decide)]
  unfold zr_h
  generalize c / 2 ^ b = u
  by_cases e : u % 2 = 1
  · rw [decide_eq_true e, show u % 2 ^ 1 = 1 by omega]; rfl
  · rw [decide_eq_false e, show u % 2 ^ 1 = 0 by omega]; rfl
/-! ===== the best so far, a step on ===== -/
theorem zo_take {al : Nat → Bool} {f : Nat → Nat} {best : Int32} {P : Nat → Prop} {k : Nat} (h : zo_B al f best P) (hk : k < 28) (ha : al k = true) (hb : best = -1 ∨ ∃ b, b < 28 ∧ best = nI b ∧ zo_n f k b) : zo_B al f (nI k) (fun j => P j ∨ j = k) := by
  refine Or.inr ⟨k, hk, ha, rfl, fun j hj hP => ?_⟩
  rcases hP with hP | hP
  · rcases h with ⟨h1, h2⟩ | ⟨b, h1, h2, h3, h4⟩
    · exact absurd hP (h2 j hj)
    · rcases hb with hb | ⟨c, hc, e, hn⟩
      · exact absurd (h3.symm.trans hb) (zn_n1 (by omega))
      · have e2 : b = c := (nI_eq (by omega) (by omega)).mp (h3.symm.trans e)
        subst e2
        exact zo_keep (h4 j hj hP) hn
  · subst hP; exact zo_irr f j
theorem zo_stay {al : Nat → Bool} {f : Nat → Nat} {best : Int32} {P : Nat → Prop} {k : Nat} (h : zo_B al f best P) (hb : ∃ b, b < 28 ∧ best = nI b ∧ ¬ zo_n f k b) : zo_B al f best (fun j => P j ∨ j = k) := by
  obtain ⟨c, hc, e, hn⟩ := hb
  rcases h with ⟨h1, h2⟩ | ⟨b, h1, h2, h3, h4⟩
  · exact absurd (h1.symm.trans e) (zn_n1' (by omega))
  · have e2 : b = c := (nI_eq (by omega) (by omega)).mp (h3.symm.trans e)
    subst e2
    refine Or.inr ⟨b, h1, h2, h3, fun j hj hP => ?_⟩
    rcases hP with hP | hP
    · exact h4 j hj hP
    · subst hP; exact hn
theorem zo_or {al : Nat → Bool} {f : Nat → Nat} {best : Int32} {P : Nat → Prop} (h : zo_B al f best P) : best = -1 ∨ ∃ b, b < 28 ∧ al b = true ∧ best = nI b := by
  rcases h with ⟨h1, _⟩ | ⟨b, h1, h2, h3, _⟩
  · exact Or.inl h1
  · exact Or.inr ⟨b, h1, h2, h3⟩
/-- nearer, as a Bool -/
def zo_nb (f : Nat → Nat) (i j : Nat) : Bool := decide (f i < f j) || (decide (f i = f j) && decide (i < j))
theorem zo_nbI (f : Nat → Nat) (i j : Nat) : zo_nb f i j = true ↔ zo_n f i j := by
  unfold zo_nb zo_n
  simp only [Bool.or_eq_true, Bool.and_eq_true, decide_eq_true_eq]
/-- how many are nearer than k -/
def zo_r (al : Nat → Bool) (f : Nat → Nat) (k : Nat) : Nat := zn_c (fun i => al i && zo_nb f i k) 28
/-- the answer of ranked -/
def zo_a (al : Nat → Bool) (f : Nat → Nat) (j : Int32) : Int32 := zn_f (fun k => al k && decide (nI (zo_r al f k) = j)) 28 0
theorem zo_r0 {al : Nat → Bool} {f : Nat → Nat} {k : Nat} : nI (zo_r al f k) = 0 ↔ ∀ i, i < 28 → al i = true → ¬ zo_n f i k := by
  have hl : zo_r al f k ≤ 28 := zn_cl _ _
  rw [← nI_0, nI_eq (by omega) (by omega)]
  constructor
  · intro h i hi ha hn
    have := zn_cz' _ _ h i hi
    rw [ha, (zo_nbI f i k).mpr hn] at this
    exact absurd this (by decide)
  · intro h
    refine zn_cz _ _ (fun i hi => ?_)
    cases ha : al i
    · rfl
    · cases hb : zo_nb f i k
      · rfl
      · exact absurd ((zo_nbI f i k).mp hb) (h i hi ha)
/-- the best of all is the one of rank 0 -/
theorem zo_best {al : Nat → Bool} {f : Nat → Nat} {x : Int32} (h : zo_B al f x (fun k => al k = true)) : x = zo_a al f 0 := by
  rcases h with ⟨h1, h2⟩ | ⟨b, h1, h2, h3, h4⟩
  · rw [h1]
    refine (zn_fn _ 28 0 (fun k _ hk => ?_)).symm
    cases ha : al k
    · rfl
    · exact absurd ha (h2 k (by omega))
  · rw [h3]
    refine (zn_fu _ b ?_ 28 0 (Nat.zero_le b) (by omega) (fun k _ hk => ?_)).symm
    · rw [h2, decide_eq_true (zo_r0.mpr (fun i hi ha => h4 i hi ha))]; rfl
    · cases ha : al k
      · rfl
      · have hne : ¬ nI (zo_r al f k) = 0 := fun z => by
          have h5 := zo_r0.mp z b h1 h2
          have h6 := h4 k (by omega) ha
          have := zo_tot h5 h6
          omega
        rw [decide_eq_false hne]; rfl
/-! ===== is there one ===== -/
def zv_a (p : Nat → Bool) : Nat → Nat → Bool
  | 0, _ => false
  | d + 1, i => p i || zv_a p d (i + 1)
theorem zv_cg (p q : Nat → Bool) : ∀ d i, (∀ k, i ≤ k → k < i + d → p k = q k) → zv_a p d i = zv_a q d i := by
  intro d
  induction d with
  | zero => intro i _; rfl
  | succ d ih =>
    intro i h
    show (p i || zv_a p d (i + 1)) = (q i || zv_a q d (i + 1))
    rw [h i (Nat.le_refl i) (by omega), ih (i + 1) (fun k h1 h2 => h k (by omega) (by omega))]
/-! ===== the least square of two points ===== -/
def zm_m (a b : Nat) : Nat := if a < b then a else b
def zm_i (al : Nat → Bool) (q : Nat → Nat → Nat) (k : Nat) : Nat → Nat
  | 0 => 8192
  | i + 1 => if al i then zm_m (q i k) (zm_i al q k i) else zm_i al q k i
def zm_o (al : Nat → Bool) (q : Nat → Nat → Nat) : Nat → Nat
  | 0 => 8192
  | k + 1 => if al k then zm_m (zm_i al q k k) (zm_o al q k) else zm_o al q k
theorem zm_il (al : Nat → Bool) (q : Nat → Nat → Nat) (k : Nat) : ∀ i, zm_i al q k i ≤ 8192 := by
  intro i
  induction i with
  | zero => exact Nat.le_refl _
  | succ i ih =>
    show (if al i then zm_m (q i k) (zm_i al q k i) else zm_i al q k i) ≤ 8192
    unfold zm_m
    split <;> (try split) <;> omega
theorem zm_ol (al : Nat → Bool) (q : Nat → Nat → Nat) : ∀ k, zm_o al q k ≤ 8192 := by
  intro k
  induction k with
  | zero => exact Nat.le_refl _
  | succ k ih =>
    have := zm_il al q k k
    show (if al k then zm_m (zm_i al q k k) (zm_o al q k) else zm_o al q k) ≤ 8192
    unfold zm_m
    split <;> (try split) <;> omega
theorem zm_ii {al : Nat → Bool} {q : Nat → Nat → Nat} (hq : ∀ i k, q i k ≤ 7938) (k : Nat) : ∀ i, zm_i al q k i < 8192 ↔ ∃ j, j < i ∧ al j = true := by
  intro i
  induction i with
  | zero => exact ⟨fun h => absurd h (by show ¬ 8192 < 8192; omega), fun ⟨j, hj, _⟩ => by omega⟩
  | succ i ih =>
    have h1 := hq i k
    show (if al i then zm_m (q i k) (zm_i al q k i) else zm_i al q k i) < 8192 ↔ _
    cases ha : al i
    · rw [if_neg (by decide), ih]
      constructor
      · intro ⟨j, h2, h3⟩; exact ⟨j, by omega, h3⟩
      · intro ⟨j, h2, h3⟩
        have h4 : j ≠ i := fun e => by rw [e, ha] at h3; exact absurd h3 (by decide)
        exact ⟨j, by omega, h3⟩
    · rw [if_pos rfl]
      constructor
      · intro _; exact ⟨i, by omega, ha⟩
      · intro _; unfold zm_m; split <;> omega
theorem zm_oo {al : Nat → Bool} {q : Nat → Nat → Nat} (hq : ∀ i k, q i k ≤ 7938) : ∀ n, zm_o al q n < 8192 ↔ ∃ i k, i < k ∧ k < n ∧ al i = true ∧ al k = true := by
  intro n
  induction n with
  | zero => exact ⟨fun h => absurd h (by show ¬ 8192 < 8192; omega), fun ⟨i, k, _, hk, _⟩ => by omega⟩
  | succ n ih =>
    have hi := zm_ii (al := al) hq n n
    show (if al n then zm_m (zm_i al q n n) (zm_o al q n) else zm_o al q n) < 8192 ↔ _
    cases ha : al n
    · rw [if_neg (by decide), ih]
      constructor
      · intro ⟨i, k, h1, h2, h3, h4⟩; exact ⟨i, k, h1, by omega, h3, h4⟩
      · intro ⟨i, k, h1, h2, h3, h4⟩
        have h5 : k ≠ n := fun e => by rw [e, ha] at h4; exact absurd h4 (by decide)
        exact ⟨i, k, h1, by omega, h3, h4⟩
    · rw [if_pos rfl]
      have hm : zm_m (zm_i al q n n) (zm_o al q n) < 8192 ↔ zm_i al q n n < 8192 ∨ zm_o al q n < 8192 := by unfold zm_m; split <;> omega
      rw [hm, hi, ih]
      constructor
      · intro h
        rcases h with ⟨j, h1, h2⟩ | ⟨i, k, h1, h2, h3, h4⟩
        · exact ⟨j, n, h1, by omega, h2, ha⟩
        · exact ⟨i, k, h1, by omega, h3, h4⟩
      · intro ⟨i, k, h1, h2, h3, h4⟩
        by_cases e : k = n
        · subst e; exact Or.inl ⟨i, h1, h3⟩
        · exact Or.inr ⟨i, k, h1, by omega, h3, h4⟩
/-! ===== a search with things that wait ===== -/
def zj_J {α : Type} (X : Nat → Bool) (M : α → Nat → Prop) (F : Nat → Bool) (L : List α) : Prop :=
  (∀ k, k < 28 → F k = true → X k = true) ∧ ∀ k, k < 28 → X k = true → F k = true ∨ ∃ l, l ∈ L ∧ M l k
theorem zj_mv {α : Type} {X : Nat → Bool} {M : α → Nat → Prop} {F F' : Nat → Bool} {L L' : List α} (h : zj_J X M F L) (h1 : ∀ k, k < 28 → F k = true → F' k = true) (h2 : ∀ k, k < 28 → F' k = true → X k = true)
    (h3 : ∀ k l, k < 28 → X k = true → l ∈ L → M l k → F' k = true ∨ ∃ l', l' ∈ L' ∧ M l' k) : zj_J X M F' L' := by
  refine ⟨h2, fun k hk hX => ?_⟩
  rcases h.2 k hk hX with z | ⟨l, z1, z2⟩
  · exact Or.inl (h1 k hk z)
  · exact h3 k l hk hX z1 z2
theorem zj_drop {α : Type} {X : Nat → Bool} {M : α → Nat → Prop} {F : Nat → Bool} {l : α} {L : List α} (h : zj_J X M F (l :: L)) (h1 : ∀ k, k < 28 → X k = true → ¬ M l k) : zj_J X M F L :=
  zj_mv h (fun _ _ z => z) h.1 (fun k m hk hX hm hM => by
    rcases List.mem_cons.mp hm with e | e
    · subst e; exact absurd hM (h1 k hk hX)
    · exact Or.inr ⟨m, e, hM⟩)
theorem zj_take {α : Type} {X : Nat → Bool} {M : α → Nat → Prop} {F F' : Nat → Bool} {l : α} {L : List α} (h : zj_J X M F (l :: L)) (h1 : ∀ k, k < 28 → F k = true → F' k = true) (h2 : ∀ k, k < 28 → F' k = true → X k = true) (h3 : ∀ k, k < 28 → X k = true → M l k → F' k = true) : zj_J X M F' L :=
  zj_mv h h1 h2 (fun k m hk hX hm hM => by
    rcases List.mem_cons.mp hm with e | e
    · subst e; exact Or.inl (h3 k hk hX hM)
    · exact Or.inr ⟨m, e, hM⟩)
theorem zj_end {α : Type} {X : Nat → Bool} {M : α → Nat → Prop} {F : Nat → Bool} (h : zj_J X M F ([] : List α)) : ∀ k, k < 28 → F k = X k := by
  intro k hk
  cases hX : X k
  · cases hF : F k
    · rfl
    · have := h.1 k hk hF
      rw [hX] at this
      exact absurd this (by decide)
  · rcases h.2 k hk hX with z | ⟨l, z, _⟩
    · exact z
    · exact absurd z (by simp)
/-! ===== two numbers and a choice ===== -/
theorem zn_lt2 {a b : Nat} (ha : a ≤ 8192) (hb : b ≤ 8192) : nI a < nI b ↔ a < b := nI_ltI (by omega) (by omega)
theorem zn_le2 {a b : Nat} (ha : a ≤ 8192) (hb : b ≤ 8192) : nI a ≤ nI b ↔ a ≤ b := nI_leI (by omega) (by omega)
theorem zn_eq2 {a b : Nat} (ha : a ≤ 8192) (hb : b ≤ 8192) : nI a = nI b ↔ a = b := nI_eq (by omega) (by omega)
