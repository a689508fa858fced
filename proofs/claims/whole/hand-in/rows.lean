section
theorem pk_us {f : Nat → Int32} {k : Nat} {x : Int32} : upd f k x k = x := if_pos rfl
theorem pk_un {f : Nat → Int32} {k j : Nat} {x : Int32} (h : j ≠ k) : upd f k x j = f j := if_neg h
theorem pk_sub {a b : Nat} (h : b ≤ a) : nI a - nI b = nI (a - b) := by
  obtain ⟨c, rfl⟩ : ∃ c, a = c + b := ⟨a - b, by omega⟩
  rw [← nI_add, Int32.add_sub_cancel, Nat.add_sub_cancel]
theorem pk_m1 (n : Nat) : nI (n + 1) + (-1) = nI n := by
  rw [← nI_1, Int32.add_assoc, show (1 : Int32) + (-1) = 0 from rfl, Int32.add_zero]
theorem pk_mul (a b : Nat) : nI a * nI b = nI (a * b) := (Int32.ofNat_mul a b).symm
theorem pk_div {a d : Nat} (ha : a < 2 ^ 31) (h0 : 0 < d) (hd : d < 2 ^ 31) : nI a / nI d = nI (a / d) := by
  apply Int32.toInt_inj.mp
  rw [lg_idiv_nonneg (by rw [nI_toInt ha]; omega) (by rw [nI_toInt hd]; omega), nI_toInt ha, nI_toInt hd, nI_toInt (Nat.lt_of_le_of_lt (Nat.div_le_self a d) ha)]
  first | rfl | exact (Int.natCast_ediv _ _).symm
theorem pk_rem {a d : Nat} (ha : a < 2 ^ 31) (h0 : 0 < d) (hd : d < 2 ^ 31) : nI a - nI a / nI d * nI d = nI (a % d) := by
  rw [pk_div ha h0 hd, pk_mul, pk_sub (Nat.div_mul_le_self a d)]
  exact congrArg nI (by have := Nat.div_add_mod' a d; omega)
theorem pk_sub_toInt {a b : Nat} (ha : a < 2 ^ 30) (hb : b < 2 ^ 30) : (nI a - nI b).toInt = (a : Int) - b := by
  rw [Int32.toInt_sub, nI_toInt (by omega), nI_toInt (by omega)]
  exact Int.bmod_eq_of_le (by omega) (by omega)
theorem pk_sneg {a b : Nat} (hb : b < 2 ^ 30) (h : a < b) : nI a - nI b < 0 := by
  rw [Int32.lt_iff_toInt_lt, pk_sub_toInt (by omega) hb, show (0 : Int32).toInt = 0 from by decide]
  omega
theorem pk_ix (x : Int32) {n : Nat} (hn : n < 2 ^ 31) : x < 0 ∨ nI n ≤ x ∨ ∃ j : Nat, j < n ∧ x = nI j := by
  by_cases h : x < 0
  · exact Or.inl h
  · obtain ⟨j, hj, rfl⟩ := nI_of h
    by_cases h2 : j < n
    · exact Or.inr (Or.inr ⟨j, h2, rfl⟩)
    · exact Or.inr (Or.inl (nI_le (by omega) hj))
theorem pk_le {x y : Int32} {A B : Prop} (a b : Nat) (f : a ≤ b → A) (g : b < a → B) (hx : x = nI a := by rfl) (hy : y = nI b := by rfl) (ha : a < 2 ^ 31 := by omega) (hb : b < 2 ^ 31 := by omega) : (x ≤ y → A) ∧ (¬ x ≤ y → B) := by
  subst hx hy
  rw [nI_leI ha hb]
  exact ⟨f, fun z => g (by omega)⟩
theorem pk_lt {x y : Int32} {A B : Prop} (a b : Nat) (f : a < b → A) (g : b ≤ a → B) (hx : x = nI a := by rfl) (hy : y = nI b := by rfl) (ha : a < 2 ^ 31 := by omega) (hb : b < 2 ^ 31 := by omega) : (x < y → A) ∧ (¬ x < y → B) := by
  subst hx hy
  rw [nI_ltI ha hb]
  exact ⟨f, fun z => g (by omega)⟩
theorem pk_eq {x y : Int32} {A B : Prop} (a b : Nat) (f : a = b → A) (g : a ≠ b → B) (hx : x = nI a := by rfl) (hy : y = nI b := by rfl) (ha : a < 2 ^ 31 := by omega) (hb : b < 2 ^ 31 := by omega) : (x = y → A) ∧ (¬ x = y → B) := by
  subst hx hy
  rw [nI_eq ha hb]
  exact ⟨f, g⟩
theorem pk_in {x : Int32} (n N : Nat) (h : n < N) (hx : x = nI n := by rfl) (hN : N < 2 ^ 31 := by omega) : vp_in x N := by
  subst hx
  exact vp_in_nI h hN
theorem pk_cl {x : Int32} (n : Nat) (hx : x = nI n := by rfl) (h : n < 2 ^ 31 := by omega) : x.toNatClampNeg = n := by
  subst hx
  exact nI_clamp h
theorem pk_tn {n : Nat} (h : n < 2 ^ 32) : (nI n).toBitVec.toNat = n := Nat.mod_eq_of_lt h
theorem pk_and (x : Int32) {m : Int32} (k : Nat) (hm : m.toBitVec.toNat = 2 ^ k - 1) : x &&& m = nI (x.toBitVec.toNat % 2 ^ k) := by
  apply Int32.toBitVec_inj.mp
  apply BitVec.eq_of_toNat_eq
  rw [Int32.toBitVec_and, BitVec.toNat_and, hm, Nat.and_two_pow_sub_one_eq_mod]
  show _ = (BitVec.ofNat 32 _).toNat
  rw [BitVec.toNat_ofNat]
  exact (Nat.mod_eq_of_lt (Nat.lt_of_le_of_lt (Nat.mod_le _ _) x.toBitVec.isLt)).symm
theorem pk_andN {n : Nat} (h : n < 2 ^ 32) {m : Int32} (k : Nat) (hm : m.toBitVec.toNat = 2 ^ k - 1) : nI n &&& m = nI (n % 2 ^ k) := by
  rw [pk_and _ k hm, pk_tn h]
theorem pk_shl (a s : Int32) (k : Nat) (hs : (s.toBitVec.smod 32).toNat = k) : (a <<< s).toBitVec.toNat = a.toBitVec.toNat * 2 ^ k % 2 ^ 32 := by
  show (a.toBitVec <<< (s.toBitVec.smod 32).toNat).toNat = _
  rw [hs, BitVec.toNat_shiftLeft, Nat.shiftLeft_eq]
theorem pk_shlN {n : Nat} (s : Int32) (k : Nat) (hs : (s.toBitVec.smod 32).toNat = k) (h : n * 2 ^ k < 2 ^ 32) : nI n <<< s = nI (n * 2 ^ k) := by
  apply Int32.toBitVec_inj.mp
  apply BitVec.eq_of_toNat_eq
  have hn : n < 2 ^ 32 := Nat.lt_of_le_of_lt (Nat.le_mul_of_pos_right n (Nat.two_pow_pos k)) h
  rw [pk_shl _ _ k hs, pk_tn hn, pk_tn h, Nat.mod_eq_of_lt h]
theorem pk_shr (a s : Int32) (k : Nat) (hs : (s.toBitVec.smod 32).toNat = k) : (a >>> s).toInt = a.toInt >>> k := by
  show (a.toBitVec.sshiftRight (s.toBitVec.smod 32).toNat).toInt = _
  rw [hs, BitVec.toInt_sshiftRight]
  rfl
theorem pk_shrN {n : Nat} (h : n < 2 ^ 31) (s : Int32) (k : Nat) (hs : (s.toBitVec.smod 32).toNat = k) : nI n >>> s = nI (n / 2 ^ k) := by
  apply Int32.toInt_inj.mp
  have h2 : n / 2 ^ k ≤ n := Nat.div_le_self _ _
  rw [pk_shr _ _ k hs, nI_toInt h, nI_toInt (by omega), Int.shiftRight_eq_div_pow]
  rfl
theorem pk_loop {σ : Type} (W : Nat → Nat → σ → Prop) (I : Nat → σ → Prop) (e i0 : Nat) (s : σ) (hi : i0 ≤ e) (h0 : I i0 s) (hx : ∀ n s, I e s → W (n + 1) e s)
    (hs : ∀ n i s, i < e → I i s → (∀ s', I (i + 1) s' → W n (i + 1) s') → W (n + 1) i s) : ∃ n, W n i0 s :=
  ⟨e + 1, loop_i W I e hx hs (e + 1) i0 s hi (by omega) h0⟩
theorem pk_loopD {σ : Type} (W : Nat → Nat → σ → Prop) (I : Nat → σ → Prop) (hx : ∀ n s, I 0 s → W (n + 1) 0 s)
    (hs : ∀ n i s, I (i + 1) s → (∀ s', I i s' → W n i s') → W (n + 1) (i + 1) s) : ∀ (e : Nat) (s : σ), I e s → W (e + 1) e s := by
  intro e
  induction e with
  | zero => exact fun s h => hx 0 s h
  | succ e ih => exact fun s h => hs (e + 1) e s h (fun s' h' => ih s' h')
theorem lp1 {A1 : Type} (W : Nat → A1 → Prop) (I : A1 → Prop) (μ : A1 → Nat) (hs : ∀ (n : Nat) (a1 : A1), I a1 → (∀ (b1 : A1), I b1 → μ b1 < μ a1 → W n b1) → W (n + 1) a1) (a1 : A1) (h : I a1) : ∃ n, W n a1 :=
  loop_m (σ := A1) (fun n s => W n s) (fun s => I s) (fun s => μ s) (fun n s hI hk => hs n s hI (fun b1 h9 hm => hk b1 h9 hm)) a1 h
theorem lp2 {A1 A2 : Type} (W : Nat → A1 → A2 → Prop) (I : A1 → A2 → Prop) (μ : A1 → A2 → Nat) (hs : ∀ (n : Nat) (a1 : A1) (a2 : A2), I a1 a2 → (∀ (b1 : A1) (b2 : A2), I b1 b2 → μ b1 b2 < μ a1 a2 → W n b1 b2) → W (n + 1) a1 a2) (a1 : A1) (a2 : A2) (h : I a1 a2) : ∃ n, W n a1 a2 :=
  loop_m (σ := A1 × A2) (fun n s => W n s.1 s.2) (fun s => I s.1 s.2) (fun s => μ s.1 s.2) (fun n s hI hk => hs n s.1 s.2 hI (fun b1 b2 h9 hm => hk (b1, b2) h9 hm)) (a1, a2) h
theorem lp3 {A1 A2 A3 : Type} (W : Nat → A1 → A2 → A3 → Prop) (I : A1 → A2 → A3 → Prop) (μ : A1 → A2 → A3 → Nat) (hs : ∀ (n : Nat) (a1 : A1) (a2 : A2) (a3 : A3), I a1 a2 a3 → (∀ (b1 : A1) (b2 : A2) (b3 : A3), I b1 b2 b3 → μ b1 b2 b3 < μ a1 a2 a3 → W n b1 b2 b3) → W (n + 1) a1 a2 a3) (a1 : A1) (a2 : A2) (a3 : A3) (h : I a1 a2 a3) : ∃ n, W n a1 a2 a3 :=
  loop_m (σ := A1 × A2 × A3) (fun n s => W n s.1 s.2.1 s.2.2) (fun s => I s.1 s.2.1 s.2.2) (fun s => μ s.1 s.2.1 s.2.2) (fun n s hI hk => hs n s.1 s.2.1 s.2.2 hI (fun b1 b2 b3 h9 hm => hk (b1, b2, b3) h9 hm)) (a1, a2, a3) h
theorem lp4 {A1 A2 A3 A4 : Type} (W : Nat → A1 → A2 → A3 → A4 → Prop) (I : A1 → A2 → A3 → A4 → Prop) (μ : A1 → A2 → A3 → A4 → Nat) (hs : ∀ (n : Nat) (a1 : A1) (a2 : A2) (a3 : A3) (a4 : A4), I a1 a2 a3 a4 → (∀ (b1 : A1) (b2 : A2) (b3 : A3) (b4 : A4), I b1 b2 b3 b4 → μ b1 b2 b3 b4 < μ a1 a2 a3 a4 → W n b1 b2 b3 b4) → W (n + 1) a1 a2 a3 a4) (a1 : A1) (a2 : A2) (a3 : A3) (a4 : A4) (h : I a1 a2 a3 a4) : ∃ n, W n a1 a2 a3 a4 :=
  loop_m (σ := A1 × A2 × A3 × A4) (fun n s => W n s.1 s.2.1 s.2.2.1 s.2.2.2) (fun s => I s.1 s.2.1 s.2.2.1 s.2.2.2) (fun s => μ s.1 s.2.1 s.2.2.1 s.2.2.2) (fun n s hI hk => hs n s.1 s.2.1 s.2.2.1 s.2.2.2 hI (fun b1 b2 b3 b4 h9 hm => hk (b1, b2, b3, b4) h9 hm)) (a1, a2, a3, a4) h
theorem lp5 {A1 A2 A3 A4 A5 : Type} (W : Nat → A1 → A2 → A3 → A4 → A5 → Prop) (I : A1 → A2 → A3 → A4 → A5 → Prop) (μ : A1 → A2 → A3 → A4 → A5 → Nat) (hs : ∀ (n : Nat) (a1 : A1) (a2 : A2) (a3 : A3) (a4 : A4) (a5 : A5), I a1 a2 a3 a4 a5 → (∀ (b1 : A1) (b2 : A2) (b3 : A3) (b4 : A4) (b5 : A5), I b1 b2 b3 b4 b5 → μ b1 b2 b3 b4 b5 < μ a1 a2 a3 a4 a5 → W n b1 b2 b3 b4 b5) → W (n + 1) a1 a2 a3 a4 a5) (a1 : A1) (a2 : A2) (a3 : A3) (a4 : A4) (a5 : A5) (h : I a1 a2 a3 a4 a5) : ∃ n, W n a1 a2 a3 a4 a5 :=
  loop_m (σ := A1 × A2 × A3 × A4 × A5) (fun n s => W n s.1 s.2.1 s.2.2.1 s.2.2.2.1 s.2.2.2.2) (fun s => I s.1 s.2.1 s.2.2.1 s.2.2.2.1 s.2.2.2.2) (fun s => μ s.1 s.2.1 s.2.2.1 s.2.2.2.1 s.2.2.2.2) (fun n s hI hk => hs n s.1 s.2.1 s.2.2.1 s.2.2.2.1 s.2.2.2.2 hI (fun b1 b2 b3 b4 b5 h9 hm => hk (b1, b2, b3, b4, b5) h9 hm)) (a1, a2, a3, a4, a5) h
theorem lp6 {A1 A2 A3 A4 A5 A6 : Type} (W : Nat → A1 → A2 → A3 → A4 → A5 → A6 → Prop) (I : A1 → A2 → A3 → A4 → A5 → A6 → Prop) (μ : A1 → A2 → A3 → A4 → A5 → A6 → Nat) (hs : ∀ (n : Nat) (a1 : A1) (a2 : A2) (a3 : A3) (a4 : A4) (a5 : A5) (a6 : A6), I a1 a2 a3 a4 a5 a6 → (∀ (b1 : A1) (b2 : A2) (b3 : A3) (b4 : A4) (b5 : A5) (b6 : A6), I b1 b2 b3 b4 b5 b6 → μ b1 b2 b3 b4 b5 b6 < μ a1 a2 a3 a4 a5 a6 → W n b1 b2 b3 b4 b5 b6) → W (n + 1) a1 a2 a3 a4 a5 a6) (a1 : A1) (a2 : A2) (a3 : A3) (a4 : A4) (a5 : A5) (a6 : A6) (h : I a1 a2 a3 a4 a5 a6) : ∃ n, W n a1 a2 a3 a4 a5 a6 :=
  loop_m (σ := A1 × A2 × A3 × A4 × A5 × A6) (fun n s => W n s.1 s.2.1 s.2.2.1 s.2.2.2.1 s.2.2.2.2.1 s.2.2.2.2.2) (fun s => I s.1 s.2.1 s.2.2.1 s.2.2.2.1 s.2.2.2.2.1 s.2.2.2.2.2) (fun s => μ s.1 s.2.1 s.2.2.1 s.2.2.2.1 s.2.2.2.2.1 s.2.2.2.2.2) (fun n s hI hk => hs n s.1 s.2.1 s.2.2.1 s.2.2.2.1 s.2.2.2.2.1 s.2.2.2.2.2 hI (fun b1 b2 b3 b4 b5 b6 h9 hm => hk (b1, b2, b3, b4, b5, b6) h9 hm)) (a1, a2, a3, a4, a5, a6) h
theorem pk_least (P : Nat → Prop) (h : ∃ k, P k) : ∃ k, P k ∧ ∀ j, j < k → ¬ P j := by
  obtain ⟨k, hk⟩ := h
  induction k using Nat.strongRecOn with
  | ind k ih =>
    by_cases e : ∃ j, j < k ∧ P j
    · obtain ⟨j, hj, pj⟩ := e
      exact ih j hj pj
    · exact ⟨k, hk, fun j hj pj => e ⟨j, hj, pj⟩⟩
def bt (x : Int32) (i : Nat) : Bool := x.toBitVec.getLsbD i
theorem b_ext {x y : Int32} (h : ∀ i, i < 32 → bt x i = bt y i) : x = y := Int32.toBitVec_inj.mp (BitVec.eq_of_getLsbD_eq (fun i hi => h i hi))
theorem b_or (x y : Int32) (i : Nat) : bt (x ||| y) i = (bt x i || bt y i) := by unfold bt; rw [Int32.toBitVec_or, BitVec.getLsbD_or]
theorem b_and (x y : Int32) (i : Nat) : bt (x &&& y) i = (bt x i && bt y i) := by unfold bt; rw [Int32.toBitVec_and, BitVec.getLsbD_and]
theorem b_xor (x y : Int32) (i : Nat) : bt (x ^^^ y) i = (bt x i ^^ bt y i) := by unfold bt; rw [Int32.toBitVec_xor, BitVec.getLsbD_xor]
theorem b_big {x : Int32} {i : Nat} (h : 32 ≤ i) : bt x i = false := BitVec.getLsbD_of_ge _ _ h
theorem b_m1 : ∀ i, i < 32 → bt (-1) i = true := by decide +kernel
theorem b_0 (i : Nat) : bt 0 i = false := BitVec.getLsbD_zero
theorem s_l : ∀ n, n < 32 → ((nI n &&& 31).toBitVec.smod 32).toNat = n := by decide +kernel
theorem b_shl (n : Nat) (hn : n < 32) (x : Int32) {i : Nat} (hi : i < 32) : bt (x <<< (nI n &&& 31)) i = (decide (n ≤ i) && bt x (i - n)) := by
  unfold bt
  rw [Int32.toBitVec_shiftLeft]
  show (x.toBitVec <<< ((nI n &&& 31).toBitVec.smod 32).toNat).getLsbD i = _
  rw [s_l n hn, BitVec.getLsbD_shiftLeft]
  rcases Nat.lt_or_ge i n with h | h
  · simp [h, Nat.not_le.mpr h]
  · simp [hi, h, Nat.not_lt.mpr h]
theorem b_sshr (n : Nat) (hn : n < 32) (x : Int32) {i : Nat} (hi : i < 32) : bt (x >>> (nI n &&& 31)) i = if n + i < 32 then bt x (n + i) else bt x 31 := by
  unfold bt
  rw [Int32.toBitVec_shiftRight]
  show (x.toBitVec.sshiftRight ((nI n &&& 31).toBitVec.smod 32).toNat).getLsbD i = _
  rw [s_l n hn, BitVec.getLsbD_sshiftRight, BitVec.msb_eq_getLsbD_last]
  simp [hi]
end
section
/-! ===== sets of the 28 points as ints ===== -/
def zs_S (x : Int32) (p : Nat → Bool) : Prop := ∀ i, i < 32 → bt x i = (decide (i < 28) && p i)
theorem zs_b1 : ∀ m, m < 32 → bt 1 m = decide (m = 0) := by decide +kernel
theorem zs_ext {x y : Int32} {p q : Nat → Bool} (hx : zs_S x p) (hy : zs_S y q) (h : ∀ k, k < 28 → p k = q k) : x = y := by
  apply b_ext
  intro i hi
  rw [hx i hi, hy i hi]
  by_cases h28 : i < 28
  · rw [h i h28]
  · simp [h28]
theorem zs_cg {x : Int32} {p q : Nat → Bool} (hx : zs_S x p) (h : ∀ k, k < 28 → p k = q k) : zs_S x q := by
  intro i hi
  rw [hx i hi]
  by_cases h28 : i < 28
  · rw [h i h28]
  · simp [h28]
theorem zs_in {x : Int32} {p q : Nat → Bool} (hx : zs_S x p) (hy : zs_S x q) {k : Nat} (hk : k < 28) : p k = q k := by
  have h1 := hx k (by omega)
  have h2 := hy k (by omega)
  rw [h1] at h2
  simpa [hk] using h2
theorem zs_0 : zs_S 0 (fun _ => false) := by
  intro i _
  rw [b_0]; simp
theorem zs_or {x y : Int32} {p q : Nat → Bool} (hx : zs_S x p) (hy : zs_S y q) : zs_S (x ||| y) (fun k => p k || q k) := by
  intro i hi
  show _ = (decide (i < 28) && (p i || q i))
  rw [b_or, hx i hi, hy i hi]
  cases decide (i < 28) <;> cases p i <;> cases q i <;> rfl
theorem zs_and {x y : Int32} {p q : Nat → Bool} (hx : zs_S x p) (hy : zs_S y q) : zs_S (x &&& y) (fun k => p k && q k) := by
  intro i hi
  show _ = (decide (i < 28) && (p i && q i))
  rw [b_and, hx i hi, hy i hi]
  cases decide (i < 28) <;> cases p i <;> cases q i <;> rfl
theorem zs_xor {x y : Int32} {p q : Nat → Bool} (hx : zs_S x p) (hy : zs_S y q) : zs_S (x ^^^ y) (fun k => p k != q k) := by
  intro i hi
  show _ = (decide (i < 28) && (p i != q i))
  rw [b_xor, hx i hi, hy i hi]
  cases decide (i < 28) <;> cases p i <;> cases q i <;> rfl
theorem zs_an {x y : Int32} {p q : Nat → Bool} (hx : zs_S x p) (hy : zs_S y q) : zs_S (x &&& (y ^^^ (-1))) (fun k => p k && !q k) := by
  intro i hi
  show _ = (decide (i < 28) && (p i && !q i))
  rw [b_and, b_xor, b_m1 i hi, hx i hi, hy i hi]
  cases decide (i < 28) <;> cases p i <;> cases q i <;> rfl
theorem zs_one {k : Nat} (hk : k < 28) : zs_S (1 <<< (nI k &&& 31)) (fun j => decide (j = k)) := by
  intro i hi
  rw [b_shl k (by omega) 1 hi, zs_b1 _ (by omega)]
  by_cases e : i = k
  · subst e; simp [hk]
  · by_cases h2 : k ≤ i
    · have h3 : ¬ i - k = 0 := by omega
      simp [e, h3]
    · simp [e, h2]
theorem zs_zero {k : Nat} (hk : k < 28) : zs_S (0 <<< (nI k &&& 31)) (fun _ => false) := by
  intro i hi
  rw [b_shl k (by omega) 0 hi, b_0]
  simp
/-- a shifted bit, as the slices take it -/
theorem zs_bit {k : Nat} (hk : k < 28) (c : Bool) : zs_S ((if c then 1 else 0) <<< (nI k &&& 31)) (fun j => c && decide (j = k)) := by
  cases c
  · exact zs_cg (zs_zero hk) (fun j _ => by simp)
  · exact zs_cg (zs_one hk) (fun j _ => by simp)
theorem zs_set {x : Int32} {p : Nat → Bool} (hx : zs_S x p) {k : Nat} (hk : k < 28) : zs_S (x ||| (1 <<< (nI k &&& 31))) (fun j => p j || decide (j = k)) := zs_or hx (zs_one hk)
theorem zs_clr {x : Int32} {p : Nat → Bool} (hx : zs_S x p) {k : Nat} (hk : k < 28) : zs_S (x &&& ((1 <<< (nI k &&& 31)) ^^^ (-1))) (fun j => p j && !decide (j = k)) := zs_an hx (zs_one hk)
theorem zs_tog {x : Int32} {p : Nat → Bool} (hx : zs_S x p) {k : Nat} (hk : k < 28) : zs_S (x ^^^ (1 <<< (nI k &&& 31))) (fun j => p j != decide (j = k)) := zs_xor hx (zs_one hk)
/-- the test of a bit -/
theorem zs_t {x : Int32} {p : Nat → Bool} (hx : zs_S x p) {k : Nat} (hk : k < 28) : (x >>> (nI k &&& 31)) &&& 1 = if p k then 1 else 0 := by
  apply b_ext
  intro i hi
  rw [b_and, zs_b1 i hi]
  by_cases e : i = 0
  · subst e
    rw [b_sshr k (by omega) x hi, if_pos (by omega), Nat.add_zero, hx k (by omega)]
    cases hp : p k
    · simp [b_0]
    · simp [hk, zs_b1]
  · cases hp : p k
    · simp [e, b_0]
    · simp [e, zs_b1 i hi]
theorem zs_br {x : Int32} {p : Nat → Bool} (hx : zs_S x p) {k : Nat} (hk : k < 28) {A B : Prop} (f : p k = true → A) (g : p k = false → B) : ((x >>> (nI k &&& 31)) &&& 1 = 1 → A) ∧ (¬ (x >>> (nI k &&& 31)) &&& 1 = 1 → B) := by
  rw [zs_t hx hk]
  cases hp : p k
  · exact br_f (by decide) (g hp)
  · exact br_t rfl (f hp)
theorem zs_nn {x : Int32} {p : Nat → Bool} (hx : zs_S x p) : ¬ x < 0 := by
  have h31 := hx 31 (by omega)
  intro h
  rw [Int32.lt_iff_toBitVec_slt] at h
  have h2 : x.toBitVec.slt 0#32 = true := h
  rw [BitVec.slt_zero_eq_msb, BitVec.msb_eq_getLsbD_last] at h2
  have h3 : bt x 31 = true := h2
  rw [h3] at h31
  simp at h31
theorem zs_n1 {x : Int32} {p : Nat → Bool} (hx : zs_S x p) : ¬ x = -1 := by
  intro h
  exact zs_nn hx (by rw [h]; decide)
theorem zs_e {x : Int32} {p : Nat → Bool} (hx : zs_S x p) (h : x = 0) {k : Nat} (hk : k < 28) : p k = false := by
  subst h
  exact zs_in hx zs_0 hk
theorem zs_ne {x : Int32} {p : Nat → Bool} (hx : zs_S x p) (h : ¬ x = 0) : ∃ k, k < 28 ∧ p k = true := by
  apply Classical.byContradiction
  intro hn
  apply h
  refine zs_ext hx zs_0 (fun k hk => ?_)
  cases hp : p k
  · rfl
  · exact absurd ⟨k, hk, hp⟩ hn
/-- the scan loops: what is gathered below i -/
def zs_U (p : Nat → Bool) (i : Nat) : Nat → Bool := fun j => decide (j < i) && p j
theorem zs_u0 (p : Nat → Bool) : zs_S 0 (zs_U p 0) := zs_cg zs_0 (fun k _ => by simp [zs_U])
theorem zs_ut {x : Int32} {p : Nat → Bool} {i : Nat} (h : zs_S x (zs_U p i)) (hi : i < 28) (hp : p i = true) : zs_S (x ||| (1 <<< (nI i &&& 31))) (zs_U p (i + 1)) := by
  refine zs_cg (zs_set h hi) (fun j _ => ?_)
  show ((decide (j < i) && p j) || decide (j = i)) = (decide (j < i + 1) && p j)
  by_cases e : j = i
  · subst e; simp [hp]
  · have h1 : (decide (j < i + 1)) = decide (j < i) := by
      by_cases h2 : j < i
      · rw [decide_eq_true h2, decide_eq_true (by omega)]
      · rw [decide_eq_false h2, decide_eq_false (by omega)]
    rw [h1]; simp [e]
theorem zs_uf {x : Int32} {p : Nat → Bool} {i : Nat} (h : zs_S x (zs_U p i)) (hp : p i = false) : zs_S x (zs_U p (i + 1)) := by
  refine zs_cg h (fun j _ => ?_)
  show (decide (j < i) && p j) = (decide (j < i + 1) && p j)
  by_cases e : j = i
  · subst e; simp [hp]
  · have h1 : (decide (j < i + 1)) = decide (j < i) := by
      by_cases h2 : j < i
      · rw [decide_eq_true h2, decide_eq_true (by omega)]
      · rw [decide_eq_false h2, decide_eq_false (by omega)]
    rw [h1]
theorem zs_u28 {x : Int32} {p : Nat → Bool} (h : zs_S x (zs_U p 28)) : zs_S x p := zs_cg h (fun j hj => by simp [zs_U, hj])
/-! ===== numbers ===== -/
theorem zn_x {p : Nat} (h : p < 4096) : nI p - nI p / 64 * 64 = nI (p % 64) := pk_rem (d := 64) (by omega) (by omega) (by omega)
theorem zn_y {p : Nat} (h : p < 4096) : nI p / 64 = nI (p / 64) := pk_div (d := 64) (by omega) (by omega) (by omega)
theorem zn_8 {p : Nat} (h : p < 4096) : nI p / 8 = nI (p / 8) := pk_div (d := 8) (by omega) (by omega) (by omega)
theorem zn_2 {p : Nat} (h : p < 4096) : nI p / 2 = nI (p / 2) := pk_div (d := 2) (by omega) (by omega) (by omega)
theorem zn_r8 {p : Nat} (h : p < 4096) : nI p - nI p / 8 * 8 = nI (p % 8) := pk_rem (d := 8) (by omega) (by omega) (by omega)
theorem zn_m64 (p : Nat) : 64 * nI p = nI (64 * p) := pk_mul 64 p
theorem zn_m8 (p : Nat) : 8 * nI p = nI (8 * p) := pk_mul 8 p
theorem zn_n1 {k : Nat} (h : k < 2 ^ 31) : ¬ nI k = -1 := by
  intro e
  exact nI_pos h (by rw [e]; decide)
theorem zn_n1' {k : Nat} (h : k < 2 ^ 31) : ¬ (-1 : Int32) = nI k := fun e => zn_n1 h e.symm
/-- how far two numbers lie apart -/
def zn_d (a b : Nat) : Nat := (a - b) + (b - a)
theorem zn_dc (a b : Nat) : zn_d a b = zn_d b a := Nat.add_comm _ _
theorem zn_dd (a b : Nat) : (nI a - nI b) * (nI a - nI b) = nI (zn_d a b * zn_d a b) := by
  rcases Nat.le_total b a with h | h
  · have e : zn_d a b = a - b := by unfold zn_d; omega
    rw [pk_sub h, pk_mul, e]
  · have e : zn_d a b = b - a := by unfold zn_d; omega
    have e2 : nI a - nI b = -(nI b - nI a) := by grind
    rw [e2, Int32.neg_mul_neg, pk_sub h, pk_mul, e]
theorem zn_dl {a b : Nat} (ha : a < 64) (hb : b < 64) : zn_d a b ≤ 63 := by unfold zn_d; omega
theorem zn_sq {a b : Nat} (h : a ≤ b) : a * a ≤ b * b := Nat.mul_le_mul h h
/-- the square between (x, y) and (a, b) -/
def zn_q (x y a b : Nat) : Nat := zn_d x a * zn_d x a + zn_d y b * zn_d y b
theorem zn_qI (x y a b : Nat) : (nI x - nI a) * (nI x - nI a) + (nI y - nI b) * (nI y - nI b) = nI (zn_q x y a b) := by
  rw [zn_dd, zn_dd, nI_add]
  rfl
theorem zn_qc (x y a b : Nat) : zn_q x y a b = zn_q a b x y := by
  unfold zn_q
  rw [zn_dc x a, zn_dc y b]
theorem zn_ql {x y a b : Nat} (hx : x < 64) (hy : y < 64) (ha : a < 64) (hb : b < 64) : zn_q x y a b ≤ 7938 := by
  have h1 := zn_sq (zn_dl hx ha)
  have h2 := zn_sq (zn_dl hy hb)
  unfold zn_q
  omega
theorem zn_qx {x y a b g : Nat} (h : g ≤ zn_d x a) : g * g ≤ zn_q x y a b := by
  have h1 := zn_sq h
  unfold zn_q
  omega
theorem zn_qy {x y a b g : Nat} (h : g ≤ zn_d y b) : g * g ≤ zn_q x y a b := by
  have h1 := zn_sq h
  unfold zn_q
  omega
/-! ===== counts, and the first that is ===== -/
def zn_c (p : Nat → Bool) : Nat → Nat
  | 0 => 0
  | n + 1 => zn_c p n + (if p n then 1 else 0)
theorem zn_cl (p : Nat → Bool) (n : Nat) : zn_c p n ≤ n := by
  induction n with
  | zero => exact Nat.le_refl 0
  | succ n ih => show zn_c p n + (if p n then 1 else 0) ≤ n + 1; split <;> omega
theorem zn_cz (p : Nat → Bool) (n : Nat) (h : ∀ k, k < n → p k = false) : zn_c p n = 0 := by
  induction n with
  | zero => rfl
  | succ n ih =>
    show zn_c p n + (if p n then 1 else 0) = 0
    rw [ih (fun k hk => h k (by omega)), h n (by omega)]
    rfl
theorem zn_cz' (p : Nat → Bool) (n : Nat) (h : zn_c p n = 0) : ∀ k, k < n → p k = false := by
  induction n with
  | zero => intro k hk; omega
  | succ n ih =>
    have h' : zn_c p n + (if p n then 1 else 0) = 0 := h
    intro k hk
    by_cases e : k = n
    · subst e
      cases hp : p k
      · rfl
      · rw [hp] at h'; simp at h'
    · exact ih (by omega) k (by omega)
theorem zn_ccg (p q : Nat → Bool) (n : Nat) (h : ∀ k, k < n → p k = q k) : zn_c p n = zn_c q n := by
  induction n with
  | zero => rfl
  | succ n ih =>
    show zn_c p n + (if p n then 1 else 0) = zn_c q n + (if q n then 1 else 0)
    rw [ih (fun k hk => h k (by omega)), h n (by omega)]
/-- the answer of a search upward from i over d numbers -/
def zn_f (p : Nat → Bool) : Nat → Nat → Int32
  | 0, _ => -1
  | d + 1, i => if p i then nI i else zn_f p d (i + 1)
theorem zn_fcg (p q : Nat → Bool) : ∀ d i, (∀ k, i ≤ k → k < i + d → p k = q k) → zn_f p d i = zn_f q d i := by
  intro d
  induction d with
  | zero => intro i _; rfl
  | succ d ih =>
    intro i h
    show (if p i then nI i else zn_f p d (i + 1)) = (if q i then nI i else zn_f q d (i + 1))
    rw [h i (Nat.le_refl i) (by omega), ih (i + 1) (fun k h1 h2 => h k (by omega) (by omega))]
theorem zn_fu (p : Nat → Bool) (b : Nat) (hb : p b = true) : ∀ d i, i ≤ b → b < i + d → (∀ k, i ≤ k → k < b → p k = false) → zn_f p d i = nI b := by
  intro d
  induction d with
  | zero => intro i h1 h2; omega
  | succ d ih =>
    intro i h1 h2 h3
    show (if p i then nI i else zn_f p d (i + 1)) = nI b
    by_cases e : i = b
    · subst e; rw [if_pos hb]
    · rw [h3 i (Nat.le_refl i) (by omega)]
      exact ih (i + 1) (by omega) (by omega) (fun k h4 h5 => h3 k (by omega) h5)
theorem zn_fn (p : Nat → Bool) : ∀ d i, (∀ k, i ≤ k → k < i + d → p k = false) → zn_f p d i = -1 := by
  intro d
  induction d with
  | zero => intro i _; rfl
  | succ d ih =>
    intro i h
    show (if p i then nI i else zn_f p d (i + 1)) = -1
    rw [h i (Nat.le_refl i) (by omega)]
    exact ih (i + 1) (fun k h4 h5 => h k (by omega) (by omega))
end
section
/-! ===== which is nearer; the best so far ===== -/
def zo_n (f : Nat → Nat) (i j : Nat) : Prop := f i < f j ∨ (f i = f j ∧ i < j)
theorem zo_irr (f : Nat → Nat) (i : Nat) : ¬ zo_n f i i := by unfold zo_n; omega
theorem zo_tr {f : Nat → Nat} {i j k : Nat} (h1 : zo_n f i j) (h2 : zo_n f j k) : zo_n f i k := by unfold zo_n at *; omega
theorem zo_tot {f : Nat → Nat} {i j : Nat} (h1 : ¬ zo_n f i j) (h2 : ¬ zo_n f j i) : i = j := by unfold zo_n at *; omega
/-- if k isn't nearer than b, and c is nearer than b, k isn't nearer than c unless .. : what a change of the best keeps -/
theorem zo_keep {f : Nat → Nat} {k b c : Nat} (h1 : ¬ zo_n f k b) (h2 : zo_n f c b) : ¬ zo_n f k c := fun h => h1 (zo_tr h h2)
def zo_B (al : Nat → Bool) (f : Nat → Nat) (best : Int32) (P : Nat → Prop) : Prop :=
  (best = -1 ∧ ∀ k, k < 28 → ¬ P k) ∨ (∃ b, b < 28 ∧ al b = true ∧ best = nI b ∧ ∀ k, k < 28 → P k → ¬ zo_n f k b)
theorem zo_cg {al : Nat → Bool} {f : Nat → Nat} {best : Int32} {P Q : Nat → Prop} (h : zo_B al f best P) (e : ∀ k, k < 28 → Q k → P k) : zo_B al f best Q := by
  rcases h with ⟨h1, h2⟩ | ⟨b, h1, h2, h3, h4⟩
  · exact Or.inl ⟨h1, fun k hk hq => h2 k hk (e k hk hq)⟩
  · exact Or.inr ⟨b, h1, h2, h3, fun k hk hq => h4 k hk (e k hk hq)⟩
theorem zo_0 (al : Nat → Bool) (f : Nat → Nat) {P : Nat → Prop} (h : ∀ k, k < 28 → ¬ P k) : zo_B al f (-1) P := Or.inl ⟨rfl, h⟩
/-- the best of all is one alone -/
theorem zo_un {al : Nat → Bool} {f : Nat → Nat} {x y : Int32} (h : zo_B al f x (fun k => al k = true)) (g : zo_B al f y (fun k => al k = true)) : x = y := by
  rcases h with ⟨h1, h2⟩ | ⟨b, h1, h2, h3, h4⟩
  · rcases g with ⟨g1, g2⟩ | ⟨c, g1, g2, g3, g4⟩
    · rw [h1, g1]
    · exact absurd g2 (h2 c g1)
  · rcases g with ⟨g1, g2⟩ | ⟨c, g1, g2, g3, g4⟩
    · exact absurd h2 (g2 b h1)
    · have e : b = c := zo_tot (g4 b h1 h2) (h4 c g1 g2)
      rw [h3, g3, e]
/-- what is out of reach can't be nearer -/
theorem zo_cut {al : Nat → Bool} {f : Nat → Nat} {best : Int32} {P Q : Nat → Prop} {q : Nat} (h : zo_B al f best P) (hr : ∃ b, b < 28 ∧ best = nI b ∧ f b < q) (hQ : ∀ k, k < 28 → Q k → P k ∨ q ≤ f k) : zo_B al f best Q := by
  obtain ⟨c, hc, e, hq⟩ := hr
  rcases h with ⟨h1, h2⟩ | ⟨b, h1, h2, h3, h4⟩
  · rw [h1] at e
    exact absurd e (zn_n1' (by omega))
  · have e2 : b = c := (nI_eq (by omega) (by omega)).mp (h3.symm.trans e)
    subst e2
    refine Or.inr ⟨b, h1, h2, h3, fun k hk hk2 => ?_⟩
    rcases hQ k hk hk2 with h5 | h5
    · exact h4 k hk h5
    · unfold zo_n; omega
/-! ===== lists that hold the points of a set, each once ===== -/
def zl_M (S : List Nat) (p : Nat → Bool) : Prop := S.Nodup ∧ ∀ k, k ∈ S ↔ (k < 28 ∧ p k = true)
theorem zl_cg {S : List Nat} {p q : Nat → Bool} (h : zl_M S p) (e : ∀ k, k < 28 → p k = q k) : zl_M S q :=
  ⟨h.1, fun k => (h.2 k).trans ⟨fun z => ⟨z.1, (e k z.1).symm.trans z.2⟩, fun z => ⟨z.1, (e k z.1).trans z.2⟩⟩⟩
theorem zl_len {S : List Nat} {p : Nat → Bool} (h : zl_M S p) : S.length ≤ 28 := by
  have h1 := List.Nodup.length_le_of_subset h.1 (l₂ := List.range 28) (fun k hk => List.mem_range.mpr ((h.2 k).mp hk).1)
  rwa [List.length_range] at h1
theorem zl_lt {S : List Nat} {p : Nat → Bool} (h : zl_M S p) {k : Nat} (hk : k < 28) (hp : p k = false) : S.length < 28 := by
  have hn : k ∉ S := fun z => by
    have := ((h.2 k).mp z).2
    rw [hp] at this
    exact absurd this (by decide)
  have h2 : (k :: S).Nodup := List.nodup_cons.mpr ⟨hn, h.1⟩
  have h1 := List.Nodup.length_le_of_subset h2 (l₂ := List.range 28) (fun j hj => by
    rcases List.mem_cons.mp hj with e | e
    · rw [e]; exact List.mem_range.mpr hk
    · exact List.mem_range.mpr ((h.2 j).mp e).1)
  rw [List.length_range, List.length_cons] at h1
  omega
theorem zl_nil {p : Nat → Bool} (h : ∀ k, k < 28 → p k = false) : zl_M [] p := by
  refine ⟨List.nodup_nil, fun k => ⟨fun z => absurd z (by simp), fun z => ?_⟩⟩
  have := h k z.1
  rw [z.2] at this
  exact absurd this (by decide)
theorem zl_ins {A B : List Nat} {p q : Nat → Bool} (h : zl_M (A ++ B) p) {k : Nat} (hk : k < 28) (hp : p k = false) (e : ∀ j, j < 28 → q j = (p j || decide (j = k))) : zl_M (A ++ k :: B) q := by
  have hn : k ∉ A ++ B := fun z => by
    have := ((h.2 k).mp z).2
    rw [hp] at this
    exact absurd this (by decide)
  refine ⟨(List.perm_middle.nodup_iff).mpr (List.nodup_cons.mpr ⟨hn, h.1⟩), fun j => ?_⟩
  rw [List.perm_middle.mem_iff, List.mem_cons, h.2 j]
  constructor
  · intro z
    rcases z with z | z
    · subst z; exact ⟨hk, by rw [e j hk]; simp⟩
    · exact ⟨z.1, by rw [e j z.1, z.2]; rfl⟩
  · intro z
    have h1 := e j z.1
    rw [z.2] at h1
    by_cases e2 : j = k
    · exact Or.inl e2
    · refine Or.inr ⟨z.1, ?_⟩
      rw [decide_eq_false e2, Bool.or_false] at h1
      exact h1.symm
def zl_no (k : Nat) (j : Nat) : Bool := !decide (j = k)
theorem zl_del {S : List Nat} {p q : Nat → Bool} (h : zl_M S p) (k : Nat) (e : ∀ j, j < 28 → q j = (p j && !decide (j = k))) : zl_M (S.filter (zl_no k)) q := by
  refine ⟨List.Pairwise.filter _ h.1, fun j => ?_⟩
  rw [List.mem_filter, h.2 j]
  constructor
  · intro z
    refine ⟨z.1.1, ?_⟩
    rw [e j z.1.1, z.1.2]
    exact z.2
  · intro z
    have h1 := e j z.1
    rw [z.2] at h1
    have h2 := (Bool.and_eq_true _ _).mp h1.symm
    exact ⟨⟨z.1, h2.1⟩, h2.2⟩
/-- two different members -/
theorem zl_two {S : List Nat} {p : Nat → Bool} (h : zl_M S p) : 2 ≤ S.length ↔ ∃ i k, i < k ∧ k < 28 ∧ p i = true ∧ p k = true := by
  constructor
  · intro hl
    cases S with
    | nil => exact absurd hl (by simp)
    | cons a S =>
      cases S with
      | nil => exact absurd hl (by simp)
      | cons b t =>
        have ha := (h.2 a).mp (by simp)
        have hb := (h.2 b).mp (by simp)
        have hab : a ≠ b := by
          have h1 := (List.nodup_cons.mp h.1).1
          intro z
          exact h1 (by simp [z])
        rcases Nat.lt_or_gt_of_ne hab with z | z
        · exact ⟨a, b, z, hb.1, ha.2, hb.2⟩
        · exact ⟨b, a, z, ha.1, hb.2, ha.2⟩
  · intro ⟨i, k, h1, h2, h3, h4⟩
    have hn : [i, k].Nodup := by
      rw [List.nodup_cons]
      exact ⟨by simp; omega, by simp⟩
    have h5 := List.Nodup.length_le_of_subset hn (l₂ := S) (fun j hj => by
      rcases List.mem_cons.mp hj with z | z
      · rw [z]; exact (h.2 i).mpr ⟨by omega, h3⟩
      · rw [List.mem_singleton.mp z]; exact (h.2 k).mpr ⟨h2, h4⟩)
    exact h5
/-! ===== a list in an array from place o on ===== -/
def zl_A (a : Nat → Int32) : Nat → List Nat → Prop
  | _, [] => True
  | o, k :: t => a o = nI k ∧ zl_A a (o + 1) t
theorem zl_Aap {a : Nat → Int32} : ∀ (A : List Nat) (o : Nat) (B : List Nat), zl_A a o (A ++ B) ↔ zl_A a o A ∧ zl_A a (o + A.length) B := by
  intro A
  induction A with
  | nil => intro o B; exact ⟨fun h => ⟨trivial, h⟩, fun h => h.2⟩
  | cons k A ih =>
    intro o B
    show (a o = nI k ∧ zl_A a (o + 1) (A ++ B)) ↔ (a o = nI k ∧ zl_A a (o + 1) A) ∧ _
    rw [ih (o + 1) B, List.length_cons, show o + (A.length + 1) = o + 1 + A.length by omega, and_assoc]
theorem zl_Aup {a : Nat → Int32} {i : Nat} {v : Int32} : ∀ (l : List Nat) (o : Nat), (i < o ∨ o + l.length ≤ i) → zl_A a o l → zl_A (upd a i v) o l := by
  intro l
  induction l with
  | nil => intro o _ _; trivial
  | cons k l ih =>
    intro o h hl
    rw [List.length_cons] at h
    exact ⟨by rw [pk_un (by omega)]; exact hl.1, ih (o + 1) (by omega) hl.2⟩
def zl_g : List Nat → Nat → Nat
  | [], _ => 0
  | k :: _, 0 => k
  | _ :: t, i + 1 => zl_g t i
theorem zl_gm : ∀ (l : List Nat) (i : Nat), i < l.length → zl_g l i ∈ l := by
  intro l
  induction l with
  | nil => intro i h; exact absurd h (by simp)
  | cons k l ih =>
    intro i h
    cases i with
    | zero => show k ∈ k :: l; simp
    | succ i => exact List.mem_cons_of_mem _ (ih i (by rw [List.length_cons] at h; omega))
theorem zl_gx : ∀ (l : List Nat) (k : Nat), k ∈ l → ∃ i, i < l.length ∧ zl_g l i = k := by
  intro l
  induction l with
  | nil => intro k h; exact absurd h (by simp)
  | cons m l ih =>
    intro k h
    rcases List.mem_cons.mp h with e | e
    · exact ⟨0, by simp, e.symm⟩
    · obtain ⟨i, h1, h2⟩ := ih k e
      exact ⟨i + 1, by rw [List.length_cons]; omega, h2⟩
theorem zl_Ag {a : Nat → Int32} : ∀ (l : List Nat) (o i : Nat), zl_A a o l → i < l.length → a (o + i) = nI (zl_g l i) := by
  intro l
  induction l with
  | nil => intro o i _ h; exact absurd h (by simp)
  | cons k l ih =>
    intro o i h hi
    cases i with
    | zero => exact h.1
    | succ i =>
      have := ih (o + 1) i h.2 (by rw [List.length_cons] at hi; omega)
      rw [show o + (i + 1) = o + 1 + i by omega]
      exact this
theorem zl_gs {c : Nat → Nat} : ∀ (l : List Nat), l.Pairwise (fun a b => c a ≤ c b) → ∀ i j, i ≤ j → j < l.length → c (zl_g l i) ≤ c (zl_g l j) := by
  intro l
  induction l with
  | nil => intro _ i j _ h; exact absurd h (by simp)
  | cons k l ih =>
    intro hp i j hij hj
    rw [List.length_cons] at hj
    have hp2 := List.pairwise_cons.mp hp
    cases j with
    | zero =>
      have : i = 0 := by omega
      subst this
      exact Nat.le_refl _
    | succ j =>
      cases i with
      | zero => exact hp2.1 _ (zl_gm l j (by omega))
      | succ i => exact ih hp2.2 i j (by omega) (by omega)
/-! ===== a chain ===== -/
def zl_C (nx : Nat → Int32) : List Nat → Int32 → Prop
  | [], h => h = -1
  | k :: t, h => h = nI k ∧ zl_C nx t (nx k)
theorem zl_Cf {nx nx' : Nat → Int32} : ∀ (l : List Nat) (h : Int32), (∀ j, j ∈ l → nx' j = nx j) → zl_C nx l h → zl_C nx' l h := by
  intro l
  induction l with
  | nil => intro h _ z; exact z
  | cons k l ih =>
    intro h hf z
    refine ⟨z.1, ?_⟩
    rw [hf k (by simp)]
    exact ih _ (fun j hj => hf j (by simp [hj])) z.2
/-! ===== stacks: the head of the list lies on top ===== -/
def zk_K {α : Type} (P : α → Nat → Prop) : List α → Prop
  | [] => True
  | l :: r => P l r.length ∧ zk_K P r
theorem zk_fr {α : Type} {P P' : α → Nat → Prop} : ∀ (L : List α), (∀ l i, i < L.length → P l i → P' l i) → zk_K P L → zk_K P' L := by
  intro L
  induction L with
  | nil => intro _ _; trivial
  | cons l L ih =>
    intro h hk
    exact ⟨h l L.length (by simp) hk.1, ih (fun m i hi hm => h m i (by rw [List.length_cons]; omega) hm) hk.2⟩
theorem zk_mem {α : Type} {P : α → Nat → Prop} : ∀ (L : List α), zk_K P L → ∀ l, l ∈ L → ∃ i, P l i := by
  intro L
  induction L with
  | nil => intro _ l h; exact absurd h (by simp)
  | cons m L ih =>
    intro hk l hl
    rcases List.mem_cons.mp hl with e | e
    · subst e; exact ⟨_, hk.1⟩
    · exact ih hk.2 l e
def zk_N {α : Type} (f : α → Nat) : List α → Nat
  | [] => 0
  | l :: r => f l + zk_N f r
theorem zk_len {α : Type} {f : α → Nat} : ∀ (L : List α), (∀ a, a ∈ L → 1 ≤ f a) → L.length ≤ zk_N f L := by
  intro L
  induction L with
  | nil => intro _; exact Nat.le_refl _
  | cons l L ih =>
    intro h
    have h1 := h l (by simp)
    have h2 := ih (fun a ha => h a (by simp [ha]))
    show L.length + 1 ≤ f l + zk_N f L
    omega
end
section
/-! ===== the k-d tree over the list of its points in the order in which they came ===== -/
def zt_lt (cx cy : Nat → Nat) (b : Bool) (m j : Nat) : Bool := if b then decide (cy j < cy m) else decide (cx j < cx m)
def zt_ge (cx cy : Nat → Nat) (b : Bool) (m j : Nat) : Bool := !zt_lt cx cy b m j
def zt_b (b : Bool) : Int32 := if b then 1 else 0
def zt_T (cx cy : Nat → Nat) (lo hi sy : Nat → Int32) : Nat → List Nat → Bool → Int32 → Prop
  | 0, t, _, r => t = [] ∧ r = -1
  | f + 1, t, b, r => match t with
    | [] => r = -1
    | m :: t => r = nI m ∧ sy m = zt_b b ∧ zt_T cx cy lo hi sy f (t.filter (zt_lt cx cy b m)) (!b) (lo m) ∧ zt_T cx cy lo hi sy f (t.filter (zt_ge cx cy b m)) (!b) (hi m)
theorem zt_nil {cx cy : Nat → Nat} {lo hi sy : Nat → Int32} {f : Nat} {b : Bool} {r : Int32} (h : zt_T cx cy lo hi sy f [] b r) : r = -1 := by
  cases f with
  | zero => exact h.2
  | succ f => exact h
theorem zt_mkn {cx cy : Nat → Nat} {lo hi sy : Nat → Int32} {f : Nat} {b : Bool} : zt_T cx cy lo hi sy f [] b (-1) := by
  cases f with
  | zero => exact ⟨rfl, rfl⟩
  | succ f => show (-1 : Int32) = -1; rfl
theorem zt_hd {cx cy : Nat → Nat} {lo hi sy : Nat → Int32} {f m : Nat} {t : List Nat} {b : Bool} {r : Int32} (h : zt_T cx cy lo hi sy f (m :: t) b r) : ∃ g, f = g + 1 ∧ r = nI m ∧ sy m = zt_b b ∧ zt_T cx cy lo hi sy g (t.filter (zt_lt cx cy b m)) (!b) (lo m) ∧ zt_T cx cy lo hi sy g (t.filter (zt_ge cx cy b m)) (!b) (hi m) := by
  cases f with
  | zero =>
    have h' : m :: t = [] ∧ r = -1 := h
    exact absurd h'.1 (by simp)
  | succ f => exact ⟨f, rfl, h⟩
theorem zt_up {cx cy : Nat → Nat} {lo hi sy : Nat → Int32} : ∀ (f : Nat) (t : List Nat) (b : Bool) (r : Int32), zt_T cx cy lo hi sy f t b r → zt_T cx cy lo hi sy (f + 1) t b r := by
  intro f
  induction f with
  | zero =>
    intro t b r h
    obtain ⟨rfl, h2⟩ := h
    exact h2
  | succ f ih =>
    intro t b r h
    cases t with
    | nil => exact h
    | cons m t =>
      exact ⟨h.1, h.2.1, ih _ _ _ h.2.2.1, ih _ _ _ h.2.2.2⟩
theorem zt_ups {cx cy : Nat → Nat} {lo hi sy : Nat → Int32} {t : List Nat} {b : Bool} {r : Int32} {f : Nat} : ∀ (d : Nat), zt_T cx cy lo hi sy f t b r → zt_T cx cy lo hi sy (f + d) t b r := by
  intro d
  induction d with
  | zero => exact fun h => h
  | succ d ih => exact fun h => zt_up _ _ _ _ (ih h)
/-- only what the list names matters -/
theorem zt_fr {cx cy cx' cy' : Nat → Nat} {lo hi sy lo' hi' sy' : Nat → Int32} : ∀ (f : Nat) (t : List Nat) (b : Bool) (r : Int32), (∀ j, j ∈ t → cx' j = cx j ∧ cy' j = cy j ∧ lo' j = lo j ∧ hi' j = hi j ∧ sy' j = sy j) → zt_T cx cy lo hi sy f t b r → zt_T cx' cy' lo' hi' sy' f t b r := by
  intro f
  induction f with
  | zero => intro t b r _ h; exact h
  | succ f ih =>
    intro t b r hf h
    cases t with
    | nil => exact h
    | cons m t =>
      obtain ⟨h1, h2, h3, h4⟩ := h
      obtain ⟨m1, m2, m3, m4, m5⟩ := hf m (by simp)
      have e1 : t.filter (zt_lt cx' cy' b m) = t.filter (zt_lt cx cy b m) := List.filter_congr (fun j hj => by
        obtain ⟨j1, j2, _⟩ := hf j (by simp [hj])
        unfold zt_lt
        rw [m1, m2, j1, j2])
      have e2 : t.filter (zt_ge cx' cy' b m) = t.filter (zt_ge cx cy b m) := List.filter_congr (fun j hj => by
        obtain ⟨j1, j2, _⟩ := hf j (by simp [hj])
        unfold zt_ge zt_lt
        rw [m1, m2, j1, j2])
      refine ⟨h1, m5.trans h2, ?_, ?_⟩
      · rw [e1, m3]
        exact ih _ _ _ (fun j hj => hf j (List.mem_cons_of_mem _ (List.mem_filter.mp hj).1)) h3
      · rw [e2, m4]
        exact ih _ _ _ (fun j hj => hf j (List.mem_cons_of_mem _ (List.mem_filter.mp hj).1)) h4
/-- a leaf -/
theorem zt_leaf {cx cy : Nat → Nat} {lo hi sy : Nat → Int32} {k : Nat} {b : Bool} (f : Nat) (h1 : lo k = -1) (h2 : hi k = -1) (h3 : sy k = zt_b b) : zt_T cx cy lo hi sy (f + 1) [k] b (nI k) := by
  refine ⟨rfl, h3, ?_, ?_⟩
  · rw [h1]; exact zt_mkn
  · rw [h2]; exact zt_mkn
/-- what the way down of a new point k leaves: the tree of t ++ [k], all else as it was -/
def zt_D (cx cy : Nat → Nat) (lo hi sy lo' hi' sy' : Nat → Int32) (k f : Nat) (t : List Nat) (b : Bool) (r : Int32) : Prop :=
  zt_T cx cy lo' hi' sy' f (t ++ [k]) b r ∧ ∀ j, j ∉ t → j ≠ k → lo' j = lo j ∧ hi' j = hi j ∧ sy' j = sy j
theorem zt_fa {p : Nat → Bool} {t : List Nat} {k : Nat} (h : p k = true) : (t ++ [k]).filter p = t.filter p ++ [k] := by
  rw [List.filter_append]
  congr 1
  simp [h]
theorem zt_fb {p : Nat → Bool} {t : List Nat} {k : Nat} (h : p k = false) : (t ++ [k]).filter p = t.filter p := by
  rw [List.filter_append]
  simp [h]
/-- the low side takes k -/
theorem zt_lo {cx cy : Nat → Nat} {lo hi sy lo' hi' sy' : Nat → Int32} {k f m : Nat} {t : List Nat} {b : Bool} (hk : k ∉ m :: t) (hm : m ∉ t) (hlt : zt_lt cx cy b m k = true)
    (hs : sy m = zt_b b) (hT : zt_T cx cy lo hi sy f (t.filter (zt_ge cx cy b m)) (!b) (hi m))
    (hl : lo' m = lo m ∨ True) (hmm : hi' m = hi m ∧ sy' m = sy m)
    (hD : zt_T cx cy lo' hi' sy' (f + 1) (t.filter (zt_lt cx cy b m) ++ [k]) (!b) (lo' m))
    (hF : ∀ j, j ∉ m :: t.filter (zt_lt cx cy b m) → j ≠ k → lo' j = lo j ∧ hi' j = hi j ∧ sy' j = sy j) :
    zt_D cx cy lo hi sy lo' hi' sy' k (f + 2) (m :: t) b (nI m) := by
  refine ⟨⟨rfl, hmm.2.trans hs, ?_, ?_⟩, fun j hj hjk => hF j (fun z => hj ?_) hjk⟩
  · show zt_T cx cy lo' hi' sy' (f + 1) ((t ++ [k]).filter (zt_lt cx cy b m)) (!b) (lo' m)
    rw [zt_fa hlt]; exact hD
  · show zt_T cx cy lo' hi' sy' (f + 1) ((t ++ [k]).filter (zt_ge cx cy b m)) (!b) (hi' m)
    rw [zt_fb (by unfold zt_ge; rw [hlt]; rfl), hmm.1]
    refine zt_up _ _ _ _ (zt_fr _ _ _ _ (fun j hj => ?_) hT)
    have hj2 := List.mem_filter.mp hj
    refine ⟨rfl, rfl, hF j (fun z => ?_) (fun z => hk (by rw [← z]; simp [hj2.1]))⟩
    rcases List.mem_cons.mp z with e | e
    · exact hm (by rw [← e]; exact hj2.1)
    · have h1 := (List.mem_filter.mp e).2
      have h2 := hj2.2
      unfold zt_ge at h2
      rw [h1] at h2
      exact absurd h2 (by decide)
  · rcases List.mem_cons.mp z with e | e
    · simp [e]
    · simp [(List.mem_filter.mp e).1]
/-- the high side takes k -/
theorem zt_hi {cx cy : Nat → Nat} {lo hi sy lo' hi' sy' : Nat → Int32} {k f m : Nat} {t : List Nat} {b : Bool} (hk : k ∉ m :: t) (hm : m ∉ t) (hlt : zt_lt cx cy b m k = false)
    (hs : sy m = zt_b b) (hT : zt_T cx cy lo hi sy f (t.filter (zt_lt cx cy b m)) (!b) (lo m))
    (hmm : lo' m = lo m ∧ sy' m = sy m)
    (hD : zt_T cx cy lo' hi' sy' (f + 1) (t.filter (zt_ge cx cy b m) ++ [k]) (!b) (hi' m))
    (hF : ∀ j, j ∉ m :: t.filter (zt_ge cx cy b m) → j ≠ k → lo' j = lo j ∧ hi' j = hi j ∧ sy' j = sy j) :
    zt_D cx cy lo hi sy lo' hi' sy' k (f + 2) (m :: t) b (nI m) := by
  refine ⟨⟨rfl, hmm.2.trans hs, ?_, ?_⟩, fun j hj hjk => hF j (fun z => hj ?_) hjk⟩
  · show zt_T cx cy lo' hi' sy' (f + 1) ((t ++ [k]).filter (zt_lt cx cy b m)) (!b) (lo' m)
    rw [zt_fb hlt, hmm.1]
    refine zt_up _ _ _ _ (zt_fr _ _ _ _ (fun j hj => ?_) hT)
    have hj2 := List.mem_filter.mp hj
    refine ⟨rfl, rfl, hF j (fun z => ?_) (fun z => hk (by rw [← z]; simp [hj2.1]))⟩
    rcases List.mem_cons.mp z with e | e
    · exact hm (by rw [← e]; exact hj2.1)
    · have h1 := (List.mem_filter.mp e).2
      have h2 := hj2.2
      unfold zt_ge at h1
      rw [h2] at h1
      exact absurd h1 (by decide)
  · show zt_T cx cy lo' hi' sy' (f + 1) ((t ++ [k]).filter (zt_ge cx cy b m)) (!b) (hi' m)
    rw [zt_fa (by unfold zt_ge; rw [hlt]; rfl)]; exact hD
  · rcases List.mem_cons.mp z with e | e
    · simp [e]
    · simp [(List.mem_filter.mp e).1]
/-- a step down a side whose list isn't empty: what came of the side below -/
theorem zt_lo2 {cx cy : Nat → Nat} {lo hi sy lo' hi' sy' : Nat → Int32} {k f m : Nat} {t : List Nat} {b : Bool} (hk : k ∉ m :: t) (hm : m ∉ t) (hlt : zt_lt cx cy b m k = true)
    (hs : sy m = zt_b b) (hT : zt_T cx cy lo hi sy f (t.filter (zt_ge cx cy b m)) (!b) (hi m))
    (hD : zt_D cx cy lo hi sy lo' hi' sy' k (f + 1) (t.filter (zt_lt cx cy b m)) (!b) (lo m)) :
    zt_D cx cy lo hi sy lo' hi' sy' k (f + 2) (m :: t) b (nI m) := by
  obtain ⟨h1, h2, h3⟩ := hD.2 m (fun z => hm (List.mem_filter.mp z).1) (fun z => hk (by rw [z]; simp))
  exact zt_lo hk hm hlt hs hT (Or.inr trivial) ⟨h2, h3⟩ (by rw [h1]; exact hD.1) (fun j hj hjk => hD.2 j (fun z => hj (List.mem_cons_of_mem _ z)) hjk)
theorem zt_hi2 {cx cy : Nat → Nat} {lo hi sy lo' hi' sy' : Nat → Int32} {k f m : Nat} {t : List Nat} {b : Bool} (hk : k ∉ m :: t) (hm : m ∉ t) (hlt : zt_lt cx cy b m k = false)
    (hs : sy m = zt_b b) (hT : zt_T cx cy lo hi sy f (t.filter (zt_lt cx cy b m)) (!b) (lo m))
    (hD : zt_D cx cy lo hi sy lo' hi' sy' k (f + 1) (t.filter (zt_ge cx cy b m)) (!b) (hi m)) :
    zt_D cx cy lo hi sy lo' hi' sy' k (f + 2) (m :: t) b (nI m) := by
  obtain ⟨h1, h2, h3⟩ := hD.2 m (fun z => hm (List.mem_filter.mp z).1) (fun z => hk (by rw [z]; simp))
  exact zt_hi hk hm hlt hs hT ⟨h1, h3⟩ (by rw [h2]; exact hD.1) (fun j hj hjk => hD.2 j (fun z => hj (List.mem_cons_of_mem _ z)) hjk)
/-- where k is hung -/
theorem zt_lo1 {cx cy : Nat → Nat} {lo hi sy : Nat → Int32} {k f m : Nat} {t : List Nat} {b : Bool} (hk : k ∉ m :: t) (hm : m ∉ t) (hlt : zt_lt cx cy b m k = true)
    (hs : sy m = zt_b b) (hT : zt_T cx cy lo hi sy f (t.filter (zt_ge cx cy b m)) (!b) (hi m)) (he : t.filter (zt_lt cx cy b m) = []) (hk1 : lo k = -1) (hk2 : hi k = -1) :
    zt_D cx cy lo hi sy (upd lo m (nI k)) hi (upd sy k (zt_b (!b))) k (f + 2) (m :: t) b (nI m) := by
  have hkm : k ≠ m := fun z => hk (by rw [z]; simp)
  refine zt_lo hk hm hlt hs hT (Or.inr trivial) ⟨rfl, pk_un hkm.symm⟩ ?_ (fun j hj hjk => ?_)
  · rw [he, pk_us]
    exact zt_leaf f (by rw [pk_un hkm]; exact hk1) hk2 pk_us
  · exact ⟨pk_un (fun z => hj (by rw [z]; simp)), rfl, pk_un hjk⟩
theorem zt_hi1 {cx cy : Nat → Nat} {lo hi sy : Nat → Int32} {k f m : Nat} {t : List Nat} {b : Bool} (hk : k ∉ m :: t) (hm : m ∉ t) (hlt : zt_lt cx cy b m k = false)
    (hs : sy m = zt_b b) (hT : zt_T cx cy lo hi sy f (t.filter (zt_lt cx cy b m)) (!b) (lo m)) (he : t.filter (zt_ge cx cy b m) = []) (hk1 : lo k = -1) (hk2 : hi k = -1) :
    zt_D cx cy lo hi sy lo (upd hi m (nI k)) (upd sy k (zt_b (!b))) k (f + 2) (m :: t) b (nI m) := by
  have hkm : k ≠ m := fun z => hk (by rw [z]; simp)
  refine zt_hi hk hm hlt hs hT ⟨rfl, pk_un hkm.symm⟩ ?_ (fun j hj hjk => ?_)
  · rw [he, pk_us]
    exact zt_leaf f hk1 (by rw [pk_un hkm]; exact hk2) pk_us
  · exact ⟨rfl, pk_un (fun z => hj (by rw [z]; simp)), pk_un hjk⟩
/-- the two sides together -/
theorem zt_ln (cx cy : Nat → Nat) (b : Bool) (m : Nat) (t : List Nat) : (t.filter (zt_lt cx cy b m)).length + (t.filter (zt_ge cx cy b m)).length = t.length := by
  induction t with
  | nil => rfl
  | cons k t ih =>
    rw [List.filter_cons, List.filter_cons, List.length_cons]
    cases h : zt_lt cx cy b m k
    · have h2 : zt_ge cx cy b m k = true := by unfold zt_ge; rw [h]; rfl
      rw [h2, if_neg (by decide), if_pos rfl, List.length_cons]; omega
    · have h2 : zt_ge cx cy b m k = false := by unfold zt_ge; rw [h]; rfl
      rw [h2, if_pos rfl, if_neg (by decide), List.length_cons]; omega
theorem zt_mm (cx cy : Nat → Nat) (b : Bool) (m : Nat) {t : List Nat} {k : Nat} (h : k ∈ t) : k ∈ t.filter (zt_lt cx cy b m) ∨ k ∈ t.filter (zt_ge cx cy b m) := by
  cases h2 : zt_lt cx cy b m k
  · exact Or.inr (List.mem_filter.mpr ⟨h, by unfold zt_ge; rw [h2]; rfl⟩)
  · exact Or.inl (List.mem_filter.mpr ⟨h, h2⟩)
/-- a list that is more than its tree's fuel allows isn't -/
theorem zt_ne {cx cy : Nat → Nat} {lo hi sy : Nat → Int32} {f : Nat} {t : List Nat} {b : Bool} {r : Int32} (h : zt_T cx cy lo hi sy f t b r) (hr : r = -1) (hb : ∀ j, j ∈ t → j < 28) : t = [] := by
  cases t with
  | nil => rfl
  | cons m t =>
    obtain ⟨g, _, h2, _⟩ := zt_hd h
    exact absurd (h2.symm.trans hr) (zn_n1 (by have := hb m (by simp); omega))
end
section
/-! ===== the quads ===== -/
def zq_d : Nat → Nat → Nat × Nat × Nat
  | 0, _ => (0, 0, 64)
  | f + 1, n => if n = 0 then (0, 0, 64) else ((zq_d f ((n - 1) / 4)).1 + (zq_d f ((n - 1) / 4)).2.2 / 2 * ((n - 1) % 4 % 2), (zq_d f ((n - 1) / 4)).2.1 + (zq_d f ((n - 1) / 4)).2.2 / 2 * ((n - 1) % 4 / 2), (zq_d f ((n - 1) / 4)).2.2 / 2)
def zq_x (n : Nat) : Nat := (zq_d 4 n).1
def zq_y (n : Nat) : Nat := (zq_d 4 n).2.1
def zq_s (n : Nat) : Nat := (zq_d 4 n).2.2
theorem zq_stx : ∀ m, m < 85 → ∀ q, q < 4 → zq_x (4 * m + 1 + q) = zq_x m + zq_s m / 2 * (q % 2) := by decide +kernel
theorem zq_sty : ∀ m, m < 85 → ∀ q, q < 4 → zq_y (4 * m + 1 + q) = zq_y m + zq_s m / 2 * (q / 2) := by decide +kernel
theorem zq_sts : ∀ m, m < 85 → ∀ q, q < 4 → zq_s (4 * m + 1 + q) = zq_s m / 2 := by decide +kernel
theorem zq_bd : ∀ n, n < 341 → zq_x n + zq_s n ≤ 64 ∧ zq_y n + zq_s n ≤ 64 ∧ 4 ≤ zq_s n := by decide +kernel
theorem zq_ev : ∀ m, m < 85 → zq_s m / 2 * 2 = zq_s m := by decide +kernel
def zq_in (n x y : Nat) : Bool := decide (zq_x n ≤ x) && decide (x < zq_x n + zq_s n) && decide (zq_y n ≤ y) && decide (y < zq_y n + zq_s n)
theorem zq_iff (n x y : Nat) : zq_in n x y = true ↔ (zq_x n ≤ x ∧ x < zq_x n + zq_s n) ∧ zq_y n ≤ y ∧ y < zq_y n + zq_s n := by
  unfold zq_in
  simp only [Bool.and_eq_true, decide_eq_true_eq, and_assoc]
def zq_rx (m x : Nat) : Nat := if zq_x m + zq_s m / 2 ≤ x then 1 else 0
def zq_ry (m y : Nat) : Nat := if zq_y m + zq_s m / 2 ≤ y then 2 else 0
theorem zq_num {X Y h x y q rx ry : Nat} (hq : q < 4) (erx : rx = if X + h ≤ x then 1 else 0) (ery : ry = if Y + h ≤ y then 2 else 0) :
    ((X + h * (q % 2) ≤ x ∧ x < X + h * (q % 2) + h) ∧ Y + h * (q / 2) ≤ y ∧ y < Y + h * (q / 2) + h) ↔ ((X ≤ x ∧ x < X + h * 2) ∧ Y ≤ y ∧ y < Y + h * 2) ∧ q = rx + ry := by
  have hc : q = 0 ∨ q = 1 ∨ q = 2 ∨ q = 3 := by omega
  rcases hc with e | e | e | e <;> subst e <;> simp only [Nat.reduceMod, Nat.reduceDiv, Nat.mul_zero, Nat.mul_one, Nat.add_zero] <;> split at erx <;> split at ery <;> omega
theorem zq_ch {m : Nat} (hm : m < 85) {q : Nat} (hq : q < 4) (x y : Nat) : zq_in (4 * m + 1 + q) x y = true ↔ zq_in m x y = true ∧ q = zq_rx m x + zq_ry m y := by
  rw [zq_iff, zq_iff, zq_stx m hm q hq, zq_sty m hm q hq, zq_sts m hm q hq, zq_num hq (rx := zq_rx m x) (ry := zq_ry m y) rfl rfl, zq_ev m hm]
theorem zq_r4 (m x y : Nat) : zq_rx m x + zq_ry m y < 4 := by
  unfold zq_rx zq_ry
  split <;> split <;> omega
/-- the first quad of a level -/
def zq_o : Nat → Nat
  | 0 => 0
  | t + 1 => 4 * zq_o t + 1
theorem zq_o85 : ∀ t, t < 4 → zq_o (t + 1) ≤ 85 := by decide
/-- the quads on the way to a point -/
def zq_p (x y : Nat) : Nat → Nat
  | 0 => 0
  | t + 1 => 4 * zq_p x y t + 1 + (zq_rx (zq_p x y t) x + zq_ry (zq_p x y t) y)
theorem zq_0 {x y : Nat} (hx : x < 64) (hy : y < 64) : zq_in 0 x y = true := by
  rw [zq_iff]
  have h1 : zq_x 0 = 0 := by decide
  have h2 : zq_y 0 = 0 := by decide
  have h3 : zq_s 0 = 64 := by decide
  rw [h1, h2, h3]
  omega
theorem zq_pl {x y : Nat} (hx : x < 64) (hy : y < 64) : ∀ t, t ≤ 4 → (zq_o t ≤ zq_p x y t ∧ zq_p x y t < zq_o (t + 1)) ∧ ∀ n, zq_o t ≤ n → n < zq_o (t + 1) → (zq_in n x y = true ↔ n = zq_p x y t) := by
  intro t
  induction t with
  | zero =>
    intro _
    refine ⟨⟨Nat.le_refl _, Nat.zero_lt_one⟩, fun n _ h => ?_⟩
    have e1 : zq_o (0 + 1) = 1 := rfl
    have e2 : n = 0 := by omega
    subst e2
    exact ⟨fun _ => rfl, fun _ => zq_0 hx hy⟩
  | succ t ih =>
    intro ht
    obtain ⟨⟨h1, h2⟩, h3⟩ := ih (by omega)
    have h4 := zq_r4 (zq_p x y t) x y
    have h85 := zq_o85 t (by omega)
    have e1 : zq_o (t + 1) = 4 * zq_o t + 1 := rfl
    have e2 : zq_o (t + 1 + 1) = 4 * zq_o (t + 1) + 1 := rfl
    have e3 : zq_p x y (t + 1) = 4 * zq_p x y t + 1 + (zq_rx (zq_p x y t) x + zq_ry (zq_p x y t) y) := rfl
    refine ⟨by omega, fun n hn1 hn2 => ?_⟩
    obtain ⟨m, q, hq, rfl⟩ : ∃ m q, q < 4 ∧ n = 4 * m + 1 + q := ⟨(n - 1) / 4, (n - 1) % 4, Nat.mod_lt _ (by omega), by omega⟩
    have hm1 : zq_o t ≤ m := by omega
    have hm2 : m < zq_o (t + 1) := by omega
    rw [zq_ch (by omega) hq, h3 m hm1 hm2, e3]
    constructor
    · intro ⟨z1, z2⟩
      subst z1
      omega
    · intro z
      have z1 : m = zq_p x y t := by omega
      subst z1
      exact ⟨rfl, by omega⟩
theorem zq_p341 {x y : Nat} (hx : x < 64) (hy : y < 64) {t : Nat} (ht : t ≤ 4) : zq_p x y t < 341 := by
  have h := (zq_pl hx hy t ht).1.2
  have h2 : ∀ t, t ≤ 4 → zq_o (t + 1) ≤ 341 := by decide
  have := h2 t ht
  omega
theorem zq_p85 {x y : Nat} (hx : x < 64) (hy : y < 64) {t : Nat} (ht : t < 4) : zq_p x y t < 85 := by
  have h := (zq_pl hx hy t (by omega)).1.2
  have := zq_o85 t ht
  omega
/-- the array after t + 1 flips -/
theorem zq_fl {x y : Nat} (hx : x < 64) (hy : y < 64) {t : Nat} (ht : t ≤ 4) {a old : Nat → Int32} {v : Int32} (h : ∀ n, n < 341 → a n = if decide (n < zq_o t) && zq_in n x y then old n ^^^ v else old n) :
    ∀ n, n < 341 → upd a (zq_p x y t) (a (zq_p x y t) ^^^ v) n = if decide (n < zq_o (t + 1)) && zq_in n x y then old n ^^^ v else old n := by
  intro n hn
  obtain ⟨⟨h1, h2⟩, h3⟩ := zq_pl hx hy t ht
  have e1 : zq_o (t + 1) = 4 * zq_o t + 1 := rfl
  by_cases e : n = zq_p x y t
  · subst e
    rw [pk_us, h _ hn, decide_eq_true h2, decide_eq_false (by omega : ¬ zq_p x y t < zq_o t), (h3 _ h1 h2).mpr rfl]
    first | rfl | simp
  · rw [pk_un e, h n hn]
    by_cases hl : n < zq_o t
    · rw [decide_eq_true hl, decide_eq_true (by omega : n < zq_o (t + 1))]
    · rw [decide_eq_false hl]
      by_cases hl2 : n < zq_o (t + 1)
      · have h4 : zq_in n x y = false := by
          cases hz : zq_in n x y
          · rfl
          · exact absurd ((h3 n (by omega) hl2).mp hz) e
        rw [h4, Bool.and_false, Bool.and_false]
      · rw [decide_eq_false hl2]
/-- how many quads hang below a quad, with itself -/
def zq_w (n : Nat) : Nat := if n = 0 then 341 else if n < 5 then 85 else if n < 21 then 21 else if n < 85 then 5 else 1
theorem zq_w1 (n : Nat) : 1 ≤ zq_w n := by
  unfold zq_w
  (repeat' split) <;> omega
theorem zq_w4 : ∀ m, m < 85 → zq_w (4 * m + 1 + 0) + zq_w (4 * m + 1 + 1) + zq_w (4 * m + 1 + 2) + zq_w (4 * m + 1 + 3) + 1 = zq_w m := by decide +kernel
/-! ===== the rectangle, the grid ===== -/
/-- is (x, y) in the rectangle of two places -/
def zp_in (lo hi x y : Nat) : Bool := decide (lo % 64 ≤ x) && decide (x ≤ hi % 64) && decide (lo / 64 ≤ y) && decide (y ≤ hi / 64)
theorem zp_iff (lo hi x y : Nat) : zp_in lo hi x y = true ↔ lo % 64 ≤ x ∧ x ≤ hi % 64 ∧ lo / 64 ≤ y ∧ y ≤ hi / 64 := by
  unfold zp_in
  simp only [Bool.and_eq_true, decide_eq_true_eq, and_assoc]
/-- the ring of the grid in which a point lies, seen from a place -/
def zp_rg (x y a b : Nat) : Nat := if zn_d (x / 8) (a / 8) ≤ zn_d (y / 8) (b / 8) then zn_d (y / 8) (b / 8) else zn_d (x / 8) (a / 8)
theorem zp_rg7 {x y a b : Nat} (hx : x < 64) (hy : y < 64) (ha : a < 64) (hb : b < 64) : zp_rg x y a b < 8 := by
  unfold zp_rg zn_d
  split <;> omega
theorem zp_gap {x y a b r : Nat} (h : r + 1 ≤ zp_rg x y a b) : (8 * r + 1) * (8 * r + 1) ≤ zn_q x y a b := by
  unfold zp_rg at h
  split at h
  · exact zn_qy (by unfold zn_d at *; omega)
  · exact zn_qx (by unfold zn_d at *; omega)
theorem zp_rgE (x y a b r : Nat) : (zn_d (a / 8) (x / 8) = r ∧ zn_d (b / 8) (y / 8) ≤ r ∨ zn_d (b / 8) (y / 8) = r ∧ zn_d (a / 8) (x / 8) ≤ r) ↔ zp_rg x y a b = r := by
  unfold zp_rg
  rw [zn_dc (a / 8), zn_dc (b / 8)]
  split <;> omega
end
section
/-! ===== what the component keeps, part by part, against the picture al, cx, cy ===== -/
def zr_b (cx cy : Nat → Nat) : Prop := ∀ k, cx k < 64 ∧ cy k < 64
def zr_P (cx cy : Nat → Nat) (px py : Nat → Int32) : Prop := ∀ k, k < 28 → px k = nI (cx k) ∧ py k = nI (cy k)
def zr_O (al : Nat → Bool) (cx : Nat → Nat) (held : Int32) (byX : Nat → Int32) : Prop := ∃ S, zl_M S al ∧ S.Pairwise (fun a b => cx a ≤ cx b) ∧ held = nI S.length ∧ zl_A byX 0 S
def zr_R (al : Nat → Bool) (cy : Nat → Nat) (rh rn : Nat → Int32) : Prop := ∀ y, y < 64 → ∃ R, zl_M R (fun k => al k && decide (cy k = y)) ∧ zl_C rn R (rh y)
def zr_c (cx cy : Nat → Nat) (k : Nat) : Nat := cx k / 8 + 8 * (cy k / 8)
def zr_C (al : Nat → Bool) (cx cy : Nat → Nat) (cell : Nat → Int32) : Prop := ∀ c, c < 64 → zs_S (cell c) (fun k => al k && decide (zr_c cx cy k = c))
def zr_Q (al : Nat → Bool) (cx cy : Nat → Nat) (quad : Nat → Int32) : Prop := ∀ n, n < 341 → zs_S (quad n) (fun k => al k && zq_in n (cx k) (cy k))
def zr_L (qx qy qs : Nat → Int32) : Prop := ∀ n, n < 341 → qx n = nI (zq_x n) ∧ qy n = nI (zq_y n) ∧ qs n = nI (zq_s n)
def zr_T (al : Nat → Bool) (cx cy : Nat → Nat) (root : Int32) (lo hi sy : Nat → Int32) : Prop := ∃ T f, zl_M T al ∧ zt_T cx cy lo hi sy f T false root
def zr_B (al : Nat → Bool) (c : Nat → Nat) (less : Nat → Int32) : Prop := ∀ b, b < 65 → zs_S (less b) (fun k => al k && decide (c k < b))
def zr_h (c b : Nat) : Bool := decide (c / 2 ^ b % 2 = 1)
def zr_I (al : Nat → Bool) (cx cy : Nat → Nat) (sl : Nat → Int32) : Prop := ∀ b, b < 6 → zs_S (sl b) (fun k => al k && zr_h (cx k) b) ∧ zs_S (sl (6 + b)) (fun k => al k && zr_h (cy k) b)
/-- k comes or goes -/
def zr_F (al al' : Nat → Bool) (k : Nat) : Prop := (∀ j, j ≠ k → al' j = al j) ∧ al' k = !al k
theorem zr_Fin (al : Nat → Bool) (k : Nat) (h : al k = false) : zr_F al (fun j => al j || decide (j = k)) k := by
  refine ⟨fun j hj => ?_, ?_⟩
  · simp [hj]
  · simp [h]
theorem zr_Fout (al : Nat → Bool) (k : Nat) (h : al k = true) : zr_F al (fun j => al j && !decide (j = k)) k := by
  refine ⟨fun j hj => ?_, ?_⟩
  · simp [hj]
  · simp [h]
theorem zr_Fi {al al' : Nat → Bool} {k : Nat} (h : zr_F al al' k) (hk : al k = false) (j : Nat) : al' j = (al j || decide (j = k)) := by
  by_cases e : j = k
  · subst e; rw [h.2, hk]; simp
  · rw [h.1 j e]; simp [e]
theorem zr_Fo {al al' : Nat → Bool} {k : Nat} (h : zr_F al al' k) (hk : al k = true) (j : Nat) : al' j = (al j && !decide (j = k)) := by
  by_cases e : j = k
  · subst e; rw [h.2, hk]; simp
  · rw [h.1 j e]; simp [e]
/-- the flip of a bit of a set -/
theorem zr_ft {x : Int32} {al al' c : Nat → Bool} {k : Nat} (hx : zs_S x (fun j => al j && c j)) (hk : k < 28) (hF : zr_F al al' k) (hc : c k = true) : zs_S (x ^^^ (1 <<< (nI k &&& 31))) (fun j => al' j && c j) := by
  refine zs_cg (zs_tog hx hk) (fun j _ => ?_)
  by_cases e : j = k
  · subst e; rw [hF.2, hc]; cases al j <;> simp
  · rw [hF.1 j e]; simp [e]
theorem zr_ff {x : Int32} {al al' c : Nat → Bool} {k : Nat} (hx : zs_S x (fun j => al j && c j)) (hF : zr_F al al' k) (hc : c k = false) : zs_S x (fun j => al' j && c j) := by
  refine zs_cg hx (fun j _ => ?_)
  by_cases e : j = k
  · subst e; rw [hc]; simp
  · rw [hF.1 j e]
theorem zr_fb {x : Int32} {al al' c : Nat → Bool} {k : Nat} (hx : zs_S x (fun j => al j && c j)) (hk : k < 28) (hF : zr_F al al' k) : zs_S (x ^^^ ((if c k then 1 else 0) <<< (nI k &&& 31))) (fun j => al' j && c j) := by
  refine zs_cg (zs_xor hx (zs_bit hk (c k))) (fun j _ => ?_)
  by_cases e : j = k
  · subst e; rw [hF.2]; cases al j <;> cases c j <;> simp
  · rw [hF.1 j e]; simp [e]
/-! ===== a dead point's place is nobody's business ===== -/
def zr_w (c : Nat → Nat) (k v : Nat) : Nat → Nat := fun j => if j = k then v else c j
theorem zr_ws {c : Nat → Nat} {k v : Nat} : zr_w c k v k = v := if_pos rfl
theorem zr_wn {c : Nat → Nat} {k v j : Nat} (h : j ≠ k) : zr_w c k v j = c j := if_neg h
theorem zr_wb {cx cy : Nat → Nat} {k x y : Nat} (h : zr_b cx cy) (hx : x < 64) (hy : y < 64) : zr_b (zr_w cx k x) (zr_w cy k y) := by
  intro j
  by_cases e : j = k
  · subst e; rw [zr_ws, zr_ws]; exact ⟨hx, hy⟩
  · rw [zr_wn e, zr_wn e]; exact h j
theorem zr_wP {cx cy : Nat → Nat} {px py : Nat → Int32} {k x y : Nat} (h : zr_P cx cy px py) : zr_P (zr_w cx k x) (zr_w cy k y) (upd px k (nI x)) (upd py k (nI y)) := by
  intro j hj
  by_cases e : j = k
  · subst e; rw [zr_ws, zr_ws, pk_us, pk_us]; exact ⟨rfl, rfl⟩
  · rw [zr_wn e, zr_wn e, pk_un e, pk_un e]; exact h j hj
theorem zr_ws2 {x : Int32} {al c c' : Nat → Bool} {k : Nat} (hx : zs_S x (fun j => al j && c j)) (hk : al k = false) (h : ∀ j, j ≠ k → c' j = c j) : zs_S x (fun j => al j && c' j) := by
  refine zs_cg hx (fun j _ => ?_)
  by_cases e : j = k
  · subst e; rw [hk]; rfl
  · rw [h j e]
theorem zr_wO {al : Nat → Bool} {cx : Nat → Nat} {held : Int32} {byX : Nat → Int32} {k x : Nat} (h : zr_O al cx held byX) (hk : al k = false) : zr_O al (zr_w cx k x) held byX := by
  obtain ⟨S, h1, h2, h3, h4⟩ := h
  refine ⟨S, h1, ?_, h3, h4⟩
  refine List.Pairwise.imp_of_mem (fun ha hb hab => ?_) h2
  have hn : ∀ j, j ∈ S → j ≠ k := fun j hj e => by
    have := ((h1.2 j).mp hj).2
    rw [e, hk] at this
    exact absurd this (by decide)
  rw [zr_wn (hn _ ha), zr_wn (hn _ hb)]
  exact hab
theorem zr_wR {al : Nat → Bool} {cy : Nat → Nat} {rh rn : Nat → Int32} {k y : Nat} (h : zr_R al cy rh rn) (hk : al k = false) : zr_R al (zr_w cy k y) rh rn := by
  intro r hr
  obtain ⟨R, h1, h2⟩ := h r hr
  refine ⟨R, zl_cg h1 (fun j _ => ?_), h2⟩
  by_cases e : j = k
  · subst e; rw [hk]; rfl
  · rw [zr_wn e]
theorem zr_wC {al : Nat → Bool} {cx cy : Nat → Nat} {cell : Nat → Int32} {k x y : Nat} (h : zr_C al cx cy cell) (hk : al k = false) : zr_C al (zr_w cx k x) (zr_w cy k y) cell :=
  fun c hc => zr_ws2 (c := fun j => decide (zr_c cx cy j = c)) (h c hc) hk (fun j e => by unfold zr_c; rw [zr_wn e, zr_wn e])
theorem zr_wQ {al : Nat → Bool} {cx cy : Nat → Nat} {quad : Nat → Int32} {k x y : Nat} (h : zr_Q al cx cy quad) (hk : al k = false) : zr_Q al (zr_w cx k x) (zr_w cy k y) quad :=
  fun n hn => zr_ws2 (c := fun j => zq_in n (cx j) (cy j)) (h n hn) hk (fun j e => by rw [zr_wn e, zr_wn e])
theorem zr_wT {al : Nat → Bool} {cx cy : Nat → Nat} {root : Int32} {lo hi sy : Nat → Int32} {k x y : Nat} (h : zr_T al cx cy root lo hi sy) (hk : al k = false) : zr_T al (zr_w cx k x) (zr_w cy k y) root lo hi sy := by
  obtain ⟨T, f, h1, h2⟩ := h
  refine ⟨T, f, h1, zt_fr _ _ _ _ (fun j hj => ?_) h2⟩
  have hn : j ≠ k := fun e => by
    have := ((h1.2 j).mp hj).2
    rw [e, hk] at this
    exact absurd this (by decide)
  exact ⟨zr_wn hn, zr_wn hn, rfl, rfl, rfl⟩
theorem zr_wB {al : Nat → Bool} {c : Nat → Nat} {less : Nat → Int32} {k x : Nat} (h : zr_B al c less) (hk : al k = false) : zr_B al (zr_w c k x) less :=
  fun b hb => zr_ws2 (c := fun j => decide (c j < b)) (h b hb) hk (fun j e => by rw [zr_wn e])
theorem zr_wI {al : Nat → Bool} {cx cy : Nat → Nat} {sl : Nat → Int32} {k x y : Nat} (h : zr_I al cx cy sl) (hk : al k = false) : zr_I al (zr_w cx k x) (zr_w cy k y) sl :=
  fun b hb => ⟨zr_ws2 (c := fun j => zr_h (cx j) b) (h b hb).1 hk (fun j e => by rw [zr_wn e]), zr_ws2 (c := fun j => zr_h (cy j) b) (h b hb).2 hk (fun j e => by rw [zr_wn e])⟩
/-! ===== the reference's array ===== -/
def zr_V (al : Nat → Bool) (cx cy : Nat → Nat) (v : Nat → Int32) : Prop := ∀ k, k < 28 → v k = if al k then nI (cx k + 64 * cy k + 1) else 0
theorem zr_Vt {al : Nat → Bool} {cx cy : Nat → Nat} {v : Nat → Int32} (h : zr_V al cx cy v) {k : Nat} (hk : k < 28) (ha : al k = true) : v k = nI (cx k + 64 * cy k + 1) := by rw [h k hk, ha]; rfl
theorem zr_Vf {al : Nat → Bool} {cx cy : Nat → Nat} {v : Nat → Int32} (h : zr_V al cx cy v) {k : Nat} (hk : k < 28) (ha : al k = false) : v k = 0 := by rw [h k hk, ha]; rfl
theorem zr_Vin {al : Nat → Bool} {cx cy : Nat → Nat} {v : Nat → Int32} (h : zr_V al cx cy v) (k p : Nat) : zr_V (fun j => al j || decide (j = k)) (zr_w cx k (p % 64)) (zr_w cy k (p / 64)) (upd v k (nI (p + 1))) := by
  intro j hj
  by_cases e : j = k
  · subst e
    rw [pk_us, zr_ws, zr_ws]
    have e2 : p % 64 + 64 * (p / 64) = p := Nat.mod_add_div p 64
    simp [e2]
  · rw [pk_un e, zr_wn e, zr_wn e, h j hj]; simp [e]
theorem zr_Vout {al : Nat → Bool} {cx cy : Nat → Nat} {v : Nat → Int32} (h : zr_V al cx cy v) (k : Nat) : zr_V (fun j => al j && !decide (j = k)) cx cy (upd v k 0) := by
  intro j hj
  by_cases e : j = k
  · subst e
    rw [pk_us]; simp
  · rw [pk_un e, h j hj]; simp [e]
end
section
/-! ===== slices ===== -/
theorem zi_dv (c b : Nat) : c / 2 ^ (b + 1) = c / 2 ^ b / 2 := by
  rw [Nat.pow_succ, Nat.div_div_eq_div_mul]
theorem zi_lt (c B b : Nat) : decide (c / 2 ^ b < B / 2 ^ b) = (decide (c / 2 ^ (b + 1) < B / 2 ^ (b + 1)) || (decide (c / 2 ^ (b + 1) = B / 2 ^ (b + 1)) && (!zr_h c b && zr_h B b))) := by
  rw [zi_dv, zi_dv]
  unfold zr_h
  generalize c / 2 ^ b = u
  generalize B / 2 ^ b = w
  rw [Bool.eq_iff_iff]
  simp only [Bool.or_eq_true, Bool.and_eq_true, decide_eq_true_eq, Bool.not_eq_true', decide_eq_false_iff_not]
  omega
theorem zi_eq (c B b : Nat) : decide (c / 2 ^ b = B / 2 ^ b) = (decide (c / 2 ^ (b + 1) = B / 2 ^ (b + 1)) && (zr_h c b == zr_h B b)) := by
  rw [zi_dv, zi_dv]
  unfold zr_h
  generalize c / 2 ^ b = u
  generalize B / 2 ^ b = w
  rw [Bool.eq_iff_iff]
  simp only [Bool.and_eq_true, decide_eq_true_eq, beq_iff_eq, decide_eq_decide]
  omega
theorem zi_bit {c b : Nat} (hc : c < 4096) (hb : b < 32) : (nI c >>> (nI b &&& 31)) &&& 1 = if zr_h c b then 1 else 0 := by
  have h2 : c / 2 ^ b ≤ c := Nat.div_le_self _ _
  rw [pk_shrN (n := c) (by omega) (nI b &&& 31) b (s_l b hb), pk_andN (n := c / 2 ^ b) (m := 1) (by omega) 1 (by decide)]
  unfold zr_h
  generalize c / 2 ^ b = u
  by_cases e : u % 2 = 1
  · rw [decide_eq_true e, show u % 2 ^ 1 = 1 by omega]; rfl
  · rw [decide_eq_false e, show u % 2 ^ 1 = 0 by omega]; rfl
/-! ===== the best so far, a step on ===== -/
theorem zo_take {al : Nat → Bool} {f : Nat → Nat} {best : Int32} {P : Nat → Prop} {k : Nat} (h : zo_B al f best P) (hk : k < 28) (ha : al k = true) (hb : best = -1 ∨ ∃ b, b < 28 ∧ best = nI b ∧ zo_n f k b) : zo_B al f (nI k) (fun j => P j ∨ j = k) := by
  refine Or.inr ⟨k, hk, ha, rfl, fun j hj hP => ?_⟩
  rcases hP with hP | hP
  · rcases h with ⟨h1, h2⟩ | ⟨b, h1, h2, h3, h4⟩
    · exact absurd hP (h2 j hj)
    · rcases hb with hb | ⟨c, hc, e, hn⟩
      · exact absurd (h3.symm.trans hb) (zn_n1 (by omega))
      · have e2 : b = c := (nI_eq (by omega) (by omega)).mp (h3.symm.trans e)
        subst e2
        exact zo_keep (h4 j hj hP) hn
  · subst hP; exact zo_irr f j
theorem zo_stay {al : Nat → Bool} {f : Nat → Nat} {best : Int32} {P : Nat → Prop} {k : Nat} (h : zo_B al f best P) (hb : ∃ b, b < 28 ∧ best = nI b ∧ ¬ zo_n f k b) : zo_B al f best (fun j => P j ∨ j = k) := by
  obtain ⟨c, hc, e, hn⟩ := hb
  rcases h with ⟨h1, h2⟩ | ⟨b, h1, h2, h3, h4⟩
  · exact absurd (h1.symm.trans e) (zn_n1' (by omega))
  · have e2 : b = c := (nI_eq (by omega) (by omega)).mp (h3.symm.trans e)
    subst e2
    refine Or.inr ⟨b, h1, h2, h3, fun j hj hP => ?_⟩
    rcases hP with hP | hP
    · exact h4 j hj hP
    · subst hP; exact hn
theorem zo_or {al : Nat → Bool} {f : Nat → Nat} {best : Int32} {P : Nat → Prop} (h : zo_B al f best P) : best = -1 ∨ ∃ b, b < 28 ∧ al b = true ∧ best = nI b := by
  rcases h with ⟨h1, _⟩ | ⟨b, h1, h2, h3, _⟩
  · exact Or.inl h1
  · exact Or.inr ⟨b, h1, h2, h3⟩
/-- nearer, as a Bool -/
def zo_nb (f : Nat → Nat) (i j : Nat) : Bool := decide (f i < f j) || (decide (f i = f j) && decide (i < j))
theorem zo_nbI (f : Nat → Nat) (i j : Nat) : zo_nb f i j = true ↔ zo_n f i j := by
  unfold zo_nb zo_n
  simp only [Bool.or_eq_true, Bool.and_eq_true, decide_eq_true_eq]
/-- how many are nearer than k -/
def zo_r (al : Nat → Bool) (f : Nat → Nat) (k : Nat) : Nat := zn_c (fun i => al i && zo_nb f i k) 28
/-- the answer of ranked -/
def zo_a (al : Nat → Bool) (f : Nat → Nat) (j : Int32) : Int32 := zn_f (fun k => al k && decide (nI (zo_r al f k) = j)) 28 0
theorem zo_r0 {al : Nat → Bool} {f : Nat → Nat} {k : Nat} : nI (zo_r al f k) = 0 ↔ ∀ i, i < 28 → al i = true → ¬ zo_n f i k := by
  have hl : zo_r al f k ≤ 28 := zn_cl _ _
  rw [← nI_0, nI_eq (by omega) (by omega)]
  constructor
  · intro h i hi ha hn
    have := zn_cz' _ _ h i hi
    rw [ha, (zo_nbI f i k).mpr hn] at this
    exact absurd this (by decide)
  · intro h
    refine zn_cz _ _ (fun i hi => ?_)
    cases ha : al i
    · rfl
    · cases hb : zo_nb f i k
      · rfl
      · exact absurd ((zo_nbI f i k).mp hb) (h i hi ha)
/-- the best of all is the one of rank 0 -/
theorem zo_best {al : Nat → Bool} {f : Nat → Nat} {x : Int32} (h : zo_B al f x (fun k => al k = true)) : x = zo_a al f 0 := by
  rcases h with ⟨h1, h2⟩ | ⟨b, h1, h2, h3, h4⟩
  · rw [h1]
    refine (zn_fn _ 28 0 (fun k _ hk => ?_)).symm
    cases ha : al k
    · rfl
    · exact absurd ha (h2 k (by omega))
  · rw [h3]
    refine (zn_fu _ b ?_ 28 0 (Nat.zero_le b) (by omega) (fun k _ hk => ?_)).symm
    · rw [h2, decide_eq_true (zo_r0.mpr (fun i hi ha => h4 i hi ha))]; rfl
    · cases ha : al k
      · rfl
      · have hne : ¬ nI (zo_r al f k) = 0 := fun z => by
          have h5 := zo_r0.mp z b h1 h2
          have h6 := h4 k (by omega) ha
          have := zo_tot h5 h6
          omega
        rw [decide_eq_false hne]; rfl
/-! ===== is there one ===== -/
def zv_a (p : Nat → Bool) : Nat → Nat → Bool
  | 0, _ => false
  | d + 1, i => p i || zv_a p d (i + 1)
theorem zv_cg (p q : Nat → Bool) : ∀ d i, (∀ k, i ≤ k → k < i + d → p k = q k) → zv_a p d i = zv_a q d i := by
  intro d
  induction d with
  | zero => intro i _; rfl
  | succ d ih =>
    intro i h
    show (p i || zv_a p d (i + 1)) = (q i || zv_a q d (i + 1))
    rw [h i (Nat.le_refl i) (by omega), ih (i + 1) (fun k h1 h2 => h k (by omega) (by omega))]
/-! ===== the least square of two points ===== -/
def zm_m (a b : Nat) : Nat := if a < b then a else b
def zm_i (al : Nat → Bool) (q : Nat → Nat → Nat) (k : Nat) : Nat → Nat
  | 0 => 8192
  | i + 1 => if al i then zm_m (q i k) (zm_i al q k i) else zm_i al q k i
def zm_o (al : Nat → Bool) (q : Nat → Nat → Nat) : Nat → Nat
  | 0 => 8192
  | k + 1 => if al k then zm_m (zm_i al q k k) (zm_o al q k) else zm_o al q k
theorem zm_il (al : Nat → Bool) (q : Nat → Nat → Nat) (k : Nat) : ∀ i, zm_i al q k i ≤ 8192 := by
  intro i
  induction i with
  | zero => exact Nat.le_refl _
  | succ i ih =>
    show (if al i then zm_m (q i k) (zm_i al q k i) else zm_i al q k i) ≤ 8192
    unfold zm_m
    split <;> (try split) <;> omega
theorem zm_ol (al : Nat → Bool) (q : Nat → Nat → Nat) : ∀ k, zm_o al q k ≤ 8192 := by
  intro k
  induction k with
  | zero => exact Nat.le_refl _
  | succ k ih =>
    have := zm_il al q k k
    show (if al k then zm_m (zm_i al q k k) (zm_o al q k) else zm_o al q k) ≤ 8192
    unfold zm_m
    split <;> (try split) <;> omega
theorem zm_ii {al : Nat → Bool} {q : Nat → Nat → Nat} (hq : ∀ i k, q i k ≤ 7938) (k : Nat) : ∀ i, zm_i al q k i < 8192 ↔ ∃ j, j < i ∧ al j = true := by
  intro i
  induction i with
  | zero => exact ⟨fun h => absurd h (by show ¬ 8192 < 8192; omega), fun ⟨j, hj, _⟩ => by omega⟩
  | succ i ih =>
    have h1 := hq i k
    show (if al i then zm_m (q i k) (zm_i al q k i) else zm_i al q k i) < 8192 ↔ _
    cases ha : al i
    · rw [if_neg (by decide), ih]
      constructor
      · intro ⟨j, h2, h3⟩; exact ⟨j, by omega, h3⟩
      · intro ⟨j, h2, h3⟩
        have h4 : j ≠ i := fun e => by rw [e, ha] at h3; exact absurd h3 (by decide)
        exact ⟨j, by omega, h3⟩
    · rw [if_pos rfl]
      constructor
      · intro _; exact ⟨i, by omega, ha⟩
      · intro _; unfold zm_m; split <;> omega
theorem zm_oo {al : Nat → Bool} {q : Nat → Nat → Nat} (hq : ∀ i k, q i k ≤ 7938) : ∀ n, zm_o al q n < 8192 ↔ ∃ i k, i < k ∧ k < n ∧ al i = true ∧ al k = true := by
  intro n
  induction n with
  | zero => exact ⟨fun h => absurd h (by show ¬ 8192 < 8192; omega), fun ⟨i, k, _, hk, _⟩ => by omega⟩
  | succ n ih =>
    have hi := zm_ii (al := al) hq n n
    show (if al n then zm_m (zm_i al q n n) (zm_o al q n) else zm_o al q n) < 8192 ↔ _
    cases ha : al n
    · rw [if_neg (by decide), ih]
      constructor
      · intro ⟨i, k, h1, h2, h3, h4⟩; exact ⟨i, k, h1, by omega, h3, h4⟩
      · intro ⟨i, k, h1, h2, h3, h4⟩
        have h5 : k ≠ n := fun e => by rw [e, ha] at h4; exact absurd h4 (by decide)
        exact ⟨i, k, h1, by omega, h3, h4⟩
    · rw [if_pos rfl]
      have hm : zm_m (zm_i al q n n) (zm_o al q n) < 8192 ↔ zm_i al q n n < 8192 ∨ zm_o al q n < 8192 := by unfold zm_m; split <;> omega
      rw [hm, hi, ih]
      constructor
      · intro h
        rcases h with ⟨j, h1, h2⟩ | ⟨i, k, h1, h2, h3, h4⟩
        · exact ⟨j, n, h1, by omega, h2, ha⟩
        · exact ⟨i, k, h1, by omega, h3, h4⟩
      · intro ⟨i, k, h1, h2, h3, h4⟩
        by_cases e : k = n
        · subst e; exact Or.inl ⟨i, h1, h3⟩
        · exact Or.inr ⟨i, k, h1, by omega, h3, h4⟩
/-! ===== a search with things that wait ===== -/
def zj_J {α : Type} (X : Nat → Bool) (M : α → Nat → Prop) (F : Nat → Bool) (L : List α) : Prop :=
  (∀ k, k < 28 → F k = true → X k = true) ∧ ∀ k, k < 28 → X k = true → F k = true ∨ ∃ l, l ∈ L ∧ M l k
theorem zj_mv {α : Type} {X : Nat → Bool} {M : α → Nat → Prop} {F F' : Nat → Bool} {L L' : List α} (h : zj_J X M F L) (h1 : ∀ k, k < 28 → F k = true → F' k = true) (h2 : ∀ k, k < 28 → F' k = true → X k = true)
    (h3 : ∀ k l, k < 28 → X k = true → l ∈ L → M l k → F' k = true ∨ ∃ l', l' ∈ L' ∧ M l' k) : zj_J X M F' L' := by
  refine ⟨h2, fun k hk hX => ?_⟩
  rcases h.2 k hk hX with z | ⟨l, z1, z2⟩
  · exact Or.inl (h1 k hk z)
  · exact h3 k l hk hX z1 z2
theorem zj_drop {α : Type} {X : Nat → Bool} {M : α → Nat → Prop} {F : Nat → Bool} {l : α} {L : List α} (h : zj_J X M F (l :: L)) (h1 : ∀ k, k < 28 → X k = true → ¬ M l k) : zj_J X M F L :=
  zj_mv h (fun _ _ z => z) h.1 (fun k m hk hX hm hM => by
    rcases List.mem_cons.mp hm with e | e
    · subst e; exact absurd hM (h1 k hk hX)
    · exact Or.inr ⟨m, e, hM⟩)
theorem zj_take {α : Type} {X : Nat → Bool} {M : α → Nat → Prop} {F F' : Nat → Bool} {l : α} {L : List α} (h : zj_J X M F (l :: L)) (h1 : ∀ k, k < 28 → F k = true → F' k = true) (h2 : ∀ k, k < 28 → F' k = true → X k = true) (h3 : ∀ k, k < 28 → X k = true → M l k → F' k = true) : zj_J X M F' L :=
  zj_mv h h1 h2 (fun k m hk hX hm hM => by
    rcases List.mem_cons.mp hm with e | e
    · subst e; exact Or.inl (h3 k hk hX hM)
    · exact Or.inr ⟨m, e, hM⟩)
theorem zj_end {α : Type} {X : Nat → Bool} {M : α → Nat → Prop} {F : Nat → Bool} (h : zj_J X M F ([] : List α)) : ∀ k, k < 28 → F k = X k := by
  intro k hk
  cases hX : X k
  · cases hF : F k
    · rfl
    · have := h.1 k hk hF
      rw [hX] at this
      exact absurd this (by decide)
  · rcases h.2 k hk hX with z | ⟨l, z, _⟩
    · exact z
    · exact absurd z (by simp)
/-! ===== two numbers and a choice ===== -/
theorem zn_lt2 {a b : Nat} (ha : a ≤ 8192) (hb : b ≤ 8192) : nI a < nI b ↔ a < b := nI_ltI (by omega) (by omega)
theorem zn_le2 {a b : Nat} (ha : a ≤ 8192) (hb : b ≤ 8192) : nI a ≤ nI b ↔ a ≤ b := nI_leI (by omega) (by omega)
theorem zn_eq2 {a b : Nat} (ha : a ≤ 8192) (hb : b ≤ 8192) : nI a = nI b ↔ a = b := nI_eq (by omega) (by omega)
end
section
/-! ===== the sorted array: room made from the end, one taken out ===== -/
def zl_J (a : Nat → Int32) (A B : List Nat) : Prop := zl_A a 0 A ∧ zl_A a (A.length + 1) B
theorem zl_Jm {a : Nat → Int32} {A B : List Nat} {m : Nat} (h : zl_J a (A ++ [m]) B) : a A.length = nI m := by
  have h1 := ((zl_Aap A 0 [m]).mp h.1).2.1
  rwa [Nat.zero_add] at h1
theorem zl_Js {a : Nat → Int32} {A B : List Nat} {m : Nat} (h : zl_J a (A ++ [m]) B) : zl_J (upd a (A.length + 1) (nI m)) A (m :: B) := by
  have h1 := ((zl_Aap A 0 [m]).mp h.1).1
  have h2 := h.2
  rw [List.length_append, List.length_singleton] at h2
  refine ⟨zl_Aup A 0 (Or.inr (by omega)) h1, pk_us, zl_Aup B _ (Or.inl (by omega)) h2⟩
theorem zl_J0 {a : Nat → Int32} {S : List Nat} (h : zl_A a 0 S) : zl_J a S [] := ⟨h, trivial⟩
theorem zl_Je {a : Nat → Int32} {A B : List Nat} {k : Nat} (h : zl_J a A B) : zl_A (upd a A.length (nI k)) 0 (A ++ k :: B) := by
  refine (zl_Aap A 0 (k :: B)).mpr ⟨zl_Aup A 0 (Or.inr (by omega)) h.1, ?_, ?_⟩
  · rw [Nat.zero_add]; exact pk_us
  · rw [Nat.zero_add]; exact zl_Aup B _ (Or.inl (by omega)) h.2
theorem zl_noT {k m : Nat} (h : m ≠ k) : zl_no k m = true := by unfold zl_no; simp [h]
theorem zl_noF (k : Nat) : zl_no k k = false := by unfold zl_no; simp
theorem zl_nf {k : Nat} {t : List Nat} (h : k ∉ t) : t.filter (zl_no k) = t :=
  List.filter_eq_self.mpr (fun j hj => zl_noT (fun e => h (by rw [← e]; exact hj)))
def zl_G (a : Nat → Int32) (k : Nat) (A B : List Nat) : Prop := zl_A a 0 (A.filter (zl_no k)) ∧ zl_A a A.length B
theorem zl_Gl (k : Nat) (A : List Nat) : (A.filter (zl_no k)).length ≤ A.length := List.length_filter_le _ _
theorem zl_Gt {a : Nat → Int32} {k m : Nat} {A B : List Nat} (h : zl_G a k A (m :: B)) (hm : m ≠ k) : zl_G (upd a (A.filter (zl_no k)).length (nI m)) k (A ++ [m]) B ∧ ((A ++ [m]).filter (zl_no k)).length = (A.filter (zl_no k)).length + 1 := by
  have e : (A ++ [m]).filter (zl_no k) = A.filter (zl_no k) ++ [m] := zt_fa (zl_noT hm)
  have hl := zl_Gl k A
  refine ⟨⟨?_, ?_⟩, by rw [e, List.length_append, List.length_singleton]⟩
  · rw [e]
    refine (zl_Aap _ 0 [m]).mpr ⟨zl_Aup _ 0 (Or.inr (by omega)) h.1, ?_, trivial⟩
    rw [Nat.zero_add]; exact pk_us
  · rw [List.length_append, List.length_singleton]
    exact zl_Aup B _ (Or.inl (by omega)) h.2.2
theorem zl_Gf {a : Nat → Int32} {k : Nat} {A B : List Nat} (h : zl_G a k A (k :: B)) : zl_G a k (A ++ [k]) B ∧ ((A ++ [k]).filter (zl_no k)).length = (A.filter (zl_no k)).length := by
  have e : (A ++ [k]).filter (zl_no k) = A.filter (zl_no k) := zt_fb (zl_noF k)
  refine ⟨⟨by rw [e]; exact h.1, ?_⟩, by rw [e]⟩
  rw [List.length_append, List.length_singleton]
  exact h.2.2
/-! ===== a chain with one taken out ===== -/
def zl_E (nx nx' : Nat → Int32) (k : Nat) (l : List Nat) (h : Int32) : Prop := zl_C nx' (l.filter (zl_no k)) h ∧ ∀ j, j ∉ l → nx' j = nx j
theorem zl_E1 {nx : Nat → Int32} {k m : Nat} {t : List Nat} {h : Int32} (hn : (m :: k :: t).Nodup) (hc : zl_C nx (m :: k :: t) h) : zl_E nx (upd nx m (nx k)) k (m :: k :: t) h := by
  obtain ⟨n1, n2⟩ := List.nodup_cons.mp hn
  obtain ⟨n3, n4⟩ := List.nodup_cons.mp n2
  have hmk : m ≠ k := fun e => n1 (by rw [e]; simp)
  refine ⟨?_, fun j hj => pk_un (fun e => hj (by rw [e]; simp))⟩
  rw [List.filter_cons, if_pos (zl_noT hmk), List.filter_cons, if_neg (by rw [zl_noF]; decide), zl_nf n3]
  refine ⟨hc.1, ?_⟩
  rw [pk_us]
  exact zl_Cf t _ (fun j hj => pk_un (fun e => n1 (by rw [← e]; simp [hj]))) hc.2.2
theorem zl_E2 {nx nx' : Nat → Int32} {k m p : Nat} {t : List Nat} {h : Int32} (hn : (m :: p :: t).Nodup) (hmk : m ≠ k) (hpk : p ≠ k) (hc : zl_C nx (m :: p :: t) h) (hE : zl_E nx nx' k (p :: t) (nx m)) : zl_E nx nx' k (m :: p :: t) h := by
  obtain ⟨n1, n2⟩ := List.nodup_cons.mp hn
  refine ⟨?_, fun j hj => hE.2 j (fun z => hj (List.mem_cons_of_mem _ z))⟩
  rw [List.filter_cons, if_pos (zl_noT hmk)]
  refine ⟨hc.1, ?_⟩
  rw [hE.2 m n1]
  exact hE.1
/-! ===== the rows' relation, one in, one out ===== -/
theorem zr_Rin {al al' : Nat → Bool} {cy : Nat → Nat} {rh rn : Nat → Int32} {k : Nat} (h : zr_R al cy rh rn) (hF : zr_F al al' k) (ha : al k = false) (hk : k < 28) (hy : cy k < 64) :
    zr_R al' cy (upd rh (cy k) (nI k)) (upd rn k (rh (cy k))) := by
  intro y hy2
  obtain ⟨R, h1, h2⟩ := h y hy2
  have hn : k ∉ R := fun z => by
    have h3 : (al k && decide (cy k = y)) = true := ((h1.2 k).mp z).2
    rw [ha] at h3
    exact absurd h3 (by simp)
  by_cases e : y = cy k
  · subst e
    refine ⟨k :: R, zl_ins (A := []) h1 hk (by rw [ha]; rfl) (fun j _ => ?_), ?_⟩
    · rw [zr_Fi hF ha j]
      by_cases e2 : j = k
      · subst e2; simp
      · simp [e2]
    · rw [pk_us]
      refine ⟨rfl, ?_⟩
      rw [pk_us]
      exact zl_Cf R _ (fun j hj => pk_un (fun e2 => hn (by rw [← e2]; exact hj))) h2
  · refine ⟨R, zl_cg h1 (fun j _ => ?_), ?_⟩
    · by_cases e2 : j = k
      · subst e2; rw [ha, decide_eq_false (fun z => e z.symm)]; simp
      · rw [hF.1 j e2]
    · rw [pk_un e]
      exact zl_Cf R _ (fun j hj => pk_un (fun e2 => hn (by rw [← e2]; exact hj))) h2
/-- the chain of k's row has lost k, the others are as they were -/
theorem zr_Rout {al al' : Nat → Bool} {cy : Nat → Nat} {rh rn rh' rn' : Nat → Int32} {k : Nat} {R : List Nat} (h : zr_R al cy rh rn) (hF : zr_F al al' k) (ha : al k = true) (hy : cy k < 64)
    (hR : zl_M R (fun j => al j && decide (cy j = cy k))) (hE : zl_E rn rn' k R (rh' (cy k))) (hh : ∀ y, y < 64 → y ≠ cy k → rh' y = rh y) : zr_R al' cy rh' rn' := by
  intro y hy2
  by_cases e : y = cy k
  · subst e
    refine ⟨R.filter (zl_no k), zl_del hR k (fun j _ => ?_), hE.1⟩
    rw [zr_Fo hF ha j]
    cases al j <;> cases decide (cy j = cy k) <;> simp
  · obtain ⟨Q, h1, h2⟩ := h y hy2
    refine ⟨Q, zl_cg h1 (fun j _ => ?_), ?_⟩
    · by_cases e2 : j = k
      · subst e2; rw [decide_eq_false (fun z => e z.symm)]; simp
      · rw [hF.1 j e2]
    · rw [hh y hy2 e]
      refine zl_Cf Q _ (fun j hj => hE.2 j (fun z => ?_)) h2
      have h3 := (Bool.and_eq_true _ _).mp ((h1.2 j).mp hj).2
      have h4 := (Bool.and_eq_true _ _).mp ((hR.2 j).mp z).2
      exact e ((of_decide_eq_true h3.2).symm.trans (of_decide_eq_true h4.2))
/-! ===== the sorted relation, one in, one out ===== -/
theorem zr_Oin {al al' : Nat → Bool} {cx : Nat → Nat} {A B : List Nat} {k : Nat} {a : Nat → Int32} (hM : zl_M (A ++ B) al) (hp : (A ++ B).Pairwise (fun a b => cx a ≤ cx b)) (hF : zr_F al al' k) (ha : al k = false) (hk : k < 28)
    (hA : ∀ j, j ∈ A → cx j ≤ cx k) (hB : ∀ j, j ∈ B → cx k ≤ cx j) (hJ : zl_J a A B) : zr_O al' cx (nI ((A ++ B).length + 1)) (upd a A.length (nI k)) := by
  refine ⟨A ++ k :: B, zl_ins hM hk ha (fun j _ => zr_Fi hF ha j), ?_, ?_, zl_Je hJ⟩
  · obtain ⟨p1, p2, p3⟩ := List.pairwise_append.mp hp
    refine List.pairwise_append.mpr ⟨p1, List.pairwise_cons.mpr ⟨hB, p2⟩, fun x hx y hy => ?_⟩
    rcases List.mem_cons.mp hy with e | e
    · rw [e]; exact hA x hx
    · exact p3 x hx y e
  · rw [List.length_append, List.length_append, List.length_cons]
    exact congrArg nI (by omega)
theorem zr_Oout {al al' : Nat → Bool} {cx : Nat → Nat} {S : List Nat} {k : Nat} {a : Nat → Int32} (hM : zl_M S al) (hp : S.Pairwise (fun a b => cx a ≤ cx b)) (hF : zr_F al al' k) (ha : al k = true) (hG : zl_G a k S []) : zr_O al' cx (nI (S.filter (zl_no k)).length) a :=
  ⟨S.filter (zl_no k), zl_del hM k (fun j _ => zr_Fo hF ha j), List.Pairwise.filter _ hp, rfl, hG.1⟩
end
section
/-! ===== the tree, what the searches need ===== -/
def zt_c (b : Bool) (x y : Nat) : Nat := if b then y else x
theorem zt_ltI (cx cy : Nat → Nat) (b : Bool) (m j : Nat) : zt_lt cx cy b m j = true ↔ zt_c b (cx j) (cy j) < zt_c b (cx m) (cy m) := by
  unfold zt_lt zt_c
  cases b <;> simp
theorem zt_geI (cx cy : Nat → Nat) (b : Bool) (m j : Nat) : zt_ge cx cy b m j = true ↔ zt_c b (cx m) (cy m) ≤ zt_c b (cx j) (cy j) := by
  unfold zt_ge zt_lt zt_c
  cases b <;> simp
/-- the low side holds nothing of the rectangle -/
theorem zt_plo {cx cy : Nat → Nat} {b : Bool} {m j lo hi : Nat} {t : List Nat} (hj : j ∈ t.filter (zt_lt cx cy b m)) (h : zt_c b (cx m) (cy m) ≤ zt_c b (lo % 64) (lo / 64)) : ¬ zp_in lo hi (cx j) (cy j) = true := by
  have h1 := (zt_ltI cx cy b m j).mp (List.mem_filter.mp hj).2
  intro z
  obtain ⟨z1, z2, z3, z4⟩ := (zp_iff lo hi (cx j) (cy j)).mp z
  cases b
  · have h2 : cx j < cx m := h1
    have h3 : cx m ≤ lo % 64 := h
    omega
  · have h2 : cy j < cy m := h1
    have h3 : cy m ≤ lo / 64 := h
    omega
theorem zt_phi {cx cy : Nat → Nat} {b : Bool} {m j lo hi : Nat} {t : List Nat} (hj : j ∈ t.filter (zt_ge cx cy b m)) (h : zt_c b (hi % 64) (hi / 64) < zt_c b (cx m) (cy m)) : ¬ zp_in lo hi (cx j) (cy j) = true := by
  have h1 := (zt_geI cx cy b m j).mp (List.mem_filter.mp hj).2
  intro z
  obtain ⟨z1, z2, z3, z4⟩ := (zp_iff lo hi (cx j) (cy j)).mp z
  cases b
  · have h2 : cx m ≤ cx j := h1
    have h3 : hi % 64 < cx m := h
    omega
  · have h2 : cy m ≤ cy j := h1
    have h3 : hi / 64 < cy m := h
    omega
/-- the far side lies at least as far as its border -/
theorem zt_flo {cx cy : Nat → Nat} {b : Bool} {m j x y : Nat} {t : List Nat} (hj : j ∈ t.filter (zt_lt cx cy b m)) (h : zt_c b (cx m) (cy m) ≤ zt_c b x y) : zn_d (zt_c b x y) (zt_c b (cx m) (cy m)) * zn_d (zt_c b x y) (zt_c b (cx m) (cy m)) ≤ zn_q x y (cx j) (cy j) := by
  have h1 := (zt_ltI cx cy b m j).mp (List.mem_filter.mp hj).2
  cases b
  · have h2 : cx j < cx m := h1
    have h3 : cx m ≤ x := h
    exact zn_qx (by show zn_d x (cx m) ≤ zn_d x (cx j); unfold zn_d; omega)
  · have h2 : cy j < cy m := h1
    have h3 : cy m ≤ y := h
    exact zn_qy (by show zn_d y (cy m) ≤ zn_d y (cy j); unfold zn_d; omega)
theorem zt_fhi {cx cy : Nat → Nat} {b : Bool} {m j x y : Nat} {t : List Nat} (hj : j ∈ t.filter (zt_ge cx cy b m)) (h : zt_c b x y < zt_c b (cx m) (cy m)) : zn_d (zt_c b x y) (zt_c b (cx m) (cy m)) * zn_d (zt_c b x y) (zt_c b (cx m) (cy m)) ≤ zn_q x y (cx j) (cy j) := by
  have h1 := (zt_geI cx cy b m j).mp (List.mem_filter.mp hj).2
  cases b
  · have h2 : cx m ≤ cx j := h1
    have h3 : x < cx m := h
    exact zn_qx (by show zn_d x (cx m) ≤ zn_d x (cx j); unfold zn_d; omega)
  · have h2 : cy m ≤ cy j := h1
    have h3 : y < cy m := h
    exact zn_qy (by show zn_d y (cy m) ≤ zn_d y (cy j); unfold zn_d; omega)
/-- the alive below i, in their order: what the tree grown anew has taken -/
def zt_I (al : Nat → Bool) (i : Nat) : List Nat := (List.range i).filter al
theorem zt_It {al : Nat → Bool} {i : Nat} (h : al i = true) : zt_I al (i + 1) = zt_I al i ++ [i] := by
  unfold zt_I
  rw [List.range_succ]
  exact zt_fa h
theorem zt_If {al : Nat → Bool} {i : Nat} (h : al i = false) : zt_I al (i + 1) = zt_I al i := by
  unfold zt_I
  rw [List.range_succ]
  exact zt_fb h
theorem zt_Im {al : Nat → Bool} {i k : Nat} : k ∈ zt_I al i ↔ k < i ∧ al k = true := by
  unfold zt_I
  rw [List.mem_filter, List.mem_range]
theorem zt_In (al : Nat → Bool) (i : Nat) : (zt_I al i).Nodup := List.Pairwise.filter _ List.nodup_range
theorem zt_IM (al : Nat → Bool) : zl_M (zt_I al 28) al := ⟨zt_In al 28, fun _ => zt_Im⟩
theorem zt_Il (al : Nat → Bool) (i : Nat) : (zt_I al i).length ≤ i := by
  have := List.length_filter_le al (List.range i)
  rw [List.length_range] at this
  exact this
/-- what waits in the search of a rectangle, and in that of the nearest -/
def zt_W (al : Nat → Bool) (cx cy : Nat → Nat) (lo hi sy w : Nat → Int32) (l : List Nat) (i : Nat) : Prop := l ≠ [] ∧ (∀ j, j ∈ l → j < 28 ∧ al j = true) ∧ ∃ f b, zt_T cx cy lo hi sy f l b (w i)
def zt_X (al : Nat → Bool) (cx cy : Nat → Nat) (q : Nat → Nat) (lo hi sy w g : Nat → Int32) (l : List Nat) (i : Nat) : Prop := zt_W al cx cy lo hi sy w l i ∧ ∃ d, d ≤ 8192 ∧ g i * g i = nI d ∧ ∀ j, j ∈ l → d ≤ q j
theorem zt_Wf {al : Nat → Bool} {cx cy : Nat → Nat} {lo hi sy w : Nat → Int32} {L : List (List Nat)} {i : Nat} {x : Int32} (hi2 : L.length ≤ i) (h : zk_K (zt_W al cx cy lo hi sy w) L) : zk_K (zt_W al cx cy lo hi sy (upd w i x)) L :=
  zk_fr L (fun l j hj hl => by
    unfold zt_W at *
    rw [pk_un (by omega)]
    exact hl) h
theorem zt_Xf {al : Nat → Bool} {cx cy : Nat → Nat} {q : Nat → Nat} {lo hi sy w g : Nat → Int32} {L : List (List Nat)} {i : Nat} {x y : Int32} (hi2 : L.length ≤ i) (h : zk_K (zt_X al cx cy q lo hi sy w g) L) : zk_K (zt_X al cx cy q lo hi sy (upd w i x) (upd g i y)) L :=
  zk_fr L (fun l j hj hl => by
    unfold zt_X zt_W at *
    rw [pk_un (by omega), pk_un (by omega)]
    exact hl) h
theorem zt_N1 {al : Nat → Bool} {cx cy : Nat → Nat} {lo hi sy w : Nat → Int32} {L : List (List Nat)} (h : zk_K (zt_W al cx cy lo hi sy w) L) : L.length ≤ zk_N List.length L :=
  zk_len L (fun l hl => by
    obtain ⟨i, hi, _⟩ := zk_mem L h l hl
    cases l with
    | nil => exact absurd rfl hi
    | cons a t => simp)
theorem zt_N2 {al : Nat → Bool} {cx cy : Nat → Nat} {q : Nat → Nat} {lo hi sy w g : Nat → Int32} {L : List (List Nat)} (h : zk_K (zt_X al cx cy q lo hi sy w g) L) : L.length ≤ zk_N List.length L :=
  zt_N1 (zk_fr L (fun _ _ _ hl => hl.1) h)
/-! ===== the square from a place ===== -/
def zp_f (cx cy : Nat → Nat) (p k : Nat) : Nat := zn_q (p % 64) (p / 64) (cx k) (cy k)
theorem zp_fl {cx cy : Nat → Nat} (hb : zr_b cx cy) {p : Nat} (hp : p < 4096) (k : Nat) : zp_f cx cy p k ≤ 7938 := zn_ql (by omega) (by omega) (hb k).1 (hb k).2
theorem zp_pl {cx cy : Nat → Nat} (hb : zr_b cx cy) (k : Nat) : cx k + 64 * cy k < 4096 := by
  have := hb k
  omega
theorem zp_px {cx cy : Nat → Nat} (hb : zr_b cx cy) (k : Nat) : (cx k + 64 * cy k) % 64 = cx k := by
  have := hb k
  omega
theorem zp_py {cx cy : Nat → Nat} (hb : zr_b cx cy) (k : Nat) : (cx k + 64 * cy k) / 64 = cy k := by
  have := hb k
  omega
/-- any int: a place, or none -/
theorem zp_ix (x : Int32) (n : Nat) (hn : n < 2 ^ 31) : (∃ j, j < n ∧ x = nI j) ∨ (x < 0 ∧ ∀ j, j < n → ¬ x = nI j) ∨ (∃ m, n ≤ m ∧ m < 2 ^ 31 ∧ x = nI m ∧ ∀ j, j < n → ¬ x = nI j) := by
  by_cases h0 : x < 0
  · exact Or.inr (Or.inl ⟨h0, fun j hj e => nI_pos (n := j) (by omega) (by rw [← e]; exact h0)⟩)
  · obtain ⟨m, hm, rfl⟩ := nI_of h0
    by_cases h2 : m < n
    · exact Or.inl ⟨m, h2, rfl⟩
    · exact Or.inr (Or.inr ⟨m, by omega, hm, rfl, fun j hj e => by
        have := (nI_eq hm (by omega)).mp e
        omega⟩)
theorem zn_z1 : ¬ (1 : Int32) = 0 := by decide
theorem zn_28t : (28 : Int32) ≤ nI 28 := by decide
theorem zn_28f {i : Nat} (h : i < 28) : ¬ (28 : Int32) ≤ nI i := nI_ge (b := 28) h (by omega)
end
section
/-! ===== the reference, method by method, against the picture ===== -/
section
variable {al : Nat → Bool} {cx cy : Nat → Nat} {v : Nat → Int32} {post : Int32 → Prop}
theorem zy_isPlace {x : Int32} (ht : ∀ p, p < 4096 → x = nI p → post 1) (hf : (∀ p, p < 4096 → ¬ x = nI p) → post 0) : wpY_isPlace post v x := by
  unfold wpY_isPlace
  rcases zp_ix x 4096 (by omega) with ⟨p, hp, e⟩ | ⟨h0, hn⟩ | ⟨m, h1, h2, e, hn⟩
  · subst e
    exact br_f (nI_pos (by omega)) (br_f (nI_nlt (a := 4095) (by omega) (by omega)) (ht p hp rfl))
  · exact br_t h0 (hf hn)
  · subst e
    exact br_f (nI_pos h2) (br_t (nI_lt (a := 4095) (by omega) (by omega)) (hf hn))
theorem zy_isPlaceN {p : Nat} (hp : p < 4096) (h : post 1) : wpY_isPlace post v (nI p) := zy_isPlace (fun _ _ _ => h) (fun hn => absurd rfl (hn p hp))
theorem zy_isN (hV : zr_V al cx cy v) (hb : zr_b cx cy) {k : Nat} (hk : k < 28) (ht : al k = true → post 1) (hf : al k = false → post 0) : wpY_is post v (nI k) := by
  unfold wpY_is
  refine br_f (nI_pos (by omega)) (br_f (zn_28f hk) ⟨vp_in_nI hk (by omega), ?_⟩)
  rw [nI_clamp (show k < 2 ^ 31 by omega)]
  cases ha : al k
  · exact br_t (zr_Vf hV hk ha) (hf ha)
  · refine br_f ?_ (ht ha)
    rw [zr_Vt hV hk ha]
    have := zp_pl hb k
    exact nI_ne0 (by omega) (by omega)
theorem zy_is (hV : zr_V al cx cy v) (hb : zr_b cx cy) {x : Int32} (ht : ∀ k, k < 28 → x = nI k → al k = true → post 1) (hf : (∀ k, k < 28 → x = nI k → al k = false) → post 0) : wpY_is post v x := by
  rcases zp_ix x 28 (by omega) with ⟨k, hk, e⟩ | ⟨h0, hn⟩ | ⟨m, h1, h2, e, hn⟩
  · subst e
    refine zy_isN hV hb hk (fun ha => ht k hk rfl ha) (fun ha => hf (fun j hj e => ?_))
    rw [← (nI_eq (by omega) (by omega)).mp e]
    exact ha
  · exact br_t h0 (hf (fun k hk e => absurd e (hn k hk)))
  · subst e
    exact br_f (nI_pos h2) (br_t (nI_le (a := 28) h1 h2) (hf (fun k hk e => absurd e (hn k hk))))
theorem zy_x (hV : zr_V al cx cy v) (hb : zr_b cx cy) {k : Nat} (hk : k < 28) (ha : al k = true) (h : post (nI (cx k))) : wpY_x post v (nI k) := by
  refine ⟨vp_in_nI hk (by omega), by decide, ?_⟩
  rw [nI_clamp (show k < 2 ^ 31 by omega), zr_Vt hV hk ha, nI_pred, zn_x (zp_pl hb k), zp_px hb k]
  exact h
theorem zy_y (hV : zr_V al cx cy v) (hb : zr_b cx cy) {k : Nat} (hk : k < 28) (ha : al k = true) (h : post (nI (cy k))) : wpY_y post v (nI k) := by
  refine ⟨vp_in_nI hk (by omega), by decide, ?_⟩
  rw [nI_clamp (show k < 2 ^ 31 by omega), zr_Vt hV hk ha, nI_pred, zn_y (zp_pl hb k), zp_py hb k]
  exact h
theorem zy_far (hV : zr_V al cx cy v) (hb : zr_b cx cy) {k p : Nat} (hk : k < 28) (ha : al k = true) (hp : p < 4096) (h : post (nI (zp_f cx cy p k))) : wpY_far post v (nI k) (nI p) := by
  unfold wpY_far
  refine zy_x hV hb hk ha ⟨by decide, nm_r (congrArg (fun z => nI (cx k) - z) (zn_x hp)) ?_⟩
  refine zy_y hV hb hk ha ⟨by decide, nm_r (congrArg (fun z => nI (cy k) - z) (zn_y hp)) ?_⟩
  show post ((nI (cx k) - nI (p % 64)) * (nI (cx k) - nI (p % 64)) + (nI (cy k) - nI (p / 64)) * (nI (cy k) - nI (p / 64)))
  rw [zn_qI, zn_qc]
  exact h
theorem zy_points (hV : zr_V al cx cy v) (hb : zr_b cx cy) (h : ∀ r, zs_S r al → post r) : wpY_points post v := by
  unfold wpY_points
  refine loop_0 (fun n i s => wY_points_4 post v n s (nI i)) (fun i s => zs_S s (zs_U al i)) 28 0 (zs_u0 al) (fun n s hs => ?_) (fun n i s hi hs k => ?_)
  · exact br_t zn_28t (h s (zs_u28 hs))
  · refine br_f (zn_28f hi) (zy_isN hV hb hi (fun ha => ?_) (fun ha => ?_))
    · exact br_f zn_z1 (nm_e (nm_r (nI_1 i) (k _ (zs_ut hs hi ha))))
    · exact br_t rfl (nm_r (nI_1 i) (k _ (zs_uf hs ha)))
theorem zy_i6 {J : Int32 → Int32 → Prop} {x2 x3 x4 : Int32} {i : Nat} (h : J x4 (nI (i + 1))) : wY_inside_106 post J x2 x3 x4 (nI i) v := br_t rfl (nm_r (nI_1 i) h)
theorem zy_insG (hV : zr_V al cx cy v) (hb : zr_b cx cy) {e lo hi : Nat} (he : e < 8) (hlo : lo < 4096) (hhi : hi < 4096) (h : ∀ r, zs_S r (fun k => al k && zp_in lo hi (cx k) (cy k)) → post r) : wpY_inside post v (nI e) (nI lo) (nI hi) := by
  unfold wpY_inside
  refine br_f (nI_pos (by omega)) (br_f (nI_nlt (a := 7) (by omega) (by omega)) (zy_isPlaceN hlo (br_f zn_z1 (zy_isPlaceN hhi (br_f zn_z1 ?_)))))
  refine loop_0 (fun n i s => wY_inside_34 post (nI lo) (nI hi) v n s (nI i)) (fun i s => zs_S s (zs_U (fun k => al k && zp_in lo hi (cx k) (cy k)) i)) 28 0 (zs_u0 _) (fun n s hs => ?_) (fun n i s hi2 hs k => ?_)
  · exact br_t zn_28t (h s (zs_u28 hs))
  · have hbi := hb i
    have hno : (al i && zp_in lo hi (cx i) (cy i)) = false → wY_inside_106 post (wY_inside_34 post (nI lo) (nI hi) v n) (nI lo) (nI hi) s (nI i) v := fun z => zy_i6 (k _ (zs_uf hs z))
    have hnz : al i = true → ¬ (lo % 64 ≤ cx i ∧ cx i ≤ hi % 64 ∧ lo / 64 ≤ cy i ∧ cy i ≤ hi / 64) → (al i && zp_in lo hi (cx i) (cy i)) = false := fun _ hz => by
      cases hq : zp_in lo hi (cx i) (cy i)
      · exact Bool.and_false _
      · exact absurd ((zp_iff _ _ _ _).mp hq) hz
    refine br_f (zn_28f hi2) (zy_isN hV hb hi2 (fun ha => br_f zn_z1 ?_) (fun ha => br_t rfl (hno (by rw [ha]; rfl))))
    refine zy_x hV hb hi2 ha ⟨by decide, ?_⟩
    refine pk_lt (cx i) (lo % 64) (fun z => hno (hnz ha (by omega))) (fun z1 => ?_) rfl (zn_x hlo)
    refine zy_x hV hb hi2 ha ⟨by decide, ?_⟩
    refine pk_lt (hi % 64) (cx i) (fun z => hno (hnz ha (by omega))) (fun z2 => ?_) (zn_x hhi) rfl
    refine zy_y hV hb hi2 ha ⟨by decide, ?_⟩
    refine pk_lt (cy i) (lo / 64) (fun z => hno (hnz ha (by omega))) (fun z3 => ?_) rfl (zn_y hlo)
    refine zy_y hV hb hi2 ha ⟨by decide, ?_⟩
    refine pk_lt (hi / 64) (cy i) (fun z => hno (hnz ha (by omega))) (fun z4 => ?_) (zn_y hhi) rfl
    refine br_f zn_z1 (nm_e (nm_r (nI_1 i) (k _ (zs_ut hs hi2 ?_))))
    show (al i && zp_in lo hi (cx i) (cy i)) = true
    rw [ha, (zp_iff lo hi (cx i) (cy i)).mpr ⟨z1, z2, z3, z4⟩]
    rfl
def zp_bad (e lo hi : Int32) : Prop := (∀ j, j < 8 → ¬ e = nI j) ∨ (∀ p, p < 4096 → ¬ lo = nI p) ∨ (∀ p, p < 4096 → ¬ hi = nI p)
theorem zy_insB {e lo hi : Int32} (hbad : zp_bad e lo hi) (h : post (-1)) : wpY_inside post v e lo hi := by
  unfold wpY_inside
  rcases zp_ix e 8 (by omega) with ⟨j, hj, e1⟩ | ⟨h0, hn⟩ | ⟨m, h1, h2, e1, hn⟩
  · subst e1
    refine br_f (nI_pos (by omega)) (br_f (nI_nlt (a := 7) (by omega) (by omega)) (zy_isPlace (fun p hp e2 => br_f zn_z1 (zy_isPlace (fun q hq e3 => ?_) (fun _ => br_t rfl h))) (fun _ => br_t rfl h)))
    rcases hbad with z | z | z
    · exact absurd rfl (z j hj)
    · exact absurd e2 (z p hp)
    · exact absurd e3 (z q hq)
  · exact br_t h0 h
  · subst e1
    exact br_f (nI_pos h2) (br_t (nI_lt (a := 7) (by omega) h2) h)
end
end
section
/-! ===== the reference: ranked and on ===== -/
section
variable {al : Nat → Bool} {cx cy : Nat → Nat} {v : Nat → Int32} {post : Int32 → Prop}
theorem zy_r94 {J2 : Int32 → Prop} {J : Int32 → Int32 → Prop} {x1 x2 x3 x4 : Int32} {i : Nat} (h : J x4 (nI (i + 1))) : wY_ranked_94 post J2 J x1 x2 x3 x4 (nI i) v := br_t rfl (nm_r (nI_1 i) h)
theorem zy_r90 {J2 : Int32 → Prop} {J : Int32 → Int32 → Prop} {x1 x2 x3 : Int32} {s i : Nat} (h : J (nI (s + 1)) (nI (i + 1))) : wY_ranked_90 post J2 J x1 x2 x3 (nI s) (nI i) v := br_f zn_z1 (nm_r (nI_1 s) (nm_r (nI_1 i) h))
theorem zn_ct {p : Nat → Bool} {i s : Nat} (h : s = zn_c p i) (hp : p i = true) : s + 1 = zn_c p (i + 1) := by
  show s + 1 = zn_c p i + (if p i then 1 else 0)
  rw [hp, h]; rfl
theorem zn_cf {p : Nat → Bool} {i s : Nat} (h : s = zn_c p i) (hp : p i = false) : s = zn_c p (i + 1) := by
  show s = zn_c p i + (if p i then 1 else 0)
  rw [hp, h]; rfl
/-- the inner loop of ranked, for a k that is there -/
theorem zy_rank (hV : zr_V al cx cy v) (hb : zr_b cx cy) {J2 : Int32 → Prop} {p k : Nat} {j : Int32} (hp : p < 4096) (hk : k < 28) (ha : al k = true)
    (ht : nI (zo_r al (zp_f cx cy p) k) = j → post (nI k)) (hf : ¬ nI (zo_r al (zp_f cx cy p) k) = j → J2 (nI (k + 1))) : ∃ n, wY_ranked_22 post J2 (nI p) j (nI k) v n 0 0 := by
  refine loop_0 (fun n i s => wY_ranked_22 post J2 (nI p) j (nI k) v n (nI s) (nI i)) (fun i s => s = zn_c (fun i => al i && zo_nb (zp_f cx cy p) i k) i) 28 0 rfl (fun n s hs => ?_) (fun n i s hi hs K => ?_)
  · refine br_t zn_28t (zy_isN hV hb hk (fun _ => br_f zn_z1 ?_) (fun z => absurd (ha.symm.trans z) (by decide)))
    subst hs
    exact br_c ht (fun z => nm_r (nI_1 k) (hf z))
  · refine br_f (zn_28f hi) (zy_isN hV hb hk (fun _ => br_f zn_z1 ?_) (fun z => absurd (ha.symm.trans z) (by decide)))
    have hl1 := zp_fl hb hp i
    have hl2 := zp_fl hb hp k
    have hno : (al i && zo_nb (zp_f cx cy p) i k) = false → wY_ranked_94 post J2 (wY_ranked_22 post J2 (nI p) j (nI k) v n) (nI p) j (nI k) (nI s) (nI i) v := fun z => zy_r94 (K s (zn_cf hs z))
    have hyes : (al i && zo_nb (zp_f cx cy p) i k) = true → wY_ranked_90 post J2 (wY_ranked_22 post J2 (nI p) j (nI k) v n) (nI p) j (nI k) (nI s) (nI i) v := fun z => zy_r90 (K (s + 1) (zn_ct hs z))
    refine zy_isN hV hb hi (fun hai => br_f zn_z1 ?_) (fun z => br_t rfl (hno (by rw [z]; rfl)))
    have hn2 : ¬ zo_n (zp_f cx cy p) i k → (al i && zo_nb (zp_f cx cy p) i k) = false := fun z => by
      cases hq : zo_nb (zp_f cx cy p) i k
      · exact Bool.and_false _
      · exact absurd ((zo_nbI _ _ _).mp hq) z
    have hy2 : zo_n (zp_f cx cy p) i k → (al i && zo_nb (zp_f cx cy p) i k) = true := fun z => by rw [hai, (zo_nbI _ _ _).mpr z]; rfl
    refine pk_eq i k (fun e => hno (hn2 (by rw [e]; exact zo_irr _ _))) (fun hne => ?_)
    refine zy_far hV hb hi hai hp (zy_far hV hb hk ha hp ?_)
    refine pk_lt (zp_f cx cy p i) (zp_f cx cy p k) (fun z => hyes (hy2 (Or.inl z))) (fun z => ?_)
    refine zy_far hV hb hi hai hp (zy_far hV hb hk ha hp ?_)
    refine pk_eq (zp_f cx cy p i) (zp_f cx cy p k) (fun e => ?_) (fun z2 => hno (hn2 (by unfold zo_n; omega)))
    exact pk_le k i (fun z3 => hno (hn2 (by unfold zo_n; omega))) (fun z3 => hyes (hy2 (Or.inr ⟨e, z3⟩)))
theorem zy_rd (hV : zr_V al cx cy v) (hb : zr_b cx cy) {p : Nat} {j : Int32} (hp : p < 4096) : ∀ d i, i + d = 28 → post (zn_f (fun k => al k && decide (nI (zo_r al (zp_f cx cy p) k) = j)) d i) → wY_ranked_2 post (nI p) j v (d + 1) (nI i) := by
  intro d
  induction d with
  | zero =>
    intro i hi h
    have : i = 28 := by omega
    subst this
    exact br_t zn_28t h
  | succ d ih =>
    intro i hi h
    have hi28 : i < 28 := by omega
    have h' : post (if (al i && decide (nI (zo_r al (zp_f cx cy p) i) = j)) then nI i else zn_f (fun k => al k && decide (nI (zo_r al (zp_f cx cy p) k) = j)) d (i + 1)) := h
    refine br_f (zn_28f hi28) (zy_isPlaceN hp (br_f zn_z1 ?_))
    cases ha : al i
    · rw [ha] at h'
      refine ⟨1, br_f (by decide) (zy_isN hV hb hi28 (fun z => absurd (ha.symm.trans z) (by decide)) (fun _ => br_t rfl ?_))⟩
      exact zy_isN hV hb hi28 (fun z => absurd (ha.symm.trans z) (by decide)) (fun _ => br_t rfl (nm_r (nI_1 i) (ih (i + 1) (by omega) h')))
    · rw [ha] at h'
      refine zy_rank hV hb hp hi28 ha (fun z => ?_) (fun z => ih (i + 1) (by omega) ?_)
      · rw [decide_eq_true z] at h'
        exact h'
      · rw [decide_eq_false z] at h'
        exact h'
theorem zy_ranked (hV : zr_V al cx cy v) (hb : zr_b cx cy) {p : Nat} {j : Int32} (hp : p < 4096) (h : post (zo_a al (zp_f cx cy p) j)) : wpY_ranked post v (nI p) j := ⟨29, zy_rd hV hb hp 28 0 rfl h⟩
theorem zy_rankedB {x j : Int32} (hn : ∀ p, p < 4096 → ¬ x = nI p) (h : post (-1)) : wpY_ranked post v x j :=
  ⟨1, br_f (by decide) (zy_isPlace (fun p hp e => absurd e (hn p hp)) (fun _ => br_t rfl h))⟩
theorem zy_around (hV : zr_V al cx cy v) (hb : zr_b cx cy) {p : Nat} {x : Int32} (hp : p < 4096) (h : ∀ r, zs_S r (fun k => al k && decide (¬ x < nI (zp_f cx cy p k))) → post r) : wpY_around post v (nI p) x := by
  refine zy_isPlaceN hp (br_f zn_z1 ?_)
  refine loop_0 (fun n i s => wY_around_15 post (nI p) x v n s (nI i)) (fun i s => zs_S s (zs_U (fun k => al k && decide (¬ x < nI (zp_f cx cy p k))) i)) 28 0 (zs_u0 _) (fun n s hs => ?_) (fun n i s hi hs K => ?_)
  · exact br_t zn_28t (h s (zs_u28 hs))
  · refine br_f (zn_28f hi) (zy_isN hV hb hi (fun ha => br_f zn_z1 ?_) (fun ha => br_t rfl (nm_r (nI_1 i) (K _ (zs_uf hs (by rw [ha]; rfl))))))
    refine zy_far hV hb hi ha hp (br_c (fun z => nm_r (nI_1 i) (K _ (zs_uf hs ?_))) (fun z => nm_e (nm_r (nI_1 i) (K _ (zs_ut hs hi ?_)))))
    · show (al i && decide (¬ x < nI (zp_f cx cy p i))) = false
      rw [decide_eq_false (fun w => w z)]; exact Bool.and_false _
    · show (al i && decide (¬ x < nI (zp_f cx cy p i))) = true
      rw [ha, decide_eq_true z]; rfl
/-! closest -/
def zm_y (M : Nat) : Int32 := if M < 8192 then nI M else -1
def zm_q (cx cy : Nat → Nat) (i k : Nat) : Nat := zp_f cx cy (cx k + 64 * cy k) i
theorem zm_ql (hb : zr_b cx cy) (i k : Nat) : zm_q cx cy i k ≤ 7938 := zp_fl hb (zp_pl hb k) i
/-- what Y holds at pair (k, i) -/
def zm_s (al : Nat → Bool) (q : Nat → Nat → Nat) (k i : Nat) : Nat := if al k then zm_m (zm_i al q k i) (zm_o al q k) else zm_o al q k
theorem zm_s0 (al : Nat → Bool) (q : Nat → Nat → Nat) (k : Nat) : zm_s al q k 0 = zm_o al q k := by
  have h := zm_ol al q k
  unfold zm_s
  cases al k
  · rfl
  · show zm_m 8192 (zm_o al q k) = _
    unfold zm_m
    split <;> omega
theorem zm_sk (al : Nat → Bool) (q : Nat → Nat → Nat) (k : Nat) : zm_s al q k k = zm_o al q (k + 1) := rfl
theorem zm_sn {al : Nat → Bool} {q : Nat → Nat → Nat} {k i : Nat} (h : al k = false ∨ al i = false) : zm_s al q k (i + 1) = zm_s al q k i := by
  unfold zm_s
  cases hk : al k
  · rfl
  · rcases h with z | z
    · exact absurd (hk.symm.trans z) (by decide)
    · show zm_m (if al i then zm_m (q i k) (zm_i al q k i) else zm_i al q k i) (zm_o al q k) = _
      rw [z]; rfl
theorem zm_sy {al : Nat → Bool} {q : Nat → Nat → Nat} {k i : Nat} (hk : al k = true) (hi : al i = true) : zm_s al q k (i + 1) = zm_m (q i k) (zm_s al q k i) := by
  unfold zm_s
  rw [hk]
  show zm_m (if al i then zm_m (q i k) (zm_i al q k i) else zm_i al q k i) (zm_o al q k) = zm_m (q i k) (zm_m (zm_i al q k i) (zm_o al q k))
  rw [hi]
  show zm_m (zm_m (q i k) (zm_i al q k i)) (zm_o al q k) = _
  unfold zm_m
  (repeat' split) <;> omega
theorem zm_sl (al : Nat → Bool) (q : Nat → Nat → Nat) (k i : Nat) : zm_s al q k i ≤ 8192 := by
  have h1 := zm_il al q k i
  have h2 := zm_ol al q k
  unfold zm_s zm_m
  (repeat' split) <;> omega
theorem zy_c50 {J4 J : Int32 → Int32 → Prop} {x2 : Int32} {M q i : Nat} (hM : M ≤ 8192) (hq : q ≤ 7938) (h : J (zm_y (zm_m q M)) (nI (i + 1))) : wY_closest_50 post J4 J (zm_y M) x2 (nI i) (nI q) v := by
  refine br_f (nI_pos (by omega)) ?_
  by_cases h8 : M < 8192
  · have e : zm_y M = nI M := if_pos h8
    rw [e]
    refine br_f (nI_pos (by omega)) (pk_le M q (fun z => nm_r (nI_1 i) ?_) (fun z => nm_r (nI_1 i) ?_))
    · have e2 : zm_m q M = M := by unfold zm_m; split <;> omega
      rw [e2, e] at h
      exact h
    · have e2 : zm_m q M = q := by unfold zm_m; split <;> omega
      have e3 : zm_y q = nI q := if_pos (by omega)
      rw [e2, e3] at h
      exact h
  · have e : zm_y M = -1 := if_neg h8
    rw [e]
    refine br_t (by decide) (nm_r (nI_1 i) ?_)
    have e2 : zm_m q M = q := by unfold zm_m; split <;> omega
    have e3 : zm_y q = nI q := if_pos (by omega)
    rw [e2, e3] at h
    exact h
theorem zy_c49 {J4 J : Int32 → Int32 → Prop} {x1 x2 : Int32} {i : Nat} (h : J x1 (nI (i + 1))) : wY_closest_49 post J4 J x1 x2 (nI i) v := br_t (by decide) (nm_r (nI_1 i) h)
theorem zy_c12 (hV : zr_V al cx cy v) (hb : zr_b cx cy) {J4 : Int32 → Int32 → Prop} {k : Nat} (hk : k < 28) (h : J4 (zm_y (zm_o al (zm_q cx cy) (k + 1))) (nI (k + 1))) : ∃ n, wY_closest_12 post J4 (nI k) v n (zm_y (zm_o al (zm_q cx cy) k)) 0 := by
  refine loop_0 (fun n i s => wY_closest_12 post J4 (nI k) v n s (nI i)) (fun i s => s = zm_y (zm_s al (zm_q cx cy) k i)) k _ (by rw [zm_s0]) (fun n s hs => ?_) (fun n i s hi hs K => ?_)
  · subst hs
    exact br_t (nI_le (Nat.le_refl k) (by omega)) (nm_r (nI_1 k) (by rw [zm_sk]; exact h))
  · subst hs
    have hi28 : i < 28 := by omega
    have hno : al k = false ∨ al i = false → wY_closest_49 post J4 (wY_closest_12 post J4 (nI k) v n) (zm_y (zm_s al (zm_q cx cy) k i)) (nI k) (nI i) v := fun z => zy_c49 (K _ (by rw [zm_sn z]))
    refine br_f (nI_ge hi (by omega)) (zy_isN hV hb hk (fun ha => br_f zn_z1 ?_) (fun ha => br_t rfl (hno (Or.inl ha))))
    refine zy_isN hV hb hi28 (fun hai => br_f zn_z1 ⟨vp_in_nI hk (by omega), ?_⟩) (fun ha => br_t rfl (hno (Or.inr ha)))
    rw [nI_clamp (show k < 2 ^ 31 by omega), zr_Vt hV hk ha, nI_pred]
    exact zy_far hV hb hi28 hai (zp_pl hb k) (zy_c50 (zm_sl _ _ _ _) (zm_ql hb i k) (K _ (by rw [zm_sy ha hai]; rfl)))
theorem zy_closest (hV : zr_V al cx cy v) (hb : zr_b cx cy) (h : post (zm_y (zm_o al (zm_q cx cy) 28))) : wpY_closest post v := by
  refine loop_0 (fun n i s => wY_closest_4 post v n s (nI i)) (fun i s => s = zm_y (zm_o al (zm_q cx cy) i)) 28 (-1) rfl (fun n s hs => ?_) (fun n i s hi hs K => ?_)
  · subst hs
    exact br_t zn_28t h
  · subst hs
    exact br_f (zn_28f hi) (zy_c12 hV hb hi (K _ rfl))
/-! staircase -/
def zv_p (al : Nat → Bool) (cx cy : Nat → Nat) (k i : Nat) : Bool := al i && (decide (cx k ≤ cx i) && (decide (cy k ≤ cy i) && decide (cx k < cx i ∨ cy k < cy i)))
theorem zv_pI (al : Nat → Bool) (cx cy : Nat → Nat) (k i : Nat) : zv_p al cx cy k i = true ↔ al i = true ∧ cx k ≤ cx i ∧ cy k ≤ cy i ∧ (cx k < cx i ∨ cy k < cy i) := by
  unfold zv_p
  simp only [Bool.and_eq_true, decide_eq_true_eq]
theorem zv_pF {al : Nat → Bool} {cx cy : Nat → Nat} {k i : Nat} (h : ¬ (al i = true ∧ cx k ≤ cx i ∧ cy k ≤ cy i ∧ (cx k < cx i ∨ cy k < cy i))) : zv_p al cx cy k i = false := by
  cases hq : zv_p al cx cy k i
  · rfl
  · exact absurd ((zv_pI _ _ _ _ _).mp hq) h
theorem zy_s19 (hV : zr_V al cx cy v) (hb : zr_b cx cy) {J4 : Int32 → Int32 → Prop} {x1 : Int32} {k : Nat} (hk : k < 28) (ha : al k = true) : ∀ d i, i + d = 28 →
    (zv_a (zv_p al cx cy k) d i = true → J4 x1 (nI (k + 1))) → (zv_a (zv_p al cx cy k) d i = false → J4 (x1 ||| (1 <<< (nI k &&& 31))) (nI (k + 1))) → wY_staircase_19 post J4 x1 (nI k) v (d + 1) 1 (nI i) := by
  intro d
  induction d with
  | zero =>
    intro i hi _ hf
    have : i = 28 := by omega
    subst this
    exact br_t zn_28t (br_f zn_z1 (nm_e (nm_r (nI_1 k) (hf rfl))))
  | succ d ih =>
    intro i hi ht hf
    have hi28 : i < 28 := by omega
    have hbi := hb i
    have hbk := hb k
    have hno : zv_p al cx cy k i = false → wY_staircase_19 post J4 x1 (nI k) v (d + 1) 1 (nI (i + 1)) := fun z => by
      refine ih (i + 1) (by omega) (fun w => ht ?_) (fun w => hf ?_)
      · show (zv_p al cx cy k i || zv_a (zv_p al cx cy k) d (i + 1)) = true
        rw [z, w]; rfl
      · show (zv_p al cx cy k i || zv_a (zv_p al cx cy k) d (i + 1)) = false
        rw [z, w]; rfl
    refine br_f (zn_28f hi28) (br_f zn_z1 (zy_isN hV hb hi28 (fun hai => br_f zn_z1 ?_) (fun z => br_t rfl (nm_r (nI_1 i) (hno (zv_pF (fun w => absurd (z.symm.trans w.1) (by decide))))))))
    refine zy_x hV hb hi28 hai (zy_x hV hb hk ha ?_)
    refine pk_lt (cx i) (cx k) (fun z => nm_r (nI_1 i) (hno (zv_pF (by omega)))) (fun z1 => ?_)
    refine zy_y hV hb hi28 hai (zy_y hV hb hk ha ?_)
    refine pk_lt (cy i) (cy k) (fun z => nm_r (nI_1 i) (hno (zv_pF (by omega)))) (fun z2 => ⟨vp_in_nI hi28 (by omega), vp_in_nI hk (by omega), ?_⟩)
    rw [nI_clamp (show i < 2 ^ 31 by omega), nI_clamp (show k < 2 ^ 31 by omega), zr_Vt hV hi28 hai, zr_Vt hV hk ha]
    refine pk_eq (cx i + 64 * cy i + 1) (cx k + 64 * cy k + 1) (fun z => nm_r (nI_1 i) (hno (zv_pF (by omega)))) (fun z3 => nm_r (nI_1 i) ?_)
    have hyes : zv_p al cx cy k i = true := (zv_pI _ _ _ _ _).mpr ⟨hai, z1, z2, by omega⟩
    have hJ : J4 x1 (nI (k + 1)) := ht (by
      show (zv_p al cx cy k i || zv_a (zv_p al cx cy k) d (i + 1)) = true
      rw [hyes]; rfl)
    have h95 : wY_staircase_95 post J4 x1 (nI k) 0 v := br_t rfl (nm_r (nI_1 k) hJ)
    exact br_c (fun _ => h95) (fun _ => br_t rfl h95)
theorem zy_staircase (hV : zr_V al cx cy v) (hb : zr_b cx cy) (h : ∀ r, zs_S r (fun k => al k && !zv_a (zv_p al cx cy k) 28 0) → post r) : wpY_staircase post v := by
  refine loop_0 (fun n i s => wY_staircase_4 post v n s (nI i)) (fun i s => zs_S s (zs_U (fun k => al k && !zv_a (zv_p al cx cy k) 28 0) i)) 28 0 (zs_u0 _) (fun n s hs => ?_) (fun n i s hi hs K => ?_)
  · exact br_t zn_28t (h s (zs_u28 hs))
  · refine br_f (zn_28f hi) (zy_isN hV hb hi (fun ha => ?_) (fun ha => ?_))
    · refine ⟨29, zy_s19 hV hb hi ha 28 0 rfl (fun z => K _ (zs_uf hs ?_)) (fun z => K _ (zs_ut hs hi ?_))⟩
      · show (al i && !zv_a (zv_p al cx cy i) 28 0) = false
        rw [z]; exact Bool.and_false _
      · show (al i && !zv_a (zv_p al cx cy i) 28 0) = true
        rw [z, ha]; rfl
    · exact ⟨1, br_f (by decide) (br_t rfl (br_t rfl (nm_r (nI_1 i) (K _ (zs_uf hs (by rw [ha]; rfl))))))⟩
/-! below -/
def zv_b (al : Nat → Bool) (cx cy : Nat → Nat) (k i : Nat) : Bool := !decide (i = k) && (al i && (decide (cx i ≤ cx k) && decide (cy i ≤ cy k)))
theorem zv_bF {al : Nat → Bool} {cx cy : Nat → Nat} {k i : Nat} (h : ¬ (i ≠ k ∧ al i = true ∧ cx i ≤ cx k ∧ cy i ≤ cy k)) : zv_b al cx cy k i = false := by
  cases hq : zv_b al cx cy k i
  · rfl
  · unfold zv_b at hq
    simp only [Bool.and_eq_true, decide_eq_true_eq, Bool.not_eq_true', decide_eq_false_iff_not] at hq
    exact absurd hq h
theorem zv_bT {al : Nat → Bool} {cx cy : Nat → Nat} {k i : Nat} (h : i ≠ k ∧ al i = true ∧ cx i ≤ cx k ∧ cy i ≤ cy k) : zv_b al cx cy k i = true := by
  unfold zv_b
  simp only [Bool.and_eq_true, decide_eq_true_eq, Bool.not_eq_true', decide_eq_false_iff_not]
  exact h
theorem zy_below (hV : zr_V al cx cy v) (hb : zr_b cx cy) {k : Nat} (hk : k < 28) (ha : al k = true) (h : post (nI (zn_c (zv_b al cx cy k) 28))) : wpY_below post v (nI k) := by
  refine zy_isN hV hb hk (fun _ => br_f zn_z1 ?_) (fun z => absurd (ha.symm.trans z) (by decide))
  refine loop_0 (fun n i s => wY_below_14 post (nI k) v n (nI s) (nI i)) (fun i s => s = zn_c (zv_b al cx cy k) i) 28 0 rfl (fun n s hs => ?_) (fun n i s hi hs K => ?_)
  · subst hs
    exact br_t zn_28t h
  · have hbi := hb i
    have hbk := hb k
    have hno : ¬ (i ≠ k ∧ al i = true ∧ cx i ≤ cx k ∧ cy i ≤ cy k) → wY_below_14 post (nI k) v n (nI s) (nI (i + 1)) := fun z => K s (zn_cf hs (zv_bF z))
    refine br_f (zn_28f hi) (pk_eq i k (fun e => nm_r (nI_1 i) (hno (fun w => w.1 e))) (fun hne => ?_))
    refine zy_isN hV hb hi (fun hai => br_f zn_z1 ?_) (fun z => br_t rfl (nm_r (nI_1 i) (hno (fun w => absurd (z.symm.trans w.2.1) (by decide)))))
    refine zy_x hV hb hi hai (zy_x hV hb hk ha ?_)
    refine pk_lt (cx k) (cx i) (fun z => nm_r (nI_1 i) (hno (fun w => absurd w.2.2.1 (by omega)))) (fun z1 => ?_)
    refine zy_y hV hb hi hai (zy_y hV hb hk ha ?_)
    exact pk_lt (cy k) (cy i) (fun z => nm_r (nI_1 i) (hno (fun w => absurd w.2.2.2 (by omega)))) (fun z2 => nm_r (nI_1 s) (nm_r (nI_1 i) (K (s + 1) (zn_ct hs (zv_bT ⟨hne, hai, z1, z2⟩)))))
end
end
section
/-! ===== the component: what only reads the plain list ===== -/
section
variable {f_live f_held f_treeRoot : Int32} {a_px a_py a_byX a_rowHead a_rowNext a_cell a_quad a_quadX a_quadY a_quadSide a_treeLow a_treeHigh a_splitsByY a_lessX a_lessY a_slice a_waiting a_waitingGap : Nat → Int32} {al : Nat → Bool} {cx cy : Nat → Nat} {post : Int32 → Prop}
theorem zx_isPlace {x : Int32} (ht : ∀ p, p < 4096 → x = nI p → post 1) (hf : (∀ p, p < 4096 → ¬ x = nI p) → post 0) : wpX_isPlace post x := by
  unfold wpX_isPlace
  rcases zp_ix x 4096 (by omega) with ⟨p, hp, e⟩ | ⟨h0, hn⟩ | ⟨m, h1, h2, e, hn⟩
  · subst e
    exact br_f (nI_pos (by omega)) (br_f (nI_ge (b := 4096) (by omega) (by omega)) (ht p hp rfl))
  · exact br_t h0 (hf hn)
  · subst e
    exact br_f (nI_pos h2) (br_t (nI_le (a := 4096) (by omega) (by omega)) (hf hn))
theorem zx_isPlaceN {p : Nat} (hp : p < 4096) (h : post 1) : wpX_isPlace post (nI p) := zx_isPlace (fun _ _ _ => h) (fun hn => absurd rfl (hn p hp))
theorem zx_hasN (hl : zs_S f_live al) {k : Nat} (hk : k < 28) (ht : al k = true → post 1) (hf : al k = false → post 0) : wpX_has post (f_live, f_held, f_treeRoot, a_px, a_py, a_byX, a_rowHead, a_rowNext, a_cell, a_quad, a_quadX, a_quadY, a_quadSide, a_treeLow, a_treeHigh, a_splitsByY, a_lessX, a_lessY, a_slice, a_waiting, a_waitingGap) (nI k) :=
  br_f (nI_pos (by omega)) (br_f (zn_28f hk) (zs_br hl hk ht hf))
theorem zx_has (hl : zs_S f_live al) {x : Int32} (ht : ∀ k, k < 28 → x = nI k → al k = true → post 1) (hf : (∀ k, k < 28 → x = nI k → al k = false) → post 0) : wpX_has post (f_live, f_held, f_treeRoot, a_px, a_py, a_byX, a_rowHead, a_rowNext, a_cell, a_quad, a_quadX, a_quadY, a_quadSide, a_treeLow, a_treeHigh, a_splitsByY, a_lessX, a_lessY, a_slice, a_waiting, a_waitingGap) x := by
  rcases zp_ix x 28 (by omega) with ⟨k, hk, e⟩ | ⟨h0, hn⟩ | ⟨m, h1, h2, e, hn⟩
  · subst e
    refine zx_hasN hl hk (fun ha => ht k hk rfl ha) (fun ha => hf (fun j hj e => ?_))
    rw [← (nI_eq (by omega) (by omega)).mp e]
    exact ha
  · exact br_t h0 (hf (fun k hk e => absurd e (hn k hk)))
  · subst e
    exact br_f (nI_pos h2) (br_t (nI_le (a := 28) h1 h2) (hf (fun k hk e => absurd e (hn k hk))))
theorem zx_xOf {p : Nat} (hp : p < 4096) (h : post (nI (p % 64))) : wpX_xOf post (nI p) := ⟨by decide, by rw [zn_x hp]; exact h⟩
theorem zx_yOf {p : Nat} (hp : p < 4096) (h : post (nI (p / 64))) : wpX_yOf post (nI p) := ⟨by decide, by rw [zn_y hp]; exact h⟩
theorem zx_pxI (hP : zr_P cx cy a_px a_py) {k : Nat} (hk : k < 28) : a_px (nI k).toNatClampNeg = nI (cx k) := by rw [nI_clamp (by omega)]; exact (hP k hk).1
theorem zx_pyI (hP : zr_P cx cy a_px a_py) {k : Nat} (hk : k < 28) : a_py (nI k).toNatClampNeg = nI (cy k) := by rw [nI_clamp (by omega)]; exact (hP k hk).2
theorem zx_i28 {k : Nat} (hk : k < 28) : vp_in (nI k) 28 := vp_in_nI hk (by omega)
theorem zx_placeOf (hP : zr_P cx cy a_px a_py) {k : Nat} (hk : k < 28) (h : post (nI (cx k + 64 * cy k))) : wpX_placeOf post (f_live, f_held, f_treeRoot, a_px, a_py, a_byX, a_rowHead, a_rowNext, a_cell, a_quad, a_quadX, a_quadY, a_quadSide, a_treeLow, a_treeHigh, a_splitsByY, a_lessX, a_lessY, a_slice, a_waiting, a_waitingGap) (nI k) := by
  refine ⟨zx_i28 hk, zx_i28 hk, ?_⟩
  rw [zx_pxI hP hk, zx_pyI hP hk, zn_m64, nI_add]
  exact h
theorem zx_isIn (hP : zr_P cx cy a_px a_py) (hb : zr_b cx cy) {k lo hi : Nat} (hk : k < 28) (hlo : lo < 4096) (hhi : hi < 4096) (ht : zp_in lo hi (cx k) (cy k) = true → post 1) (hf : zp_in lo hi (cx k) (cy k) = false → post 0) : wpX_isIn post (f_live, f_held, f_treeRoot, a_px, a_py, a_byX, a_rowHead, a_rowNext, a_cell, a_quad, a_quadX, a_quadY, a_quadSide, a_treeLow, a_treeHigh, a_splitsByY, a_lessX, a_lessY, a_slice, a_waiting, a_waitingGap) (nI k) (nI lo) (nI hi) := by
  have e1 := zx_pxI hP hk
  have e2 := zx_pyI hP hk
  have hbk := hb k
  have hn : ¬ (lo % 64 ≤ cx k ∧ cx k ≤ hi % 64 ∧ lo / 64 ≤ cy k ∧ cy k ≤ hi / 64) → post 0 := fun hz => hf (by
    cases hq : zp_in lo hi (cx k) (cy k)
    · rfl
    · exact absurd ((zp_iff _ _ _ _).mp hq) hz)
  refine ⟨zx_i28 hk, zx_xOf hlo (pk_lt (cx k) (lo % 64) (fun z => hn (by omega)) (fun z1 => ⟨zx_i28 hk, zx_xOf hhi (pk_lt (hi % 64) (cx k) (fun z => hn (by omega)) (fun z2 => ⟨zx_i28 hk, zx_yOf hlo (pk_lt (cy k) (lo / 64) (fun z => hn (by omega)) (fun z3 => ⟨zx_i28 hk, zx_yOf hhi (pk_lt (hi / 64) (cy k) (fun z => hn (by omega)) (fun z4 => ?_) rfl e2)⟩) e2 rfl)⟩) rfl e1)⟩) e1 rfl)⟩
  exact ht ((zp_iff lo hi (cx k) (cy k)).mpr ⟨z1, z2, z3, z4⟩)
theorem zx_squareFrom (hP : zr_P cx cy a_px a_py) {k p : Nat} (hk : k < 28) (hp : p < 4096) (h : post (nI (zp_f cx cy p k))) : wpX_squareFrom post (f_live, f_held, f_treeRoot, a_px, a_py, a_byX, a_rowHead, a_rowNext, a_cell, a_quad, a_quadX, a_quadY, a_quadSide, a_treeLow, a_treeHigh, a_splitsByY, a_lessX, a_lessY, a_slice, a_waiting, a_waitingGap) (nI p) (nI k) := by
  refine ⟨by decide, zx_i28 hk, nm_r (e' := nI (p % 64) - nI (cx k)) (by rw [zn_x hp, zx_pxI hP hk]) ⟨by decide, zx_i28 hk, nm_r (e' := nI (p / 64) - nI (cy k)) (by rw [zn_y hp, zx_pyI hP hk]) ?_⟩⟩
  rw [zn_qI]
  exact h
theorem zx_isNearer (hP : zr_P cx cy a_px a_py) (hb : zr_b cx cy) {i j p : Nat} (hi : i < 28) (hj : j < 28) (hp : p < 4096) (ht : zo_n (zp_f cx cy p) i j → post 1) (hf : ¬ zo_n (zp_f cx cy p) i j → post 0) : wpX_isNearer post (f_live, f_held, f_treeRoot, a_px, a_py, a_byX, a_rowHead, a_rowNext, a_cell, a_quad, a_quadX, a_quadY, a_quadSide, a_treeLow, a_treeHigh, a_splitsByY, a_lessX, a_lessY, a_slice, a_waiting, a_waitingGap) (nI i) (nI j) (nI p) := by
  have h1 := zp_fl hb hp i
  have h2 := zp_fl hb hp j
  unfold wpX_isNearer
  refine zx_squareFrom hP hi hp (zx_squareFrom hP hj hp (pk_lt (zp_f cx cy p i) (zp_f cx cy p j) (fun z => ht (Or.inl z)) (fun z => pk_eq (zp_f cx cy p i) (zp_f cx cy p j) (fun e => pk_le j i (fun w => hf ?_) (fun w => ht (Or.inr ⟨e, w⟩))) (fun e => hf ?_))))
  · unfold zo_n; omega
  · unfold zo_n; omega
theorem zx_nearerOf (hP : zr_P cx cy a_px a_py) (hb : zr_b cx cy) {k p : Nat} {best : Int32} {Q : Nat → Prop} (hp : p < 4096) (hB : zo_B al (zp_f cx cy p) best Q) (hk : k < 28) (ha : al k = true) (h : ∀ r, zo_B al (zp_f cx cy p) r (fun j => Q j ∨ j = k) → post r) : wpX_nearerOf post (f_live, f_held, f_treeRoot, a_px, a_py, a_byX, a_rowHead, a_rowNext, a_cell, a_quad, a_quadX, a_quadY, a_quadSide, a_treeLow, a_treeHigh, a_splitsByY, a_lessX, a_lessY, a_slice, a_waiting, a_waitingGap) (nI k) best (nI p) := by
  rcases zo_or hB with e | ⟨b, hb28, hab, e⟩
  · exact br_t e (h _ (zo_take hB hk ha (Or.inl e)))
  · subst e
    exact br_f (zn_n1 (by omega)) (zx_isNearer hP hb hk hb28 hp (fun z => br_f zn_z1 (h _ (zo_take hB hk ha (Or.inr ⟨b, hb28, rfl, z⟩)))) (fun z => br_t rfl (h _ (zo_stay hB ⟨b, hb28, rfl, z⟩))))
theorem zx_reach (hP : zr_P cx cy a_px a_py) (hb : zr_b cx cy) {p q : Nat} {best g : Int32} {Q : Nat → Prop} (hp : p < 4096) (hB : zo_B al (zp_f cx cy p) best Q) (hq : q ≤ 8192) (hg : g * g = nI q) (ht : post 1) (hf : (∃ b, b < 28 ∧ best = nI b ∧ zp_f cx cy p b < q) → post 0) : wpX_isInReach post (f_live, f_held, f_treeRoot, a_px, a_py, a_byX, a_rowHead, a_rowNext, a_cell, a_quad, a_quadX, a_quadY, a_quadSide, a_treeLow, a_treeHigh, a_splitsByY, a_lessX, a_lessY, a_slice, a_waiting, a_waitingGap) g (nI p) best := by
  rcases zo_or hB with e | ⟨b, hb28, hab, e⟩
  · exact br_t e ht
  · subst e
    have h1 := zp_fl hb hp b
    exact br_f (zn_n1 (by omega)) (zx_squareFrom hP hb28 hp (pk_lt (zp_f cx cy p b) q (fun z => hf ⟨b, hb28, rfl, z⟩) (fun _ => ht) rfl hg))
theorem zx_insideOf (hP : zr_P cx cy a_px a_py) (hb : zr_b cx cy) {set : Int32} {pp : Nat → Bool} (hS : zs_S set pp) {lo hi : Nat} (hlo : lo < 4096) (hhi : hi < 4096) (h : ∀ r, zs_S r (fun k => pp k && zp_in lo hi (cx k) (cy k)) → post r) : wpX_insideOf post (f_live, f_held, f_treeRoot, a_px, a_py, a_byX, a_rowHead, a_rowNext, a_cell, a_quad, a_quadX, a_quadY, a_quadSide, a_treeLow, a_treeHigh, a_splitsByY, a_lessX, a_lessY, a_slice, a_waiting, a_waitingGap) set (nI lo) (nI hi) := by
  refine loop_0 (fun n i s => wX_insideOf_6 post set (nI lo) (nI hi) f_live f_held f_treeRoot a_px a_py a_byX a_rowHead a_rowNext a_cell a_quad a_quadX a_quadY a_quadSide a_treeLow a_treeHigh a_splitsByY a_lessX a_lessY a_slice a_waiting a_waitingGap n s (nI i)) (fun i s => zs_S s (zs_U (fun k => pp k && zp_in lo hi (cx k) (cy k)) i)) 28 0 (zs_u0 _) (fun n s hs => ?_) (fun n i s hi2 hs K => ?_)
  · exact br_t zn_28t (h s (zs_u28 hs))
  · refine br_f (zn_28f hi2) (zs_br hS hi2 (fun ha => ?_) (fun ha => nm_r (nI_1 i) (K _ (zs_uf hs (by rw [ha]; rfl)))))
    refine zx_isIn hP hb hi2 hlo hhi (fun z => br_f zn_z1 (nm_e (nm_r (nI_1 i) (K _ (zs_ut hs hi2 ?_))))) (fun z => br_t rfl (nm_r (nI_1 i) (K _ (zs_uf hs ?_))))
    · show (pp i && zp_in lo hi (cx i) (cy i)) = true
      rw [ha, z]; rfl
    · show (pp i && zp_in lo hi (cx i) (cy i)) = false
      rw [z]; exact Bool.and_false _
theorem zx_nearestOf (hP : zr_P cx cy a_px a_py) (hb : zr_b cx cy) {p : Nat} {best set : Int32} {pp : Nat → Bool} {Q : Nat → Prop} (hp : p < 4096) (hS : zs_S set pp) (hsub : ∀ k, k < 28 → pp k = true → al k = true) (hB : zo_B al (zp_f cx cy p) best Q) (h : ∀ r, zo_B al (zp_f cx cy p) r (fun j => Q j ∨ pp j = true) → post r) : wpX_nearestOf post (f_live, f_held, f_treeRoot, a_px, a_py, a_byX, a_rowHead, a_rowNext, a_cell, a_quad, a_quadX, a_quadY, a_quadSide, a_treeLow, a_treeHigh, a_splitsByY, a_lessX, a_lessY, a_slice, a_waiting, a_waitingGap) set (nI p) best := by
  refine loop_0 (fun n i s => wX_nearestOf_6 post set (nI p) f_live f_held f_treeRoot a_px a_py a_byX a_rowHead a_rowNext a_cell a_quad a_quadX a_quadY a_quadSide a_treeLow a_treeHigh a_splitsByY a_lessX a_lessY a_slice a_waiting a_waitingGap n s (nI i)) (fun i s => zo_B al (zp_f cx cy p) s (fun j => Q j ∨ (j < i ∧ pp j = true))) 28 best (zo_cg hB (fun k _ z => ?_)) (fun n s hs => ?_) (fun n i s hi hs K => ?_)
  · rcases z with z | z
    · exact z
    · exact absurd z.1 (by omega)
  · refine br_t zn_28t (h s (zo_cg hs (fun k hk z => ?_)))
    rcases z with z | z
    · exact Or.inl z
    · exact Or.inr ⟨hk, z⟩
  · refine br_f (zn_28f hi) (zs_br hS hi (fun ha => ?_) (fun ha => nm_r (nI_1 i) (K _ (zo_cg hs (fun k hk z => ?_)))))
    · refine zx_nearerOf hP hb hp hs hi (hsub i hi ha) (fun r hr => nm_r (nI_1 i) (K _ (zo_cg hr (fun k hk z => ?_))))
      rcases z with z | ⟨z1, z2⟩
      · exact Or.inl (Or.inl z)
      · by_cases e : k = i
        · exact Or.inr e
        · exact Or.inl (Or.inr ⟨by omega, z2⟩)
    · rcases z with z | ⟨z1, z2⟩
      · exact Or.inl z
      · refine Or.inr ⟨?_, z2⟩
        have : k ≠ i := fun e => by rw [e, ha] at z2; exact absurd z2 (by decide)
        omega
theorem zx_rankOf (hl : zs_S f_live al) (hP : zr_P cx cy a_px a_py) (hb : zr_b cx cy) {p k : Nat} (hp : p < 4096) (hk : k < 28) (h : post (nI (zo_r al (zp_f cx cy p) k))) : wpX_rankOf post (f_live, f_held, f_treeRoot, a_px, a_py, a_byX, a_rowHead, a_rowNext, a_cell, a_quad, a_quadX, a_quadY, a_quadSide, a_treeLow, a_treeHigh, a_splitsByY, a_lessX, a_lessY, a_slice, a_waiting, a_waitingGap) (nI k) (nI p) := by
  refine loop_0 (fun n i s => wX_rankOf_5 post (nI k) (nI p) f_live f_held f_treeRoot a_px a_py a_byX a_rowHead a_rowNext a_cell a_quad a_quadX a_quadY a_quadSide a_treeLow a_treeHigh a_splitsByY a_lessX a_lessY a_slice a_waiting a_waitingGap n (nI s) (nI i)) (fun i s => s = zn_c (fun i => al i && zo_nb (zp_f cx cy p) i k) i) 28 0 rfl (fun n s hs => ?_) (fun n i s hi hs K => ?_)
  · subst hs
    exact br_t zn_28t h
  · refine br_f (zn_28f hi) (zx_hasN hl hi (fun ha => br_f zn_z1 ?_) (fun ha => br_t rfl (nm_r (nI_1 i) (K s (zn_cf hs (by rw [ha]; rfl))))))
    refine zx_isNearer hP hb hi hk hp (fun z => br_f zn_z1 (nm_r (nI_1 s) (nm_r (nI_1 i) (K (s + 1) (zn_ct hs ?_))))) (fun z => br_t rfl (nm_r (nI_1 i) (K s (zn_cf hs ?_))))
    · show (al i && zo_nb (zp_f cx cy p) i k) = true
      rw [ha, (zo_nbI _ _ _).mpr z]; rfl
    · show (al i && zo_nb (zp_f cx cy p) i k) = false
      cases hq : zo_nb (zp_f cx cy p) i k
      · exact Bool.and_false _
      · exact absurd ((zo_nbI _ _ _).mp hq) z
theorem zx_rd (hl : zs_S f_live al) (hP : zr_P cx cy a_px a_py) (hb : zr_b cx cy) {p : Nat} {j : Int32} (hp : p < 4096) : ∀ d i, i + d = 28 → post (zn_f (fun k => al k && decide (nI (zo_r al (zp_f cx cy p) k) = j)) d i) → wX_ranked_11 post (nI p) j f_live f_held f_treeRoot a_px a_py a_byX a_rowHead a_rowNext a_cell a_quad a_quadX a_quadY a_quadSide a_treeLow a_treeHigh a_splitsByY a_lessX a_lessY a_slice a_waiting a_waitingGap (d + 1) (nI i) := by
  intro d
  induction d with
  | zero =>
    intro i hi h
    have : i = 28 := by omega
    subst this
    exact br_t zn_28t h
  | succ d ih =>
    intro i hi h
    have hi28 : i < 28 := by omega
    have h' : post (if (al i && decide (nI (zo_r al (zp_f cx cy p) i) = j)) then nI i else zn_f (fun k => al k && decide (nI (zo_r al (zp_f cx cy p) k) = j)) d (i + 1)) := h
    refine br_f (zn_28f hi28) (zx_hasN hl hi28 (fun ha => br_f zn_z1 ?_) (fun ha => br_t rfl (nm_r (nI_1 i) ?_)))
    · rw [ha] at h'
      refine zx_rankOf hl hP hb hp hi28 (br_c (fun z => ?_) (fun z => nm_r (nI_1 i) (ih (i + 1) (by omega) ?_)))
      · rw [decide_eq_true z] at h'
        exact h'
      · rw [decide_eq_false z] at h'
        exact h'
    · rw [ha] at h'
      exact ih (i + 1) (by omega) h'
theorem zx_ranked (hl : zs_S f_live al) (hP : zr_P cx cy a_px a_py) (hb : zr_b cx cy) {p : Nat} {j : Int32} (hp : p < 4096) (h : post (zo_a al (zp_f cx cy p) j)) : wpX_ranked post (f_live, f_held, f_treeRoot, a_px, a_py, a_byX, a_rowHead, a_rowNext, a_cell, a_quad, a_quadX, a_quadY, a_quadSide, a_treeLow, a_treeHigh, a_splitsByY, a_lessX, a_lessY, a_slice, a_waiting, a_waitingGap) (nI p) j := by
  unfold wpX_ranked
  exact zx_isPlaceN hp (br_f zn_z1 ⟨29, zx_rd hl hP hb hp 28 0 rfl h⟩)
theorem zx_around (hl : zs_S f_live al) (hP : zr_P cx cy a_px a_py) {p : Nat} {x : Int32} (hp : p < 4096) (h : ∀ r, zs_S r (fun k => al k && decide (¬ x < nI (zp_f cx cy p k))) → post r) : wpX_around post (f_live, f_held, f_treeRoot, a_px, a_py, a_byX, a_rowHead, a_rowNext, a_cell, a_quad, a_quadX, a_quadY, a_quadSide, a_treeLow, a_treeHigh, a_splitsByY, a_lessX, a_lessY, a_slice, a_waiting, a_waitingGap) (nI p) x := by
  unfold wpX_around
  refine zx_isPlaceN hp (br_f zn_z1 ?_)
  refine loop_0 (fun n i s => wX_around_14 post (nI p) x f_live f_held f_treeRoot a_px a_py a_byX a_rowHead a_rowNext a_cell a_quad a_quadX a_quadY a_quadSide a_treeLow a_treeHigh a_splitsByY a_lessX a_lessY a_slice a_waiting a_waitingGap n s (nI i)) (fun i s => zs_S s (zs_U (fun k => al k && decide (¬ x < nI (zp_f cx cy p k))) i)) 28 0 (zs_u0 _) (fun n s hs => ?_) (fun n i s hi hs K => ?_)
  · exact br_t zn_28t (h s (zs_u28 hs))
  · refine br_f (zn_28f hi) (zx_hasN hl hi (fun ha => br_f zn_z1 ?_) (fun ha => br_t rfl (nm_r (nI_1 i) (K _ (zs_uf hs (by rw [ha]; rfl))))))
    refine zx_squareFrom hP hi hp (br_c (fun z => nm_r (nI_1 i) (K _ (zs_uf hs ?_))) (fun z => nm_e (nm_r (nI_1 i) (K _ (zs_ut hs hi ?_)))))
    · show (al i && decide (¬ x < nI (zp_f cx cy p i))) = false
      rw [decide_eq_false (fun w => w z)]; exact Bool.and_false _
    · show (al i && decide (¬ x < nI (zp_f cx cy p i))) = true
      rw [ha, decide_eq_true z]; rfl
theorem zx_lsb (hl : zs_S f_live al) (hP : zr_P cx cy a_px a_py) (hb : zr_b cx cy) {k : Nat} (hk : k < 28) (h : post (nI (zm_i al (zm_q cx cy) k k))) : wpX_leastSquareBefore post (f_live, f_held, f_treeRoot, a_px, a_py, a_byX, a_rowHead, a_rowNext, a_cell, a_quad, a_quadX, a_quadY, a_quadSide, a_treeLow, a_treeHigh, a_splitsByY, a_lessX, a_lessY, a_slice, a_waiting, a_waitingGap) (nI k) := by
  unfold wpX_leastSquareBefore
  refine zx_placeOf hP hk ?_
  refine loop_0 (fun n i s => wX_leastSquareBefore_13 post (nI k) (nI (cx k + 64 * cy k)) f_live f_held f_treeRoot a_px a_py a_byX a_rowHead a_rowNext a_cell a_quad a_quadX a_quadY a_quadSide a_treeLow a_treeHigh a_splitsByY a_lessX a_lessY a_slice a_waiting a_waitingGap n (nI s) (nI i)) (fun i s => s = zm_i al (zm_q cx cy) k i) k 8192 rfl (fun n s hs => ?_) (fun n i s hi hs K => ?_)
  · subst hs
    exact br_t (nI_le (Nat.le_refl k) (by omega)) h
  · have hi28 : i < 28 := by omega
    have hsl : s ≤ 8192 := by rw [hs]; exact zm_il _ _ _ _
    have hql := zm_ql hb i k
    have e : zm_i al (zm_q cx cy) k (i + 1) = if al i then zm_m (zm_q cx cy i k) (zm_i al (zm_q cx cy) k i) else zm_i al (zm_q cx cy) k i := rfl
    refine br_f (nI_ge hi (by omega)) (zx_hasN hl hi28 (fun ha => br_f zn_z1 ?_) (fun ha => br_t rfl (nm_r (nI_1 i) (K s (by rw [e, ha]; exact hs)))))
    refine zx_squareFrom hP hi28 (zp_pl hb k) (pk_le s (zm_q cx cy i k) (fun z => nm_r (nI_1 i) (K s ?_)) (fun z => nm_r (nI_1 i) (K (zm_q cx cy i k) ?_)))
    · rw [e, ha, ← hs]
      show s = zm_m _ _
      unfold zm_m
      split <;> omega
    · rw [e, ha, ← hs]
      show _ = zm_m _ _
      unfold zm_m
      split <;> omega
theorem zx_closest (hl : zs_S f_live al) (hP : zr_P cx cy a_px a_py) (hb : zr_b cx cy) (hO : zr_O al cx f_held a_byX) (h : post (zm_y (zm_o al (zm_q cx cy) 28))) : wpX_closest post (f_live, f_held, f_treeRoot, a_px, a_py, a_byX, a_rowHead, a_rowNext, a_cell, a_quad, a_quadX, a_quadY, a_quadSide, a_treeLow, a_treeHigh, a_splitsByY, a_lessX, a_lessY, a_slice, a_waiting, a_waitingGap) := by
  obtain ⟨S, hM, _, e, _⟩ := hO
  subst e
  have hlen := zl_len hM
  have h2 := zl_two hM
  have h3 := zm_oo (al := al) (zm_ql hb) 28
  refine pk_le 2 S.length (fun z => ?_) (fun z => ?_)
  · have h8 : zm_o al (zm_q cx cy) 28 < 8192 := h3.mpr (by
      obtain ⟨i, k, w⟩ := h2.mp z
      exact ⟨i, k, w⟩)
    have e : zm_y (zm_o al (zm_q cx cy) 28) = nI (zm_o al (zm_q cx cy) 28) := if_pos h8
    rw [e] at h
    refine pk_loop (fun n i s => wX_closest_16 post (f_live) (nI S.length) f_treeRoot a_px a_py a_byX a_rowHead a_rowNext a_cell a_quad a_quadX a_quadY a_quadSide a_treeLow a_treeHigh a_splitsByY a_lessX a_lessY a_slice a_waiting a_waitingGap n (nI s) (nI i)) (fun i s => s = zm_o al (zm_q cx cy) i) 28 1 8192 (by omega) ?_ (fun n s hs => ?_) (fun n i s hi hs K => ?_)
    · show 8192 = if al 0 then zm_m 8192 8192 else 8192
      unfold zm_m
      (repeat' split) <;> rfl
    · subst hs
      exact br_t zn_28t h
    · have hsl : s ≤ 8192 := by rw [hs]; exact zm_ol _ _ _
      have hil := zm_il al (zm_q cx cy) i i
      have e : zm_o al (zm_q cx cy) (i + 1) = if al i then zm_m (zm_i al (zm_q cx cy) i i) (zm_o al (zm_q cx cy) i) else zm_o al (zm_q cx cy) i := rfl
      refine br_f (zn_28f hi) (zx_hasN hl hi (fun ha => br_f zn_z1 ?_) (fun ha => br_t rfl (nm_r (nI_1 i) (K s (by rw [e, ha]; exact hs)))))
      refine zx_lsb hl hP hb hi (pk_le s (zm_i al (zm_q cx cy) i i) (fun z => nm_r (nI_1 i) (K s ?_)) (fun z => nm_r (nI_1 i) (K (zm_i al (zm_q cx cy) i i) ?_)))
      · rw [e, ha, ← hs]
        show s = zm_m _ _
        unfold zm_m
        split <;> omega
      · rw [e, ha, ← hs]
        show _ = zm_m _ _
        unfold zm_m
        split <;> omega
  · have h8 : ¬ zm_o al (zm_q cx cy) 28 < 8192 := fun w => by
      obtain ⟨i, k, w2⟩ := h3.mp w
      exact absurd (h2.mpr ⟨i, k, w2⟩) (by omega)
    have e : zm_y (zm_o al (zm_q cx cy) 28) = -1 := if_neg h8
    rw [e] at h
    exact h
theorem zx_surp (hl : zs_S f_live al) (hP : zr_P cx cy a_px a_py) (hb : zr_b cx cy) {k : Nat} (hk : k < 28) : ∀ d i, i + d = 28 → (zv_a (zv_p al cx cy k) d i = true → post 1) → (zv_a (zv_p al cx cy k) d i = false → post 0) → wX_isSurpassed_2 post (nI k) f_live f_held f_treeRoot a_px a_py a_byX a_rowHead a_rowNext a_cell a_quad a_quadX a_quadY a_quadSide a_treeLow a_treeHigh a_splitsByY a_lessX a_lessY a_slice a_waiting a_waitingGap (d + 1) (nI i) := by
  intro d
  induction d with
  | zero =>
    intro i hi _ hf
    have : i = 28 := by omega
    subst this
    exact br_t zn_28t (hf rfl)
  | succ d ih =>
    intro i hi ht hf
    have hi28 : i < 28 := by omega
    have hbi := hb i
    have hbk := hb k
    have e1 := zx_pxI hP hk
    have e2 := zx_pyI hP hk
    have e3 := zx_pxI hP hi28
    have e4 := zx_pyI hP hi28
    have hno : zv_p al cx cy k i = false → wX_isSurpassed_2 post (nI k) f_live f_held f_treeRoot a_px a_py a_byX a_rowHead a_rowNext a_cell a_quad a_quadX a_quadY a_quadSide a_treeLow a_treeHigh a_splitsByY a_lessX a_lessY a_slice a_waiting a_waitingGap (d + 1) (nI (i + 1)) := fun z => by
      refine ih (i + 1) (by omega) (fun w => ht ?_) (fun w => hf ?_)
      · show (zv_p al cx cy k i || zv_a (zv_p al cx cy k) d (i + 1)) = true
        rw [z, w]; rfl
      · show (zv_p al cx cy k i || zv_a (zv_p al cx cy k) d (i + 1)) = false
        rw [z, w]; rfl
    have hyes : zv_p al cx cy k i = true → post 1 := fun z => ht (by
      show (zv_p al cx cy k i || zv_a (zv_p al cx cy k) d (i + 1)) = true
      rw [z]; rfl)
    refine br_f (zn_28f hi28) (zx_hasN hl hi28 (fun ha => br_f zn_z1 ⟨zx_i28 hi28, zx_i28 hk, ?_⟩) (fun z => br_t rfl (nm_r (nI_1 i) (hno (zv_pF (fun w => absurd (z.symm.trans w.1) (by decide)))))))
    refine pk_lt (cx i) (cx k) (fun z => nm_r (nI_1 i) (hno (zv_pF (by omega)))) (fun z1 => ⟨zx_i28 hi28, zx_i28 hk, ?_⟩) e3 e1
    refine pk_lt (cy i) (cy k) (fun z => nm_r (nI_1 i) (hno (zv_pF (by omega)))) (fun z2 => ⟨zx_i28 hi28, zx_i28 hk, ?_⟩) e4 e2
    refine pk_lt (cx k) (cx i) (fun z => hyes ((zv_pI _ _ _ _ _).mpr ⟨ha, z1, z2, Or.inl z⟩)) (fun z3 => ⟨zx_i28 hi28, zx_i28 hk, ?_⟩) e1 e3
    exact pk_le (cy i) (cy k) (fun z => nm_r (nI_1 i) (hno (zv_pF (by omega)))) (fun z => hyes ((zv_pI _ _ _ _ _).mpr ⟨ha, z1, z2, Or.inr z⟩)) e4 e2
theorem zx_staircase (hl : zs_S f_live al) (hP : zr_P cx cy a_px a_py) (hb : zr_b cx cy) (h : ∀ r, zs_S r (fun k => al k && !zv_a (zv_p al cx cy k) 28 0) → post r) : wpX_staircase post (f_live, f_held, f_treeRoot, a_px, a_py, a_byX, a_rowHead, a_rowNext, a_cell, a_quad, a_quadX, a_quadY, a_quadSide, a_treeLow, a_treeHigh, a_splitsByY, a_lessX, a_lessY, a_slice, a_waiting, a_waitingGap) := by
  refine loop_0 (fun n i s => wX_staircase_4 post f_live f_held f_treeRoot a_px a_py a_byX a_rowHead a_rowNext a_cell a_quad a_quadX a_quadY a_quadSide a_treeLow a_treeHigh a_splitsByY a_lessX a_lessY a_slice a_waiting a_waitingGap n s (nI i)) (fun i s => zs_S s (zs_U (fun k => al k && !zv_a (zv_p al cx cy k) 28 0) i)) 28 0 (zs_u0 _) (fun n s hs => ?_) (fun n i s hi hs K => ?_)
  · exact br_t zn_28t (h s (zs_u28 hs))
  · refine br_f (zn_28f hi) (zx_hasN hl hi (fun ha => br_f zn_z1 ?_) (fun ha => br_t rfl (nm_r (nI_1 i) (K _ (zs_uf hs (by rw [ha]; rfl))))))
    refine ⟨29, zx_surp hl hP hb hi 28 0 rfl (fun z => br_f zn_z1 (nm_r (nI_1 i) (K _ (zs_uf hs ?_)))) (fun z => br_t rfl (nm_e (nm_r (nI_1 i) (K _ (zs_ut hs hi ?_)))))⟩
    · show (al i && !zv_a (zv_p al cx cy i) 28 0) = false
      rw [z]; exact Bool.and_false _
    · show (al i && !zv_a (zv_p al cx cy i) 28 0) = true
      rw [z, ha]; rfl
theorem zx_below (hl : zs_S f_live al) (hP : zr_P cx cy a_px a_py) (hb : zr_b cx cy) {k : Nat} (hk : k < 28) (ha : al k = true) (h : post (nI (zn_c (zv_b al cx cy k) 28))) : wpX_below post (f_live, f_held, f_treeRoot, a_px, a_py, a_byX, a_rowHead, a_rowNext, a_cell, a_quad, a_quadX, a_quadY, a_quadSide, a_treeLow, a_treeHigh, a_splitsByY, a_lessX, a_lessY, a_slice, a_waiting, a_waitingGap) (nI k) := by
  unfold wpX_below
  refine zx_hasN hl hk (fun _ => br_f zn_z1 ?_) (fun z => absurd (ha.symm.trans z) (by decide))
  refine loop_0 (fun n i s => wX_below_14 post (nI k) f_live f_held f_treeRoot a_px a_py a_byX a_rowHead a_rowNext a_cell a_quad a_quadX a_quadY a_quadSide a_treeLow a_treeHigh a_splitsByY a_lessX a_lessY a_slice a_waiting a_waitingGap n (nI s) (nI i)) (fun i s => s = zn_c (zv_b al cx cy k) i) 28 0 rfl (fun n s hs => ?_) (fun n i s hi hs K => ?_)
  · subst hs
    exact br_t zn_28t h
  · have hbi := hb i
    have hbk := hb k
    have e1 := zx_pxI hP hk
    have e2 := zx_pyI hP hk
    have e3 := zx_pxI hP hi
    have e4 := zx_pyI hP hi
    have hno : ¬ (i ≠ k ∧ al i = true ∧ cx i ≤ cx k ∧ cy i ≤ cy k) → wX_below_14 post (nI k) f_live f_held f_treeRoot a_px a_py a_byX a_rowHead a_rowNext a_cell a_quad a_quadX a_quadY a_quadSide a_treeLow a_treeHigh a_splitsByY a_lessX a_lessY a_slice a_waiting a_waitingGap n (nI s) (nI (i + 1)) := fun z => K s (zn_cf hs (zv_bF z))
    refine br_f (zn_28f hi) (pk_eq i k (fun e => nm_r (nI_1 i) (hno (fun w => w.1 e))) (fun hne => ?_))
    refine zx_hasN hl hi (fun hai => br_f zn_z1 ⟨zx_i28 hi, zx_i28 hk, ?_⟩) (fun z => br_t rfl (nm_r (nI_1 i) (hno (fun w => absurd (z.symm.trans w.2.1) (by decide)))))
    refine pk_lt (cx k) (cx i) (fun z => nm_r (nI_1 i) (hno (fun w => absurd w.2.2.1 (by omega)))) (fun z1 => ⟨zx_i28 hi, zx_i28 hk, ?_⟩) e1 e3
    exact pk_lt (cy k) (cy i) (fun z => nm_r (nI_1 i) (hno (fun w => absurd w.2.2.2 (by omega)))) (fun z2 => nm_r (nI_1 s) (nm_r (nI_1 i) (K (s + 1) (zn_ct hs (zv_bT ⟨hne, hai, z1, z2⟩))))) e2 e4
end
end
section
/-! ===== the component: rectangles by the sorted list, rows, grid, bounds, slices ===== -/
section
variable {f_live f_held f_treeRoot : Int32} {a_px a_py a_byX a_rowHead a_rowNext a_cell a_quad a_quadX a_quadY a_quadSide a_treeLow a_treeHigh a_splitsByY a_lessX a_lessY a_slice a_waiting a_waitingGap : Nat → Int32} {al : Nat → Bool} {cx cy : Nat → Nat} {post : Int32 → Prop}
def zx_dec (d : Nat) : Int32 := if d = 0 then -1 else nI (d - 1)
theorem zx_dec1 (d : Nat) : nI d + (-1) = zx_dec d := by
  cases d with
  | zero => decide
  | succ d => exact pk_m1 d
theorem zx_dec2 (d : Nat) : nI d - 1 = zx_dec d := by
  cases d with
  | zero => decide
  | succ d => exact nI_pred d
theorem zx_decS (d : Nat) : zx_dec (d + 1) = nI d := rfl
theorem zx_bx {S : List Nat} (hS : zl_A a_byX 0 S) (hM : zl_M S al) {i : Nat} (hi : i < S.length) : a_byX (nI i).toNatClampNeg = nI (zl_g S i) := by
  have hl := zl_len hM
  have h1 := zl_Ag S 0 i hS hi
  rw [nI_clamp (by omega)]
  rwa [Nat.zero_add] at h1
theorem zx_gm {S : List Nat} (hM : zl_M S al) {i : Nat} (hi : i < S.length) : zl_g S i < 28 ∧ al (zl_g S i) = true := (hM.2 _).mp (zl_gm S i hi)
theorem zx_ff {S : List Nat} (hP : zr_P cx cy a_px a_py) (hb : zr_b cx cy) (hS : zl_A a_byX 0 S) (hM : zl_M S al) (hp : S.Pairwise (fun a b => cx a ≤ cx b)) {x : Nat} (hx : x < 64)
    (h : ∀ f, f ≤ S.length → (∀ i, i < f → cx (zl_g S i) < x) → (∀ i, f ≤ i → i < S.length → x ≤ cx (zl_g S i)) → post (nI f)) :
    ∀ d a b t, t + d = 28 → b - a ≤ d → a ≤ b → b ≤ S.length → (∀ i, i < a → cx (zl_g S i) < x) → (∀ i, b ≤ i → i < S.length → x ≤ cx (zl_g S i)) → wX_firstFrom_10 post (nI x) f_live f_held f_treeRoot a_px a_py a_byX a_rowHead a_rowNext a_cell a_quad a_quadX a_quadY a_quadSide a_treeLow a_treeHigh a_splitsByY a_lessX a_lessY a_slice a_waiting a_waitingGap (d + 1) (nI a) (nI b) (nI t) := by
  have hl := zl_len hM
  intro d
  induction d with
  | zero =>
    intro a b t ht hd hab hbn h1 h2
    have e : t = 28 := by omega
    have e2 : a = b := by omega
    subst e e2
    exact br_t zn_28t (h a hbn h1 h2)
  | succ d ih =>
    intro a b t ht hd hab hbn h1 h2
    refine br_f (zn_28f (by omega)) (pk_le b a (fun z => ?_) (fun z => ⟨by decide, nm_r (e' := nI ((a + b) / 2)) ?_ ?_⟩))
    · have e2 : a = b := by omega
      subst e2
      exact h a hbn h1 h2
    · rw [nI_add]
      exact pk_div (d := 2) (by omega) (by omega) (by omega)
    · have hm : (a + b) / 2 < S.length := by omega
      have hma : a ≤ (a + b) / 2 := by omega
      have hmb : (a + b) / 2 < b := by omega
      generalize (a + b) / 2 = m at *
      have hg := zx_gm hM hm
      have hbm := hb (zl_g S m)
      rw [zx_bx hS hM hm]
      refine ⟨zx_i28 (by omega), zx_i28 hg.1, pk_le x (cx (zl_g S m)) (fun z => nm_r (nI_1 t) (ih a m (t + 1) (by omega) (by omega) hma (by omega) h1 (fun i hi hi2 => ?_))) (fun z => nm_r (nI_1 m) (nm_r (nI_1 t) (ih (m + 1) b (t + 1) (by omega) (by omega) (by omega) hbn (fun i hi => ?_) h2))) rfl (zx_pxI hP hg.1)⟩
      · exact Nat.le_trans z (zl_gs S hp m i hi hi2)
      · exact Nat.lt_of_le_of_lt (zl_gs S hp i m (by omega) hm) z
theorem zx_firstFrom {S : List Nat} (hP : zr_P cx cy a_px a_py) (hb : zr_b cx cy) (hS : zl_A a_byX 0 S) (hM : zl_M S al) (hp : S.Pairwise (fun a b => cx a ≤ cx b)) (he : f_held = nI S.length) {x : Nat} (hx : x < 64)
    (h : ∀ f, f ≤ S.length → (∀ i, i < f → cx (zl_g S i) < x) → (∀ i, f ≤ i → i < S.length → x ≤ cx (zl_g S i)) → post (nI f)) : wpX_firstFrom post (f_live, f_held, f_treeRoot, a_px, a_py, a_byX, a_rowHead, a_rowNext, a_cell, a_quad, a_quadX, a_quadY, a_quadSide, a_treeLow, a_treeHigh, a_splitsByY, a_lessX, a_lessY, a_slice, a_waiting, a_waitingGap) (nI x) := by
  have hl := zl_len hM
  subst he
  exact ⟨29, zx_ff hP hb hS hM hp hx h 28 0 S.length 0 rfl (by omega) (by omega) (Nat.le_refl _) (fun i hi => by omega) (fun i hi hi2 => by omega)⟩
theorem zx_insideSorted (hP : zr_P cx cy a_px a_py) (hb : zr_b cx cy) (hO : zr_O al cx f_held a_byX) {lo hi : Nat} (hlo : lo < 4096) (hhi : hi < 4096) (h : ∀ r, zs_S r (fun k => al k && zp_in lo hi (cx k) (cy k)) → post r) : wpX_insideSorted post (f_live, f_held, f_treeRoot, a_px, a_py, a_byX, a_rowHead, a_rowNext, a_cell, a_quad, a_quadX, a_quadY, a_quadSide, a_treeLow, a_treeHigh, a_splitsByY, a_lessX, a_lessY, a_slice, a_waiting, a_waitingGap) (nI lo) (nI hi) := by
  unfold wpX_insideSorted
  obtain ⟨S, hM, hp, he, hS⟩ := hO
  have hl := zl_len hM
  refine zx_xOf hlo (zx_xOf hhi (zx_firstFrom hP hb hS hM hp he (by omega) (fun f hf h1 h2 => ?_)))
  subst he
  have hend : ∀ (s : Int32) (F : Nat → Bool) (i : Nat), zs_S s F → (∀ k, k < 28 → F k = true → (al k && zp_in lo hi (cx k) (cy k)) = true) → (∀ j, f ≤ j → j < i → (al (zl_g S j) && zp_in lo hi (cx (zl_g S j)) (cy (zl_g S j))) = true → F (zl_g S j) = true) → (∀ j, i ≤ j → j < S.length → hi % 64 < cx (zl_g S j)) → post s := by
    intro s F i hs q1 q2 q3
    refine h s (zs_cg hs (fun k hk => ?_))
    cases hX : (al k && zp_in lo hi (cx k) (cy k))
    · cases hF : F k
      · rfl
      · have := q1 k hk hF
        rw [hX] at this
        exact absurd this (by decide)
    · have hX2 := (Bool.and_eq_true _ _).mp hX
      obtain ⟨z1, z2, z3, z4⟩ := (zp_iff _ _ _ _).mp hX2.2
      obtain ⟨j, hj, e⟩ := zl_gx S k ((hM.2 k).mpr ⟨hk, hX2.1⟩)
      subst e
      refine q2 j ?_ ?_ hX
      · apply Classical.byContradiction
        intro w
        have := h1 j (by omega)
        omega
      · apply Classical.byContradiction
        intro w
        have := q3 j (by omega) hj
        omega
  refine pk_loop (fun n i s => wX_insideSorted_21 post (nI lo) (nI hi) (nI (hi % 64)) f_live (nI S.length) f_treeRoot a_px a_py a_byX a_rowHead a_rowNext a_cell a_quad a_quadX a_quadY a_quadSide a_treeLow a_treeHigh a_splitsByY a_lessX a_lessY a_slice a_waiting a_waitingGap n s (nI i)) (fun i s => ∃ F, zs_S s F ∧ (∀ k, k < 28 → F k = true → (al k && zp_in lo hi (cx k) (cy k)) = true) ∧ (∀ j, f ≤ j → j < i → (al (zl_g S j) && zp_in lo hi (cx (zl_g S j)) (cy (zl_g S j))) = true → F (zl_g S j) = true)) S.length f 0 hf ⟨_, zs_0, fun k _ z => absurd z (by decide), fun j q1 q2 => by omega⟩ (fun n s hs => ?_) (fun n i s hi2 hs K => ?_)
  · obtain ⟨F, q0, q1, q2⟩ := hs
    exact br_t (nI_le (Nat.le_refl _) (by omega)) (hend s F S.length q0 q1 q2 (fun j q3 q4 => by omega))
  · obtain ⟨F, q0, q1, q2⟩ := hs
    have hg := zx_gm hM hi2
    have hbg := hb (zl_g S i)
    refine br_f (nI_ge hi2 (by omega)) ⟨zx_i28 (by omega), ?_⟩
    rw [zx_bx hS hM hi2]
    refine ⟨zx_i28 hg.1, pk_lt (hi % 64) (cx (zl_g S i)) (fun z => hend s F i q0 q1 q2 (fun j q3 q4 => Nat.lt_of_lt_of_le z (zl_gs S hp i j q3 q4))) (fun z => ⟨zx_i28 (by omega), ?_⟩) rfl (zx_pxI hP hg.1)⟩
    refine zx_isIn hP hb hg.1 hlo hhi (fun w => br_f zn_z1 ⟨zx_i28 (by omega), nm_e (nm_r (nI_1 i) (K _ ⟨_, zs_set q0 hg.1, fun k hk q3 => ?_, fun j q3 q4 q5 => ?_⟩))⟩) (fun w => br_t rfl (nm_r (nI_1 i) (K _ ⟨F, q0, q1, fun j q3 q4 q5 => ?_⟩)))
    · rcases (Bool.or_eq_true _ _).mp q3 with q6 | q6
      · exact q1 k hk q6
      · have e : k = zl_g S i := of_decide_eq_true q6
        rw [e, hg.2, w]; rfl
    · by_cases e : j = i
      · subst e
        show (F (zl_g S j) || decide (zl_g S j = zl_g S j)) = true
        simp
      · show (F (zl_g S j) || decide (zl_g S j = zl_g S i)) = true
        rw [q2 j q3 (by omega) q5]; rfl
    · by_cases e : j = i
      · subst e
        rw [w, Bool.and_false] at q5
        exact absurd q5 (by decide)
      · exact q2 j q3 (by omega) q5
/-! rows -/
theorem zx_row (hP : zr_P cx cy a_px a_py) (hb : zr_b cx cy) {J : Int32 → Int32 → Prop} {x3 : Int32} {lo hi y : Nat} (hlo : lo < 4096) (hhi : hi < 4096) {X : Nat → Bool} (hX : ∀ k, X k = (al k && zp_in lo hi (cx k) (cy k))) {R : List Nat} (hR : ∀ k, k ∈ R → k < 28 ∧ al k = true) (hR28 : R.length ≤ 28)
    (h : ∀ r F, zs_S r F → (∀ k, k < 28 → F k = (X k && (decide (cy k < y) || decide (k ∈ R)))) → J r (nI (y + 1))) :
    ∀ (t A : List Nat) (s : Int32) (F : Nat → Bool) (hd : Int32) (d : Nat), R = A ++ t → zl_C a_rowNext t hd → zs_S s F → (∀ k, k < 28 → F k = (X k && (decide (cy k < y) || decide (k ∈ A)))) → t.length < d → wX_insideRows_32 post J (nI lo) (nI hi) x3 (nI y) f_live f_held f_treeRoot a_px a_py a_byX a_rowHead a_rowNext a_cell a_quad a_quadX a_quadY a_quadSide a_treeLow a_treeHigh a_splitsByY a_lessX a_lessY a_slice a_waiting a_waitingGap d s hd (nI A.length) := by
  intro t
  induction t with
  | nil =>
    intro A s F hd d hA hc hs hF hd2
    cases d with
    | zero => exact absurd hd2 (by simp)
    | succ d =>
      have e : hd = -1 := hc
      have hA2 : R = A := by rw [hA, List.append_nil]
      subst hA2
      have hJ := h s F hs hF
      exact br_c (fun _ => nm_r (nI_1 y) hJ) (fun _ => br_t e (nm_r (nI_1 y) hJ))
  | cons m t ih =>
    intro A s F hd d hA hc hs hF hd2
    cases d with
    | zero => exact absurd hd2 (by simp)
    | succ d =>
      have hm := hR m (by rw [hA]; simp)
      have hlen : A.length < 28 := by
        rw [hA, List.length_append, List.length_cons] at hR28
        omega
      obtain ⟨e, hc2⟩ := hc
      subst e
      have hAA : R = (A ++ [m]) ++ t := by rw [hA]; simp
      have hl2 : (A ++ [m]).length = A.length + 1 := by simp
      have hmem : ∀ k, decide (k ∈ A ++ [m]) = (decide (k ∈ A) || decide (k = m)) := fun k => by
        rw [Bool.eq_iff_iff]
        simp
      have hnext : nI A.length + 1 = nI (A ++ [m]).length := by rw [hl2, nI_1]
      have e2 : a_rowNext (nI m).toNatClampNeg = a_rowNext m := by rw [nI_clamp (by omega)]
      refine br_f (zn_28f hlen) (br_f (zn_n1 (by omega)) (zx_isIn hP hb hm.1 hlo hhi (fun w => br_f zn_z1 (nm_e ⟨zx_i28 hm.1, nm_r e2 (nm_r hnext ?_)⟩)) (fun w => br_t rfl ⟨zx_i28 hm.1, nm_r e2 (nm_r hnext ?_)⟩)))
      · refine ih (A ++ [m]) _ _ _ d hAA hc2 (zs_set hs hm.1) (fun k hk => ?_) (by rw [List.length_cons] at hd2; omega)
        rw [hmem]
        show (F k || decide (k = m)) = _
        rw [hF k hk]
        by_cases e3 : k = m
        · subst e3
          have : X k = true := by rw [hX, hm.2, w]; rfl
          simp [this]
        · simp [e3]
      · refine ih (A ++ [m]) _ F _ d hAA hc2 hs (fun k hk => ?_) (by rw [List.length_cons] at hd2; omega)
        rw [hmem, hF k hk]
        by_cases e3 : k = m
        · subst e3
          have : X k = false := by rw [hX, w]; exact Bool.and_false _
          simp [this]
        · simp [e3]
theorem zx_insideRows (hP : zr_P cx cy a_px a_py) (hb : zr_b cx cy) (hR : zr_R al cy a_rowHead a_rowNext) {lo hi : Nat} (hlo : lo < 4096) (hhi : hi < 4096) (h : ∀ r, zs_S r (fun k => al k && zp_in lo hi (cx k) (cy k)) → post r) : wpX_insideRows post (f_live, f_held, f_treeRoot, a_px, a_py, a_byX, a_rowHead, a_rowNext, a_cell, a_quad, a_quadX, a_quadY, a_quadSide, a_treeLow, a_treeHigh, a_splitsByY, a_lessX, a_lessY, a_slice, a_waiting, a_waitingGap) (nI lo) (nI hi) := by
  unfold wpX_insideRows
  refine zx_yOf hhi (zx_yOf hlo ?_)
  have hin : ∀ k, (al k && zp_in lo hi (cx k) (cy k)) = true → lo / 64 ≤ cy k ∧ cy k ≤ hi / 64 := fun k z => by
    have := (zp_iff _ _ _ _).mp ((Bool.and_eq_true _ _).mp z).2
    omega
  by_cases hle : lo / 64 ≤ hi / 64 + 1
  · refine pk_loop (fun n i s => wX_insideRows_14 post (nI lo) (nI hi) (nI (hi / 64)) f_live f_held f_treeRoot a_px a_py a_byX a_rowHead a_rowNext a_cell a_quad a_quadX a_quadY a_quadSide a_treeLow a_treeHigh a_splitsByY a_lessX a_lessY a_slice a_waiting a_waitingGap n s (nI i)) (fun i s => ∃ F, zs_S s F ∧ ∀ k, k < 28 → F k = ((al k && zp_in lo hi (cx k) (cy k)) && decide (cy k < i))) (hi / 64 + 1) (lo / 64) 0 hle ⟨_, zs_0, fun k hk => ?_⟩ (fun n s hs => ?_) (fun n i s hi2 hs K => ?_)
    · cases hX : (al k && zp_in lo hi (cx k) (cy k))
      · rfl
      · rw [decide_eq_false (by have := hin k hX; omega)]; rfl
    · obtain ⟨F, q0, q1⟩ := hs
      refine br_t (nI_lt (by omega) (by omega)) (h s (zs_cg q0 (fun k hk => ?_)))
      rw [q1 k hk]
      cases hX : (al k && zp_in lo hi (cx k) (cy k))
      · rfl
      · rw [decide_eq_true (by have := hin k hX; omega)]; rfl
    · obtain ⟨F, q0, q1⟩ := hs
      have hi64 : i < 64 := by omega
      obtain ⟨R, r1, r2⟩ := hR i hi64
      have e : a_rowHead (nI i).toNatClampNeg = a_rowHead i := by rw [nI_clamp (by omega)]
      refine br_f (nI_nlt (by omega) (by omega)) ⟨vp_in_nI hi64 (by omega), nm_r e ⟨29, ?_⟩⟩
      have hl := zl_len r1
      refine zx_row (X := fun k => al k && zp_in lo hi (cx k) (cy k)) (R := R) hP hb hlo hhi (fun _ => rfl) (fun k hk => ?_) hl (fun r F2 s1 s2 => K r ⟨F2, s1, fun k hk => ?_⟩) R [] s F _ 29 rfl r2 q0 (fun k hk => ?_) (by omega)
      · have := (r1.2 k).mp hk
        exact ⟨this.1, ((Bool.and_eq_true _ _).mp this.2).1⟩
      · rw [s2 k hk]
        show ((al k && zp_in lo hi (cx k) (cy k)) && _) = _
        cases hX : (al k && zp_in lo hi (cx k) (cy k))
        · rfl
        · have ha := ((Bool.and_eq_true _ _).mp hX).1
          have hmem : decide (k ∈ R) = decide (cy k = i) := by
            rw [Bool.eq_iff_iff]
            simp only [decide_eq_true_eq]
            rw [r1.2 k]
            show (k < 28 ∧ (al k && decide (cy k = i)) = true) ↔ cy k = i
            rw [ha]
            simp [hk]
          rw [hmem, Bool.true_and, Bool.true_and, Bool.eq_iff_iff]
          simp only [Bool.or_eq_true, decide_eq_true_eq]
          omega
      · rw [q1 k hk]
        simp
  · refine ⟨1, br_t (nI_lt (by omega) (by omega)) (h 0 (zs_cg zs_0 (fun k hk => ?_)))⟩
    cases hX : (al k && zp_in lo hi (cx k) (cy k))
    · rfl
    · have := hin k hX
      omega
/-! bounds -/
theorem zx_insideBounds (hBx : zr_B al cx a_lessX) (hBy : zr_B al cy a_lessY) {lo hi : Nat} (hlo : lo < 4096) (hhi : hi < 4096) (h : ∀ r, zs_S r (fun k => al k && zp_in lo hi (cx k) (cy k)) → post r) : wpX_insideBounds post (f_live, f_held, f_treeRoot, a_px, a_py, a_byX, a_rowHead, a_rowNext, a_cell, a_quad, a_quadX, a_quadY, a_quadSide, a_treeLow, a_treeHigh, a_splitsByY, a_lessX, a_lessY, a_slice, a_waiting, a_waitingGap) (nI lo) (nI hi) := by
  unfold wpX_insideBounds
  refine zx_xOf hhi ?_
  rw [nI_1]
  refine ⟨vp_in_nI (by omega) (by omega), zx_xOf hlo ⟨vp_in_nI (by omega) (by omega), nm_e (zx_yOf hhi ?_)⟩⟩
  rw [nI_1 (hi / 64)]
  refine ⟨vp_in_nI (by omega) (by omega), zx_yOf hlo ⟨vp_in_nI (by omega) (by omega), nm_e ?_⟩⟩
  rw [nI_clamp (show hi % 64 + 1 < 2 ^ 31 by omega), nI_clamp (show lo % 64 < 2 ^ 31 by omega), nI_clamp (show hi / 64 + 1 < 2 ^ 31 by omega), nI_clamp (show lo / 64 < 2 ^ 31 by omega)]
  refine h _ (zs_cg (zs_and (zs_an (hBx (hi % 64 + 1) (by omega)) (hBx (lo % 64) (by omega))) (zs_an (hBy (hi / 64 + 1) (by omega)) (hBy (lo / 64) (by omega)))) (fun k _ => ?_))
  show ((al k && decide (cx k < hi % 64 + 1)) && !(al k && decide (cx k < lo % 64)) && ((al k && decide (cy k < hi / 64 + 1)) && !(al k && decide (cy k < lo / 64)))) = (al k && zp_in lo hi (cx k) (cy k))
  cases al k
  · rfl
  · rw [Bool.eq_iff_iff, Bool.true_and, Bool.true_and, Bool.true_and, Bool.true_and, Bool.true_and, zp_iff]
    simp only [Bool.and_eq_true, Bool.not_eq_true', decide_eq_true_eq, decide_eq_false_iff_not]
    omega
/-! slices -/
theorem zx_sl {first : Nat} (hf : first ≤ 6) {c : Nat → Nat} (hsl : ∀ b, b < 6 → zs_S (a_slice (first + b)) (fun k => al k && zr_h (c k) b)) {B : Nat} (hB : B < 64) (h : ∀ r, zs_S r (fun k => al k && decide (c k < B)) → post r) :
    ∀ d ls sm, d ≤ 6 → zs_S ls (fun k => al k && decide (c k / 2 ^ d < B / 2 ^ d)) → zs_S sm (fun k => al k && decide (c k / 2 ^ d = B / 2 ^ d)) → wX_lessBySlices_22 post (nI first) (nI B) f_live f_held f_treeRoot a_px a_py a_byX a_rowHead a_rowNext a_cell a_quad a_quadX a_quadY a_quadSide a_treeLow a_treeHigh a_splitsByY a_lessX a_lessY a_slice a_waiting a_waitingGap (d + 1) ls sm (zx_dec d) := by
  intro d
  induction d with
  | zero =>
    intro ls sm _ h1 _
    refine br_t (by decide) (h ls (zs_cg h1 (fun k _ => ?_)))
    rw [Nat.pow_zero, Nat.div_one, Nat.div_one]
  | succ d ih =>
    intro ls sm hd h1 h2
    have e0 : zx_dec (d + 1) = nI d := rfl
    have hx : zs_S (a_slice (first + d)) (fun k => al k && zr_h (c k) d) := hsl d (by omega)
    rw [e0]
    refine br_f (nI_pos (by omega)) ?_
    rw [nI_add]
    refine ⟨vp_in_nI (by omega) (by omega), nm_r (e' := a_slice (first + d)) (by rw [nI_clamp (by omega)]) ?_⟩
    rw [zi_bit (c := B) (b := d) (by omega) (by omega)]
    cases hbt : zr_h B d
    · refine br_f (by decide) (nm_e (nm_r (zx_dec1 d) (ih _ _ (by omega) (zs_cg h1 (fun k _ => ?_)) (zs_cg (zs_an h2 hx) (fun k _ => ?_)))))
      · rw [zi_lt (c k) B d, hbt, Bool.and_false, Bool.and_false, Bool.or_false]
      · rw [zi_eq (c k) B d, hbt]
        cases al k <;> cases decide (c k / 2 ^ (d + 1) = B / 2 ^ (d + 1)) <;> cases zr_h (c k) d <;> rfl
    · refine br_t rfl (nm_e (nm_e (nm_r (zx_dec1 d) (ih _ _ (by omega) (zs_cg (zs_or h1 (zs_an h2 hx)) (fun k _ => ?_)) (zs_cg (zs_and h2 hx) (fun k _ => ?_))))))
      · rw [zi_lt (c k) B d, hbt]
        cases al k <;> cases decide (c k / 2 ^ (d + 1) = B / 2 ^ (d + 1)) <;> cases decide (c k / 2 ^ (d + 1) < B / 2 ^ (d + 1)) <;> cases zr_h (c k) d <;> rfl
      · rw [zi_eq (c k) B d, hbt]
        cases al k <;> cases decide (c k / 2 ^ (d + 1) = B / 2 ^ (d + 1)) <;> cases zr_h (c k) d <;> rfl
theorem zx_less (hl : zs_S f_live al) {first : Nat} (hf : first ≤ 6) {c : Nat → Nat} (hc : ∀ k, c k < 64) (hsl : ∀ b, b < 6 → zs_S (a_slice (first + b)) (fun k => al k && zr_h (c k) b)) {B : Nat} (hB : B ≤ 64) (h : ∀ r, zs_S r (fun k => al k && decide (c k < B)) → post r) : wpX_lessBySlices post (f_live, f_held, f_treeRoot, a_px, a_py, a_byX, a_rowHead, a_rowNext, a_cell, a_quad, a_quadX, a_quadY, a_quadSide, a_treeLow, a_treeHigh, a_splitsByY, a_lessX, a_lessY, a_slice, a_waiting, a_waitingGap) (nI first) (nI B) := by
  refine pk_lt B 64 (fun z => ⟨7, zx_sl hf hsl z h 6 0 f_live (Nat.le_refl 6) (zs_cg zs_0 (fun k _ => ?_)) (zs_cg hl (fun k _ => ?_))⟩) (fun z => h _ (zs_cg hl (fun k _ => ?_)))
  · have h1 := hc k
    have e1 : c k / 2 ^ 6 = 0 := by omega
    have e2 : B / 2 ^ 6 = 0 := by omega
    rw [e1, e2]
    simp
  · have h1 := hc k
    have e1 : c k / 2 ^ 6 = 0 := by omega
    have e2 : B / 2 ^ 6 = 0 := by omega
    rw [e1, e2]
    simp
  · have h1 := hc k
    rw [decide_eq_true (by omega), Bool.and_true]
theorem zx_insideSlices (hl : zs_S f_live al) (hb : zr_b cx cy) (hI : zr_I al cx cy a_slice) {lo hi : Nat} (hlo : lo < 4096) (hhi : hi < 4096) (h : ∀ r, zs_S r (fun k => al k && zp_in lo hi (cx k) (cy k)) → post r) : wpX_insideSlices post (f_live, f_held, f_treeRoot, a_px, a_py, a_byX, a_rowHead, a_rowNext, a_cell, a_quad, a_quadX, a_quadY, a_quadSide, a_treeLow, a_treeHigh, a_splitsByY, a_lessX, a_lessY, a_slice, a_waiting, a_waitingGap) (nI lo) (nI hi) := by
  unfold wpX_insideSlices
  have h0 : ∀ b, b < 6 → zs_S (a_slice (0 + b)) (fun k => al k && zr_h (cx k) b) := fun b hb2 => by rw [Nat.zero_add]; exact (hI b hb2).1
  have h6 : ∀ b, b < 6 → zs_S (a_slice (6 + b)) (fun k => al k && zr_h (cy k) b) := fun b hb2 => (hI b hb2).2
  refine zx_xOf hlo (zx_yOf hlo (zx_xOf hhi (nm_r (nI_1 _) (zx_yOf hhi (nm_r (nI_1 _) ?_)))))
  refine zx_less (first := 0) hl (by omega) (fun k => (hb k).1) h0 (by omega) (fun r1 q1 => ?_)
  refine zx_less (first := 0) hl (by omega) (fun k => (hb k).1) h0 (by omega) (fun r2 q2 => nm_e ?_)
  refine zx_less (first := 6) hl (by omega) (fun k => (hb k).2) h6 (by omega) (fun r3 q3 => ?_)
  refine zx_less (first := 6) hl (by omega) (fun k => (hb k).2) h6 (by omega) (fun r4 q4 => nm_e ?_)
  refine h _ (zs_cg (zs_and (zs_an q1 q2) (zs_an q3 q4)) (fun k _ => ?_))
  show ((al k && decide (cx k < hi % 64 + 1)) && !(al k && decide (cx k < lo % 64)) && ((al k && decide (cy k < hi / 64 + 1)) && !(al k && decide (cy k < lo / 64)))) = (al k && zp_in lo hi (cx k) (cy k))
  cases al k
  · rfl
  · rw [Bool.eq_iff_iff, Bool.true_and, Bool.true_and, Bool.true_and, Bool.true_and, Bool.true_and, zp_iff]
    simp only [Bool.and_eq_true, Bool.not_eq_true', decide_eq_true_eq, decide_eq_false_iff_not]
    omega
end
end
section
/-! ===== the component: rectangles by the grid and the quads ===== -/
section
variable {f_live f_held f_treeRoot : Int32} {a_px a_py a_byX a_rowHead a_rowNext a_cell a_quad a_quadX a_quadY a_quadSide a_treeLow a_treeHigh a_splitsByY a_lessX a_lessY a_slice a_waiting a_waitingGap : Nat → Int32} {al : Nat → Bool} {cx cy : Nat → Nat}
theorem zx_e1 {x s : Nat} (hs : 1 ≤ s) : nI x + nI s - 1 = nI (x + s - 1) := by
  obtain ⟨t, rfl⟩ : ∃ t, s = t + 1 := ⟨s - 1, by omega⟩
  rw [nI_add, show x + (t + 1) = (x + t) + 1 by omega, nI_pred]
  rfl
theorem zx_covers {post : Int32 → Prop} {lo hi x y s : Nat} (hlo : lo < 4096) (hhi : hi < 4096) (hx : x + s ≤ 64) (hy : y + s ≤ 64) (hs : 1 ≤ s) (ht : (∀ a b, x ≤ a → a < x + s → y ≤ b → b < y + s → zp_in lo hi a b = true) → post 1) (hf : post 0) : wpX_covers post (nI lo) (nI hi) (nI x) (nI y) (nI s) := by
  unfold wpX_covers
  refine zx_xOf hlo (pk_lt x (lo % 64) (fun _ => hf) (fun z1 => zx_xOf hhi ?_))
  refine pk_lt (hi % 64) (x + s - 1) (fun _ => hf) (fun z2 => zx_yOf hlo (pk_lt y (lo / 64) (fun _ => hf) (fun z3 => zx_yOf hhi ?_))) rfl (zx_e1 hs)
  refine pk_lt (hi / 64) (y + s - 1) (fun _ => hf) (fun z4 => ht (fun a b h1 h2 h3 h4 => (zp_iff _ _ _ _).mpr ?_)) rfl (zx_e1 hs)
  omega
theorem zx_cI (hb : zr_b cx cy) {c r : Nat} (hc : c < 8) (k : Nat) : zr_c cx cy k = c + 8 * r ↔ cx k / 8 = c ∧ cy k / 8 = r := by
  have := hb k
  unfold zr_c
  omega
def zx_gF (X : Nat → Bool) (cx cy : Nat → Nat) (r c : Nat) (k : Nat) : Bool := X k && (decide (cy k / 8 < r) || (decide (cy k / 8 = r) && decide (cx k / 8 < c)))
theorem zx_gS (hb : zr_b cx cy) {X : Nat → Bool} {r c k : Nat} (hc : c < 8) : (zx_gF X cx cy r c k || (X k && decide (zr_c cx cy k = c + 8 * r))) = zx_gF X cx cy r (c + 1) k := by
  have h := zx_cI hb (r := r) hc k
  unfold zx_gF
  cases X k
  · rfl
  · rw [Bool.eq_iff_iff]
    simp only [Bool.true_and, Bool.or_eq_true, Bool.and_eq_true, decide_eq_true_eq]
    rw [h]
    omega
theorem zx_gE {X : Nat → Bool} {r c k m : Nat} (hX : X k = true → cx k / 8 ≤ m) (hc : m < c) : zx_gF X cx cy r c k = zx_gF X cx cy (r + 1) 0 k := by
  unfold zx_gF
  cases h : X k
  · rfl
  · have := hX h
    rw [Bool.eq_iff_iff]
    simp only [Bool.true_and, Bool.or_eq_true, Bool.and_eq_true, decide_eq_true_eq]
    omega
theorem zx_g0 {X : Nat → Bool} {r c k : Nat} (hX : X k = true → c ≤ cx k / 8) : zx_gF X cx cy r c k = zx_gF X cx cy r 0 k := by
  unfold zx_gF
  cases h : X k
  · rfl
  · have := hX h
    rw [Bool.eq_iff_iff]
    simp only [Bool.true_and, Bool.or_eq_true, Bool.and_eq_true, decide_eq_true_eq]
    omega
theorem zx_g45 {post : Int32 → Prop} (hP : zr_P cx cy a_px a_py) (hb : zr_b cx cy) (hC : zr_C al cx cy a_cell) {J : Int32 → Int32 → Prop} {x4 : Int32} {lo hi r : Nat} (hlo : lo < 4096) (hhi : hi < 4096) (hr : r < 8)
    (h : ∀ s, zs_S s (zx_gF (fun k => al k && zp_in lo hi (cx k) (cy k)) cx cy (r + 1) 0) → J s (nI (r + 1))) :
    ∀ d c s, hi % 64 / 8 + 1 ≤ c + d → c ≤ 8 → zs_S s (zx_gF (fun k => al k && zp_in lo hi (cx k) (cy k)) cx cy r c) → wX_insideGrid_45 post J (nI lo) (nI hi) (nI (hi % 64 / 8)) x4 (nI r) f_live f_held f_treeRoot a_px a_py a_byX a_rowHead a_rowNext a_cell a_quad a_quadX a_quadY a_quadSide a_treeLow a_treeHigh a_splitsByY a_lessX a_lessY a_slice a_waiting a_waitingGap (d + 1) s (nI c) := by
  have hXm : ∀ k, (al k && zp_in lo hi (cx k) (cy k)) = true → cx k / 8 ≤ hi % 64 / 8 := fun k z => by
    have := (zp_iff _ _ _ _).mp ((Bool.and_eq_true _ _).mp z).2
    omega
  have hex : ∀ d c s, hi % 64 / 8 < c → c ≤ 8 → zs_S s (zx_gF (fun k => al k && zp_in lo hi (cx k) (cy k)) cx cy r c) → wX_insideGrid_45 post J (nI lo) (nI hi) (nI (hi % 64 / 8)) x4 (nI r) f_live f_held f_treeRoot a_px a_py a_byX a_rowHead a_rowNext a_cell a_quad a_quadX a_quadY a_quadSide a_treeLow a_treeHigh a_splitsByY a_lessX a_lessY a_slice a_waiting a_waitingGap (d + 1) s (nI c) := fun d c s hc hc8 hs =>
    br_t (nI_lt hc (by omega)) (nm_r (nI_1 r) (h s (zs_cg hs (fun k _ => zx_gE (hXm k) hc))))
  intro d
  induction d with
  | zero => exact fun c s hd hc hs => hex 0 c s (by omega) hc hs
  | succ d ih =>
    intro c s hd hc hs
    by_cases hle : c ≤ hi % 64 / 8
    · have hc8 : c < 8 := by omega
      have hcell := hC (c + 8 * r) (by omega)
      have e1 : nI c + 8 * nI r = nI (c + 8 * r) := by rw [zn_m8, nI_add]
      refine br_f (nI_nlt hle (by omega)) ?_
      rw [e1]
      refine ⟨vp_in_nI (by omega) (by omega), nm_r (e' := a_cell (c + 8 * r)) (by rw [nI_clamp (by omega)]) ?_⟩
      rw [show nI c * 8 = nI (c * 8) from pk_mul c 8, show nI r * 8 = nI (r * 8) from pk_mul r 8]
      refine zx_covers (x := c * 8) (y := r * 8) (s := 8) hlo hhi (by omega) (by omega) (by omega) (fun hcov => br_f zn_z1 (nm_e (nm_r (nI_1 c) (ih (c + 1) _ (by omega) (by omega) (zs_cg (zs_or hs hcell) (fun k _ => ?_)))))) (br_t rfl (zx_insideOf hP hb hcell hlo hhi (fun r2 hr2 => nm_e (nm_r (nI_1 c) (ih (c + 1) _ (by omega) (by omega) (zs_cg (zs_or hs hr2) (fun k _ => ?_)))))))
      · rw [← zx_gS hb hc8]
        refine congrArg (fun z => zx_gF (fun k => al k && zp_in lo hi (cx k) (cy k)) cx cy r c k || z) ?_
        show (al k && decide (zr_c cx cy k = c + 8 * r)) = ((al k && zp_in lo hi (cx k) (cy k)) && decide (zr_c cx cy k = c + 8 * r))
        by_cases e : zr_c cx cy k = c + 8 * r
        · have e2 := (zx_cI hb hc8 k).mp e
          rw [hcov (cx k) (cy k) (by omega) (by omega) (by omega) (by omega), Bool.and_true]
        · rw [decide_eq_false e, Bool.and_false, Bool.and_false]
      · rw [← zx_gS hb hc8]
        refine congrArg (fun z => zx_gF (fun k => al k && zp_in lo hi (cx k) (cy k)) cx cy r c k || z) ?_
        show ((al k && decide (zr_c cx cy k = c + 8 * r)) && zp_in lo hi (cx k) (cy k)) = ((al k && zp_in lo hi (cx k) (cy k)) && decide (zr_c cx cy k = c + 8 * r))
        cases al k <;> cases zp_in lo hi (cx k) (cy k) <;> cases decide (zr_c cx cy k = c + 8 * r) <;> rfl
    · exact hex (d + 1) c s (by omega) hc hs
theorem zx_insideGrid {post : Int32 → Prop} (hP : zr_P cx cy a_px a_py) (hb : zr_b cx cy) (hC : zr_C al cx cy a_cell) {lo hi : Nat} (hlo : lo < 4096) (hhi : hi < 4096) (h : ∀ r, zs_S r (fun k => al k && zp_in lo hi (cx k) (cy k)) → post r) : wpX_insideGrid post (f_live, f_held, f_treeRoot, a_px, a_py, a_byX, a_rowHead, a_rowNext, a_cell, a_quad, a_quadX, a_quadY, a_quadSide, a_treeLow, a_treeHigh, a_splitsByY, a_lessX, a_lessY, a_slice, a_waiting, a_waitingGap) (nI lo) (nI hi) := by
  unfold wpX_insideGrid
  refine zx_xOf hhi ⟨by decide, nm_r (zn_8 (p := hi % 64) (by omega)) (zx_yOf hhi ⟨by decide, nm_r (zn_8 (p := hi / 64) (by omega)) (zx_yOf hlo ⟨by decide, nm_r (zn_8 (p := lo / 64) (by omega)) ?_⟩)⟩)⟩
  have hXm : ∀ k, (al k && zp_in lo hi (cx k) (cy k)) = true → (lo / 64 / 8 ≤ cy k / 8 ∧ cy k / 8 ≤ hi / 64 / 8) ∧ lo % 64 / 8 ≤ cx k / 8 := fun k z => by
    have := (zp_iff _ _ _ _).mp ((Bool.and_eq_true _ _).mp z).2
    omega
  have hex : ∀ d r s, hi / 64 / 8 < r → r ≤ 8 → zs_S s (zx_gF (fun k => al k && zp_in lo hi (cx k) (cy k)) cx cy r 0) → wX_insideGrid_29 post (nI lo) (nI hi) (nI (hi % 64 / 8)) (nI (hi / 64 / 8)) f_live f_held f_treeRoot a_px a_py a_byX a_rowHead a_rowNext a_cell a_quad a_quadX a_quadY a_quadSide a_treeLow a_treeHigh a_splitsByY a_lessX a_lessY a_slice a_waiting a_waitingGap (d + 1) s (nI r) := fun d r s hr hr8 hs => by
    refine br_t (nI_lt hr (by omega)) (h s (zs_cg hs (fun k _ => ?_)))
    show ((al k && zp_in lo hi (cx k) (cy k)) && (decide (cy k / 8 < r) || (decide (cy k / 8 = r) && decide (cx k / 8 < 0)))) = (al k && zp_in lo hi (cx k) (cy k))
    cases hX : (al k && zp_in lo hi (cx k) (cy k))
    · rfl
    · have := hXm k hX
      rw [decide_eq_true (by omega : cy k / 8 < r)]
      rfl
  have key : ∀ d r s, hi / 64 / 8 + 1 ≤ r + d → r ≤ 8 → zs_S s (zx_gF (fun k => al k && zp_in lo hi (cx k) (cy k)) cx cy r 0) → wX_insideGrid_29 post (nI lo) (nI hi) (nI (hi % 64 / 8)) (nI (hi / 64 / 8)) f_live f_held f_treeRoot a_px a_py a_byX a_rowHead a_rowNext a_cell a_quad a_quadX a_quadY a_quadSide a_treeLow a_treeHigh a_splitsByY a_lessX a_lessY a_slice a_waiting a_waitingGap (d + 1) s (nI r) := by
    intro d
    induction d with
    | zero => exact fun r s hd hr hs => hex 0 r s (by omega) hr hs
    | succ d ih =>
      intro r s hd hr hs
      by_cases hle : r ≤ hi / 64 / 8
      · refine br_f (nI_nlt hle (by omega)) (zx_xOf hlo ⟨by decide, nm_r (zn_8 (p := lo % 64) (by omega)) ⟨9, ?_⟩⟩)
        exact zx_g45 hP hb hC hlo hhi (by omega) (fun s2 hs2 => ih (r + 1) s2 (by omega) (by omega) hs2) 8 (lo % 64 / 8) s (by omega) (by omega) (zs_cg hs (fun k _ => (zx_g0 (fun z => (hXm k z).2)).symm))
      · exact hex (d + 1) r s (by omega) hr hs
  refine ⟨9, key 8 (lo / 64 / 8) 0 (by omega) (by omega) (zs_cg zs_0 (fun k _ => ?_))⟩
  show false = ((al k && zp_in lo hi (cx k) (cy k)) && (decide (cy k / 8 < lo / 64 / 8) || (decide (cy k / 8 = lo / 64 / 8) && decide (cx k / 8 < 0))))
  cases hX : (al k && zp_in lo hi (cx k) (cy k))
  · rfl
  · have := hXm k hX
    rw [decide_eq_false (by omega : ¬ cy k / 8 < lo / 64 / 8), decide_eq_false (by omega : ¬ cx k / 8 < 0)]
    simp
/-! quads -/
theorem zx_i341 {n : Nat} (h : n < 341) : vp_in (nI n) 341 := vp_in_nI h (by omega)
theorem zx_misses {post : Int32 → Prop} (hL : zr_L a_quadX a_quadY a_quadSide) {lo hi n : Nat} (hlo : lo < 4096) (hhi : hi < 4096) (hn : n < 341) (ht : (∀ a b, zq_in n a b = true → ¬ zp_in lo hi a b = true) → post 1) (hf : post 0) : wpX_misses post (f_live, f_held, f_treeRoot, a_px, a_py, a_byX, a_rowHead, a_rowNext, a_cell, a_quad, a_quadX, a_quadY, a_quadSide, a_treeLow, a_treeHigh, a_splitsByY, a_lessX, a_lessY, a_slice, a_waiting, a_waitingGap) (nI lo) (nI hi) (nI n) := by
  have hbd := zq_bd n hn
  obtain ⟨q1, q2, q3⟩ := hL n hn
  have ht2 : (∀ a b, ((zq_x n ≤ a ∧ a < zq_x n + zq_s n) ∧ zq_y n ≤ b ∧ b < zq_y n + zq_s n) → ¬ (lo % 64 ≤ a ∧ a ≤ hi % 64 ∧ lo / 64 ≤ b ∧ b ≤ hi / 64)) → post 1 := fun w => ht (fun a b z1 z2 => w a b ((zq_iff _ _ _).mp z1) ((zp_iff _ _ _ _).mp z2))
  have e : (nI n).toNatClampNeg = n := nI_clamp (by omega)
  have e1 : a_quadX (nI n).toNatClampNeg = nI (zq_x n) := by rw [e]; exact q1
  have e2 : a_quadY (nI n).toNatClampNeg = nI (zq_y n) := by rw [e]; exact q2
  have e3 : a_quadSide (nI n).toNatClampNeg = nI (zq_s n) := by rw [e]; exact q3
  refine ⟨zx_i341 hn, zx_i341 hn, nm_r (e' := nI (zq_x n + zq_s n - 1)) (by rw [e1, e3]; exact zx_e1 (by omega)) ⟨zx_i341 hn, zx_i341 hn, nm_r (e' := nI (zq_y n + zq_s n - 1)) (by rw [e2, e3]; exact zx_e1 (by omega)) ⟨zx_i341 hn, ?_⟩⟩⟩
  refine zx_xOf hhi (pk_lt (hi % 64) (zq_x n) (fun z => ht2 (by omega)) (fun z1 => zx_xOf hlo ?_) rfl e1)
  refine pk_lt (zq_x n + zq_s n - 1) (lo % 64) (fun z => ht2 (by omega)) (fun z2 => ⟨zx_i341 hn, zx_yOf hhi ?_⟩)
  refine pk_lt (hi / 64) (zq_y n) (fun z => ht2 (by omega)) (fun z3 => zx_yOf hlo ?_) rfl e2
  exact pk_le (lo / 64) (zq_y n + zq_s n - 1) (fun z => hf) (fun z => ht2 (by omega))
theorem zx_qp {post : Int32 → SX → Prop} {J : Int32 → Int32 → Int32 → (Nat → Int32) → (Nat → Int32) → (Nat → Int32) → (Nat → Int32) → (Nat → Int32) → (Nat → Int32) → (Nat → Int32) → (Nat → Int32) → (Nat → Int32) → (Nat → Int32) → (Nat → Int32) → (Nat → Int32) → (Nat → Int32) → (Nat → Int32) → (Nat → Int32) → (Nat → Int32) → (Nat → Int32) → (Nat → Int32) → Prop} {x1 x2 x3 x5 : Int32} {n top m q : Nat} {w : Nat → Int32} (hq : q < 4) (ht : top < 341)
    (h : wX_insideQuads_135 post J x1 x2 x3 x5 (nI m) f_live f_held f_treeRoot n (nI (top + 1)) (nI (q + 1)) a_px a_py a_byX a_rowHead a_rowNext a_cell a_quad a_quadX a_quadY a_quadSide a_treeLow a_treeHigh a_splitsByY a_lessX a_lessY a_slice (upd w top (nI (4 * m + 1 + q))) a_waitingGap) :
    wX_insideQuads_135 post J x1 x2 x3 x5 (nI m) f_live f_held f_treeRoot (n + 1) (nI top) (nI q) a_px a_py a_byX a_rowHead a_rowNext a_cell a_quad a_quadX a_quadY a_quadSide a_treeLow a_treeHigh a_splitsByY a_lessX a_lessY a_slice (w) a_waitingGap := by
  refine br_f (nI_ge (b := 4) hq (by omega)) ⟨zx_i341 ht, nm_r (e' := upd w top (nI (4 * m + 1 + q))) ?_ (nm_r (nI_1 top) (nm_r (nI_1 q) h))⟩
  have e : 4 * nI m + 1 + nI q = nI (4 * m + 1 + q) := by
    have e2 : 4 * nI m = nI (4 * m) := pk_mul 4 m
    rw [e2, nI_1, nI_add]
  rw [nI_clamp (show top < 2 ^ 31 by omega), e]
theorem zx_kq {w : Nat → Int32} {L : List Nat} {m : Nat} (h : zk_K (fun n i => n < 341 ∧ w i = nI n) L) (hm : m < 341) : zk_K (fun n i => n < 341 ∧ upd w L.length (nI m) i = nI n) (m :: L) :=
  ⟨⟨hm, pk_us⟩, zk_fr L (fun l i hi hl => ⟨hl.1, by rw [pk_un (by omega)]; exact hl.2⟩) h⟩
theorem zx_q15 {post : Int32 → SX → Prop} (hP : zr_P cx cy a_px a_py) (hb : zr_b cx cy) (hL : zr_L a_quadX a_quadY a_quadSide) (hQ : zr_Q al cx cy a_quad) {lo hi : Nat} (hlo : lo < 4096) (hhi : hi < 4096)
    (h : ∀ r w, zs_S r (fun k => al k && zp_in lo hi (cx k) (cy k)) → post r (f_live, f_held, f_treeRoot, a_px, a_py, a_byX, a_rowHead, a_rowNext, a_cell, a_quad, a_quadX, a_quadY, a_quadSide, a_treeLow, a_treeHigh, a_splitsByY, a_lessX, a_lessY, a_slice, w, a_waitingGap)) :
    ∀ d t (L : List Nat) s (F : Nat → Bool) (w : Nat → Int32), t + d = 341 → zk_N zq_w L + t ≤ 341 → zk_K (fun n i => n < 341 ∧ w i = nI n) L → zs_S s F → zj_J (fun k => al k && zp_in lo hi (cx k) (cy k)) (fun n k => zq_in n (cx k) (cy k) = true) F L → wX_insideQuads_15 post (nI lo) (nI hi) f_live f_held f_treeRoot (d + 1) s (nI L.length) (nI t) a_px a_py a_byX a_rowHead a_rowNext a_cell a_quad a_quadX a_quadY a_quadSide a_treeLow a_treeHigh a_splitsByY a_lessX a_lessY a_slice (w) a_waitingGap := by
  intro d
  induction d with
  | zero =>
    intro t L s F w ht hN hK hs hJ
    have hlen := zk_len L (fun a _ => zq_w1 a)
    have e : t = 341 := by omega
    have e2 : L = [] := List.eq_nil_of_length_eq_zero (by omega)
    subst e e2
    exact br_t (nI_le (a := 341) (Nat.le_refl _) (by omega)) (h s w (zs_cg hs (zj_end hJ)))
  | succ d ih =>
    intro t L s F w ht hN hK hs hJ
    refine br_f (nI_ge (b := 341) (by omega) (by omega)) ?_
    cases L with
    | nil => exact br_t (show nI 0 ≤ 0 by decide) (h s w (zs_cg hs (zj_end hJ)))
    | cons n L =>
      have hlen := zk_len L (fun a _ => zq_w1 a)
      have hw := zq_w1 n
      have eN : zk_N zq_w (n :: L) = zq_w n + zk_N zq_w L := rfl
      rw [eN] at hN
      obtain ⟨⟨hn, ew⟩, hK2⟩ := hK
      have ewc : w (nI L.length).toNatClampNeg = nI n := by rw [nI_clamp (by omega)]; exact ew
      have en : (nI n).toNatClampNeg = n := nI_clamp (by omega)
      have hq := hQ n hn
      obtain ⟨q1, q2, q3⟩ := hL n hn
      have hbd := zq_bd n hn
      have hdrop : (∀ k, k < 28 → (al k && zp_in lo hi (cx k) (cy k)) = true → ¬ zq_in n (cx k) (cy k) = true) → wX_insideQuads_15 post (nI lo) (nI hi) f_live f_held f_treeRoot (d + 1) s (nI L.length) (nI (t + 1)) a_px a_py a_byX a_rowHead a_rowNext a_cell a_quad a_quadX a_quadY a_quadSide a_treeLow a_treeHigh a_splitsByY a_lessX a_lessY a_slice (w) a_waitingGap := fun hz => ih (t + 1) L s F w (by omega) (by omega) hK2 hs (zj_drop hJ hz)
      refine br_f (nI_nle (n := L.length + 1) (by omega) (by omega)) (nm_r (pk_m1 _) ⟨zx_i341 (by omega), nm_r ewc ⟨zx_i341 hn, ?_⟩⟩)
      rw [en, q1, q2, q3]
      refine br_c (fun z => nm_r (nI_1 t) (hdrop (fun k hk hX hm => ?_))) (fun _ => zx_misses hL hlo hhi hn (fun hz => br_f zn_z1 (nm_r (nI_1 t) (hdrop (fun k hk hX hm => hz _ _ hm ((Bool.and_eq_true _ _).mp hX).2)))) (br_t rfl ⟨zx_i341 hn, zx_i341 hn, zx_i341 hn, ?_⟩))
      · have h1 : (al k && zq_in n (cx k) (cy k)) = false := zs_e hq z hk
        rw [((Bool.and_eq_true _ _).mp hX).1, hm] at h1
        exact absurd h1 (by decide)
      · refine zx_covers hlo hhi (by omega) (by omega) (by omega) (fun hcov => br_f zn_z1 ⟨zx_i341 hn, nm_e (nm_r (nI_1 t) (ih (t + 1) L _ _ w (by omega) (by omega) hK2 (zs_or hs hq) (zj_take hJ (fun k hk z => ?_) (fun k hk z => ?_) (fun k hk z1 z2 => ?_))))⟩) (br_t rfl (pk_lt n 85 (fun z => ⟨5, ?_⟩) (fun z => ⟨zx_i341 hn, zx_insideOf hP hb hq hlo hhi (fun r hr => nm_e (nm_r (nI_1 t) (ih (t + 1) L _ _ w (by omega) (by omega) hK2 (zs_or hs hr) (zj_take hJ (fun k hk z => ?_) (fun k hk z => ?_) (fun k hk z1 z2 => ?_)))))⟩)))
        · show (F k || _) = true
          rw [z]; rfl
        · rcases (Bool.or_eq_true _ _).mp z with z1 | z1
          · exact hJ.1 k hk z1
          · have z2 := (Bool.and_eq_true _ _).mp z1
            have z3 := (zq_iff _ _ _).mp z2.2
            show (al k && zp_in lo hi (cx k) (cy k)) = true
            rw [z2.1, hcov (cx k) (cy k) z3.1.1 z3.1.2 z3.2.1 z3.2.2]; rfl
        · show (F k || (al k && zq_in n (cx k) (cy k))) = true
          rw [((Bool.and_eq_true _ _).mp z1).1, z2]; simp
        · have hc : ∀ q, q < 4 → 4 * n + 1 + q < 341 := fun q hq4 => by omega
          have h4 := zq_w4 n z
          have w0 := zq_w1 (4 * n + 1 + 0)
          have w1 := zq_w1 (4 * n + 1 + 1)
          have w2 := zq_w1 (4 * n + 1 + 2)
          have w3 := zq_w1 (4 * n + 1 + 3)
          refine zx_qp (q := 0) (by omega) (by omega) (zx_qp (q := 1) (by omega) (by omega) (zx_qp (q := 2) (by omega) (by omega) (zx_qp (q := 3) (by omega) (by omega) ?_)))
          refine br_t (nI_le (a := 4) (Nat.le_refl _) (by omega)) (nm_r (nI_1 t) (ih (t + 1) ((4 * n + 1 + 3) :: (4 * n + 1 + 2) :: (4 * n + 1 + 1) :: (4 * n + 1 + 0) :: L) s F _ (by omega) ?_ (zx_kq (zx_kq (zx_kq (zx_kq hK2 (hc 0 (by omega))) (hc 1 (by omega))) (hc 2 (by omega))) (hc 3 (by omega))) hs (zj_mv hJ (fun _ _ z => z) hJ.1 (fun k l hk hX hl hm => ?_))))
          · show zq_w (4 * n + 1 + 3) + (zq_w (4 * n + 1 + 2) + (zq_w (4 * n + 1 + 1) + (zq_w (4 * n + 1 + 0) + zk_N zq_w L))) + (t + 1) ≤ 341
            omega
          · rcases List.mem_cons.mp hl with e | e
            · subst e
              have hr4 := zq_r4 l (cx k) (cy k)
              have hin := (zq_ch z hr4 (cx k) (cy k)).mpr ⟨hm, rfl⟩
              generalize zq_rx l (cx k) + zq_ry l (cy k) = q at *
              refine Or.inr ⟨4 * l + 1 + q, ?_, hin⟩
              have hc4 : q = 0 ∨ q = 1 ∨ q = 2 ∨ q = 3 := by omega
              rcases hc4 with e | e | e | e <;> subst e <;> simp
            · exact Or.inr ⟨l, by simp [e], hm⟩
        · show (F k || _) = true
          rw [z]; rfl
        · rcases (Bool.or_eq_true _ _).mp z with z1 | z1
          · exact hJ.1 k hk z1
          · have z2 := (Bool.and_eq_true _ _).mp z1
            have z3 := (Bool.and_eq_true _ _).mp z2.1
            show (al k && zp_in lo hi (cx k) (cy k)) = true
            rw [z3.1, z2.2]; rfl
        · show (F k || ((al k && zq_in n (cx k) (cy k)) && zp_in lo hi (cx k) (cy k))) = true
          rw [((Bool.and_eq_true _ _).mp z1).1, z2, ((Bool.and_eq_true _ _).mp z1).2]; simp
theorem zx_insideQuads {post : Int32 → SX → Prop} (hP : zr_P cx cy a_px a_py) (hb : zr_b cx cy) (hL : zr_L a_quadX a_quadY a_quadSide) (hQ : zr_Q al cx cy a_quad) {lo hi : Nat} (hlo : lo < 4096) (hhi : hi < 4096)
    (h : ∀ r w, zs_S r (fun k => al k && zp_in lo hi (cx k) (cy k)) → post r (f_live, f_held, f_treeRoot, a_px, a_py, a_byX, a_rowHead, a_rowNext, a_cell, a_quad, a_quadX, a_quadY, a_quadSide, a_treeLow, a_treeHigh, a_splitsByY, a_lessX, a_lessY, a_slice, w, a_waitingGap)) : wpX_insideQuads post (f_live, f_held, f_treeRoot, a_px, a_py, a_byX, a_rowHead, a_rowNext, a_cell, a_quad, a_quadX, a_quadY, a_quadSide, a_treeLow, a_treeHigh, a_splitsByY, a_lessX, a_lessY, a_slice, a_waiting, a_waitingGap) (nI lo) (nI hi) := by
  refine nm_e ⟨342, zx_q15 hP hb hL hQ hlo hhi h 341 0 [0] 0 (fun _ => false) _ rfl (by decide) ⟨⟨by omega, pk_us⟩, trivial⟩ zs_0 ⟨fun k _ z => absurd (show false = true from z) (by decide), fun k _ _ => Or.inr ⟨0, by simp, zq_0 (hb k).1 (hb k).2⟩⟩⟩
end
end
section
/-! ===== the component: the k-d tree searched ===== -/
section
variable {f_live f_held f_treeRoot : Int32} {a_px a_py a_byX a_rowHead a_rowNext a_cell a_quad a_quadX a_quadY a_quadSide a_treeLow a_treeHigh a_splitsByY a_lessX a_lessY a_slice a_waiting a_waitingGap : Nat → Int32} {al : Nat → Bool} {cx cy : Nat → Nat}
theorem zx_push {post : Int32 → SX → Prop} {node g : Int32} {top : Nat} (ht : ¬ node = -1 → top < 28) (hn : node = -1 → post (nI top) (f_live, f_held, f_treeRoot, a_px, a_py, a_byX, a_rowHead, a_rowNext, a_cell, a_quad, a_quadX, a_quadY, a_quadSide, a_treeLow, a_treeHigh, a_splitsByY, a_lessX, a_lessY, a_slice, a_waiting, a_waitingGap)) (hy : ¬ node = -1 → post (nI (top + 1)) (f_live, f_held, f_treeRoot, a_px, a_py, a_byX, a_rowHead, a_rowNext, a_cell, a_quad, a_quadX, a_quadY, a_quadSide, a_treeLow, a_treeHigh, a_splitsByY, a_lessX, a_lessY, a_slice, upd a_waiting top node, upd a_waitingGap top g)) : wpX_pushTree post (f_live, f_held, f_treeRoot, a_px, a_py, a_byX, a_rowHead, a_rowNext, a_cell, a_quad, a_quadX, a_quadY, a_quadSide, a_treeLow, a_treeHigh, a_splitsByY, a_lessX, a_lessY, a_slice, a_waiting, a_waitingGap) node g (nI top) := by
  refine br_c hn (fun z => ?_)
  have ht2 := ht z
  have e : (nI top).toNatClampNeg = top := nI_clamp (by omega)
  refine br_t (nI_lt (b := 28) ht2 (by omega)) ⟨zx_i341 (by omega), nm_r (e' := upd a_waiting top node) (by rw [e]) ⟨zx_i28 ht2, nm_r (e' := upd a_waitingGap top g) (by rw [e]) ?_⟩⟩
  rw [nI_1]
  exact hy z
/-- a subtree is pushed: nothing, if it is empty -/
theorem zx_pu {post : Int32 → SX → Prop} {q : Nat → Nat} {L : List (List Nat)} {A : List Nat} {f dd : Nat} {b : Bool} {r gp : Int32} (hK : zk_K (zt_X al cx cy q a_treeLow a_treeHigh a_splitsByY a_waiting a_waitingGap) L) (hT : zt_T cx cy a_treeLow a_treeHigh a_splitsByY f A b r) (hA : ∀ j, j ∈ A → j < 28 ∧ al j = true) (hl : A ≠ [] → L.length < 28) (hd : dd ≤ 8192) (hg : gp * gp = nI dd) (hq : ∀ j, j ∈ A → dd ≤ q j)
    (h : ∀ L' w g, zk_K (zt_X al cx cy q a_treeLow a_treeHigh a_splitsByY w g) L' → (∀ k l, l ∈ L' → k ∈ l → k ∈ A ∨ ∃ l2, l2 ∈ L ∧ k ∈ l2) → (∀ k, (k ∈ A ∨ ∃ l, l ∈ L ∧ k ∈ l) → ∃ l, l ∈ L' ∧ k ∈ l) → zk_N List.length L' = A.length + zk_N List.length L → post (nI L'.length) (f_live, f_held, f_treeRoot, a_px, a_py, a_byX, a_rowHead, a_rowNext, a_cell, a_quad, a_quadX, a_quadY, a_quadSide, a_treeLow, a_treeHigh, a_splitsByY, a_lessX, a_lessY, a_slice, w, g)) : wpX_pushTree post (f_live, f_held, f_treeRoot, a_px, a_py, a_byX, a_rowHead, a_rowNext, a_cell, a_quad, a_quadX, a_quadY, a_quadSide, a_treeLow, a_treeHigh, a_splitsByY, a_lessX, a_lessY, a_slice, a_waiting, a_waitingGap) r gp (nI L.length) := by
  have hne : ¬ r = -1 → A ≠ [] := fun z e => z (by subst e; exact zt_nil hT)
  refine zx_push (fun z => hl (hne z)) (fun z => ?_) (fun z => ?_)
  · have e := zt_ne hT z (fun j hj => (hA j hj).1)
    subst e
    refine h L _ _ hK (fun k l z1 z2 => Or.inr ⟨l, z1, z2⟩) (fun k z1 => ?_) (by simp)
    rcases z1 with z1 | z1
    · exact absurd z1 (by simp)
    · exact z1
  · refine h (A :: L) _ _ ⟨⟨⟨hne z, hA, f, b, ?_⟩, dd, hd, ?_, hq⟩, zt_Xf (Nat.le_refl _) hK⟩ (fun k l z1 z2 => ?_) (fun k z1 => ?_) rfl
    · rw [pk_us]; exact hT
    · rw [pk_us]; exact hg
    · rcases List.mem_cons.mp z1 with e | e
      · subst e; exact Or.inl z2
      · exact Or.inr ⟨l, e, z2⟩
    · rcases z1 with z1 | ⟨l, z1, z2⟩
      · exact ⟨A, by simp, z1⟩
      · exact ⟨l, by simp [z1], z2⟩
theorem zx_00 : (0 : Int32) * 0 = nI 0 := by decide
/-- from the choice of sides on, for a rectangle -/
theorem zx_t132 {post : Int32 → SX → Prop} {J : Int32 → Int32 → Int32 → Int32 → Int32 → Int32 → (Nat → Int32) → (Nat → Int32) → (Nat → Int32) → (Nat → Int32) → (Nat → Int32) → (Nat → Int32) → (Nat → Int32) → (Nat → Int32) → (Nat → Int32) → (Nat → Int32) → (Nat → Int32) → (Nat → Int32) → (Nat → Int32) → (Nat → Int32) → (Nat → Int32) → (Nat → Int32) → (Nat → Int32) → (Nat → Int32) → Prop} {x1 x2 s : Int32} {L : List (List Nat)} {A B : List Nat} {m t sp le mo f : Nat} {b : Bool} (hm : m < 28)
    (hK : zk_K (zt_X al cx cy (fun _ => 0) a_treeLow a_treeHigh a_splitsByY a_waiting a_waitingGap) L) (hTA : zt_T cx cy a_treeLow a_treeHigh a_splitsByY f A b (a_treeLow m)) (hTB : zt_T cx cy a_treeLow a_treeHigh a_splitsByY f B b (a_treeHigh m))
    (hA : ∀ j, j ∈ A → j < 28 ∧ al j = true) (hB : ∀ j, j ∈ B → j < 28 ∧ al j = true) (hl : A.length + B.length + zk_N List.length L ≤ 28) (hsp : sp < 64) (hle : le < 64) (hmo : mo < 64)
    (h : ∀ L' w g, zk_K (zt_X al cx cy (fun _ => 0) a_treeLow a_treeHigh a_splitsByY w g) L' → (∀ k, ((k ∈ A ∧ le < sp) ∨ (k ∈ B ∧ sp ≤ mo) ∨ ∃ l, l ∈ L ∧ k ∈ l) → ∃ l, l ∈ L' ∧ k ∈ l) → zk_N List.length L' ≤ A.length + B.length + zk_N List.length L → J s (nI L'.length) (nI (t + 1)) f_live f_held f_treeRoot a_px a_py a_byX a_rowHead a_rowNext a_cell a_quad a_quadX a_quadY a_quadSide a_treeLow a_treeHigh a_splitsByY a_lessX a_lessY a_slice (w) (g)) :
    wX_insideTree_132 post J x1 x2 s (nI L.length) (nI t) (nI m) (nI sp) (nI le) (nI mo) f_live f_held f_treeRoot a_px a_py a_byX a_rowHead a_rowNext a_cell a_quad a_quadX a_quadY a_quadSide a_treeLow a_treeHigh a_splitsByY a_lessX a_lessY a_slice a_waiting a_waitingGap := by
  have e : (nI m).toNatClampNeg = m := nI_clamp (by omega)
  have hLn := zt_N2 hK
  have hpos : ∀ C : List Nat, C ≠ [] → 1 ≤ C.length := fun C hC => by
    cases C with
    | nil => exact absurd rfl hC
    | cons a C => simp
  -- the high side, behind any low side
  have key : ∀ (L1 : List (List Nat)) (w g : Nat → Int32), zk_K (zt_X al cx cy (fun _ => 0) a_treeLow a_treeHigh a_splitsByY w g) L1 → (∀ k, ((k ∈ A ∧ le < sp) ∨ ∃ l, l ∈ L ∧ k ∈ l) → ∃ l, l ∈ L1 ∧ k ∈ l) → zk_N List.length L1 ≤ A.length + zk_N List.length L →
      wX_insideTree_157 post J x1 x2 s (nI L1.length) (nI t) (nI m) (nI sp) (nI mo) f_live f_held f_treeRoot a_px a_py a_byX a_rowHead a_rowNext a_cell a_quad a_quadX a_quadY a_quadSide a_treeLow a_treeHigh a_splitsByY a_lessX a_lessY a_slice (w) (g) := by
    intro L1 w g k1 k2 k3
    have hL1 := zt_N2 k1
    refine pk_lt mo sp (fun z => nm_r (nI_1 t) (h L1 w g k1 (fun k z1 => ?_) (by omega))) (fun z => ⟨zx_i28 hm, ?_⟩)
    · rcases z1 with z1 | z1 | z1
      · exact k2 k (Or.inl z1)
      · exact absurd z1.2 (by omega)
      · exact k2 k (Or.inr z1)
    · rw [e]
      refine zx_pu k1 hTB hB (fun z1 => by have := hpos B z1; omega) (by omega) zx_00 (fun _ _ => Nat.le_refl 0) (fun L' w' g' q1 q2 q3 q4 => nm_r (nI_1 t) (h L' w' g' q1 (fun k z1 => ?_) (by omega)))
      rcases z1 with z1 | z1 | z1
      · exact q3 k (Or.inr (k2 k (Or.inl z1)))
      · exact q3 k (Or.inl z1.1)
      · exact q3 k (Or.inr (k2 k (Or.inr z1)))
  refine pk_le sp le (fun z => key L _ _ hK (fun k z1 => ?_) (by omega)) (fun z => ⟨zx_i28 hm, ?_⟩)
  · rcases z1 with z1 | z1
    · exact absurd z1.2 (by omega)
    · exact z1
  · rw [e]
    refine zx_pu hK hTA hA (fun z1 => by have := hpos A z1; omega) (by omega) zx_00 (fun _ _ => Nat.le_refl 0) (fun L' w' g' q1 q2 q3 q4 => key L' w' g' q1 (fun k z1 => ?_) (by omega))
    rcases z1 with z1 | z1
    · exact q3 k (Or.inl z1.1)
    · exact q3 k (Or.inr z1)
theorem zx_t59 {post : Int32 → SX → Prop} {J : Int32 → Int32 → Int32 → Int32 → Int32 → Int32 → (Nat → Int32) → (Nat → Int32) → (Nat → Int32) → (Nat → Int32) → (Nat → Int32) → (Nat → Int32) → (Nat → Int32) → (Nat → Int32) → (Nat → Int32) → (Nat → Int32) → (Nat → Int32) → (Nat → Int32) → (Nat → Int32) → (Nat → Int32) → (Nat → Int32) → (Nat → Int32) → (Nat → Int32) → (Nat → Int32) → Prop} {s : Int32} {L : List (List Nat)} {T : List Nat} {m t f lo hi : Nat} {b : Bool} (hP : zr_P cx cy a_px a_py) (hb : zr_b cx cy) (hm : m < 28) (hlo : lo < 4096) (hhi : hi < 4096)
    (hK : zk_K (zt_X al cx cy (fun _ => 0) a_treeLow a_treeHigh a_splitsByY a_waiting a_waitingGap) L) (hsy : a_splitsByY m = zt_b b) (hTA : zt_T cx cy a_treeLow a_treeHigh a_splitsByY f (T.filter (zt_lt cx cy b m)) (!b) (a_treeLow m)) (hTB : zt_T cx cy a_treeLow a_treeHigh a_splitsByY f (T.filter (zt_ge cx cy b m)) (!b) (a_treeHigh m))
    (hT : ∀ j, j ∈ T → j < 28 ∧ al j = true) (hl : T.length + zk_N List.length L ≤ 28)
    (h : ∀ L' w g, zk_K (zt_X al cx cy (fun _ => 0) a_treeLow a_treeHigh a_splitsByY w g) L' → (∀ k, zp_in lo hi (cx k) (cy k) = true → (k ∈ T ∨ ∃ l, l ∈ L ∧ k ∈ l) → ∃ l, l ∈ L' ∧ k ∈ l) → zk_N List.length L' ≤ T.length + zk_N List.length L → J s (nI L'.length) (nI (t + 1)) f_live f_held f_treeRoot a_px a_py a_byX a_rowHead a_rowNext a_cell a_quad a_quadX a_quadY a_quadSide a_treeLow a_treeHigh a_splitsByY a_lessX a_lessY a_slice (w) (g)) :
    wX_insideTree_59 post J (nI lo) (nI hi) s (nI L.length) (nI t) (nI m) f_live f_held f_treeRoot a_px a_py a_byX a_rowHead a_rowNext a_cell a_quad a_quadX a_quadY a_quadSide a_treeLow a_treeHigh a_splitsByY a_lessX a_lessY a_slice a_waiting a_waitingGap := by
  have e : (nI m).toNatClampNeg = m := nI_clamp (by omega)
  have hbm := hb m
  have hln := zt_ln cx cy b m T
  have key : wX_insideTree_132 post J (nI lo) (nI hi) s (nI L.length) (nI t) (nI m) (nI (zt_c b (cx m) (cy m))) (nI (zt_c b (lo % 64) (lo / 64))) (nI (zt_c b (hi % 64) (hi / 64))) f_live f_held f_treeRoot a_px a_py a_byX a_rowHead a_rowNext a_cell a_quad a_quadX a_quadY a_quadSide a_treeLow a_treeHigh a_splitsByY a_lessX a_lessY a_slice a_waiting a_waitingGap := by
    refine zx_t132 hm hK hTA hTB (fun j hj => hT j (List.mem_filter.mp hj).1) (fun j hj => hT j (List.mem_filter.mp hj).1) (by omega) (by unfold zt_c; split <;> omega) (by unfold zt_c; split <;> omega) (by unfold zt_c; split <;> omega) (fun L' w g q1 q2 q3 => h L' w g q1 (fun k z1 z2 => ?_) (by omega))
    rcases z2 with z2 | z2
    · rcases zt_mm cx cy b m z2 with z3 | z3
      · refine q2 k (Or.inl ⟨z3, ?_⟩)
        apply Classical.byContradiction
        intro z4
        exact zt_plo z3 (by omega) z1
      · refine q2 k (Or.inr (Or.inl ⟨z3, ?_⟩))
        apply Classical.byContradiction
        intro z4
        exact zt_phi z3 (by omega) z1
    · exact q2 k (Or.inr (Or.inr z2))
  cases b
  · have hsy0 : a_splitsByY (nI m).toNatClampNeg = 0 := by rw [e]; exact hsy
    refine ⟨zx_i28 hm, br_t hsy0 ⟨zx_i28 hm, ?_⟩⟩
    rw [zx_pxI hP hm]
    refine ⟨zx_i28 hm, br_t hsy0 (zx_xOf hlo ⟨zx_i28 hm, br_t hsy0 (zx_xOf hhi key)⟩)⟩
  · have hsy1 : ¬ a_splitsByY (nI m).toNatClampNeg = 0 := by rw [e, hsy]; decide
    refine ⟨zx_i28 hm, br_f hsy1 ⟨zx_i28 hm, ?_⟩⟩
    rw [zx_pyI hP hm]
    refine ⟨zx_i28 hm, br_f hsy1 (zx_yOf hlo ⟨zx_i28 hm, br_f hsy1 (zx_yOf hhi key)⟩)⟩
theorem zx_t17 {post : Int32 → SX → Prop} {lo hi : Nat} (hP : zr_P cx cy a_px a_py) (hb : zr_b cx cy) (hlo : lo < 4096) (hhi : hi < 4096)
    (h : ∀ r w g, zs_S r (fun k => al k && zp_in lo hi (cx k) (cy k)) → post r (f_live, f_held, f_treeRoot, a_px, a_py, a_byX, a_rowHead, a_rowNext, a_cell, a_quad, a_quadX, a_quadY, a_quadSide, a_treeLow, a_treeHigh, a_splitsByY, a_lessX, a_lessY, a_slice, w, g)) :
    ∀ d t (L : List (List Nat)) s (F : Nat → Bool) (w g : Nat → Int32), t + d = 28 → zk_N List.length L + t ≤ 28 → zk_K (zt_X al cx cy (fun _ => 0) a_treeLow a_treeHigh a_splitsByY w g) L → zs_S s F → zj_J (fun k => al k && zp_in lo hi (cx k) (cy k)) (fun l k => k ∈ l) F L → wX_insideTree_17 post (nI lo) (nI hi) (d + 1) s (nI L.length) (nI t) f_live f_held f_treeRoot a_px a_py a_byX a_rowHead a_rowNext a_cell a_quad a_quadX a_quadY a_quadSide a_treeLow a_treeHigh a_splitsByY a_lessX a_lessY a_slice (w) (g) := by
  intro d
  induction d with
  | zero =>
    intro t L s F w g ht hN hK hs hJ
    have hlen := zt_N2 hK
    have e : t = 28 := by omega
    have e2 : L = [] := List.eq_nil_of_length_eq_zero (by omega)
    subst e e2
    exact br_t zn_28t (h s w g (zs_cg hs (zj_end hJ)))
  | succ d ih =>
    intro t L s F w g ht hN hK hs hJ
    refine br_f (zn_28f (by omega)) ?_
    cases L with
    | nil => exact br_t (show nI 0 ≤ 0 by decide) (h s w g (zs_cg hs (zj_end hJ)))
    | cons l L =>
      have hLn := zt_N2 hK.2
      obtain ⟨⟨⟨hne, hal, f, b, hT⟩, _⟩, hK2⟩ := hK
      cases l with
      | nil => exact absurd rfl hne
      | cons m T =>
        have eN : zk_N List.length ((m :: T) :: L) = (T.length + 1) + zk_N List.length L := rfl
        obtain ⟨f', ef, er, hsy, hTA, hTB⟩ := zt_hd hT
        have hm := hal m (by simp)
        have ew : w (nI L.length).toNatClampNeg = nI m := by rw [nI_clamp (by omega)]; exact er
        refine br_f (nI_nle (n := L.length + 1) (by omega) (by omega)) (nm_r (pk_m1 _) ⟨zx_i341 (by omega), nm_r ew ?_⟩)
        refine zx_isIn hP hb hm.1 hlo hhi (fun z => br_f zn_z1 (nm_e (zx_t59 hP hb hm.1 hlo hhi hK2 hsy hTA hTB (fun j hj => hal j (by simp [hj])) (by omega) (fun L' w' g' q1 q2 q3 => ih (t + 1) L' _ _ w' g' (by omega) (by omega) q1 (zs_set hs hm.1) (zj_mv hJ (fun k hk z1 => ?_) (fun k hk z1 => ?_) (fun k l hk z1 z2 z3 => ?_)))))) (fun z => br_t rfl (zx_t59 hP hb hm.1 hlo hhi hK2 hsy hTA hTB (fun j hj => hal j (by simp [hj])) (by omega) (fun L' w' g' q1 q2 q3 => ih (t + 1) L' _ _ w' g' (by omega) (by omega) q1 hs (zj_mv hJ (fun k hk z1 => z1) hJ.1 (fun k l hk z1 z2 z3 => ?_)))))
        · show (F k || decide (k = m)) = true
          rw [z1]; rfl
        · rcases (Bool.or_eq_true _ _).mp z1 with z2 | z2
          · exact hJ.1 k hk z2
          · have e : k = m := of_decide_eq_true z2
            show (al k && zp_in lo hi (cx k) (cy k)) = true
            rw [e, hm.2, z]; rfl
        · have zX := ((Bool.and_eq_true _ _).mp z1).2
          rcases List.mem_cons.mp z2 with e | e
          · subst e
            rcases List.mem_cons.mp z3 with e | e
            · left
              show (F k || decide (k = m)) = true
              rw [decide_eq_true e]; simp
            · exact Or.inr (q2 k zX (Or.inl e))
          · exact Or.inr (q2 k zX (Or.inr ⟨l, e, z3⟩))
        · have zX := ((Bool.and_eq_true _ _).mp z1).2
          rcases List.mem_cons.mp z2 with e | e
          · subst e
            rcases List.mem_cons.mp z3 with e | e
            · subst e
              rw [z] at zX
              exact absurd zX (by decide)
            · exact Or.inr (q2 k zX (Or.inl e))
          · exact Or.inr (q2 k zX (Or.inr ⟨l, e, z3⟩))
theorem zx_insideTree {post : Int32 → SX → Prop} {lo hi : Nat} (hP : zr_P cx cy a_px a_py) (hb : zr_b cx cy) (hT : zr_T al cx cy f_treeRoot a_treeLow a_treeHigh a_splitsByY) (hlo : lo < 4096) (hhi : hi < 4096)
    (h : ∀ r w g, zs_S r (fun k => al k && zp_in lo hi (cx k) (cy k)) → post r (f_live, f_held, f_treeRoot, a_px, a_py, a_byX, a_rowHead, a_rowNext, a_cell, a_quad, a_quadX, a_quadY, a_quadSide, a_treeLow, a_treeHigh, a_splitsByY, a_lessX, a_lessY, a_slice, w, g)) : wpX_insideTree post (f_live, f_held, f_treeRoot, a_px, a_py, a_byX, a_rowHead, a_rowNext, a_cell, a_quad, a_quadX, a_quadY, a_quadSide, a_treeLow, a_treeHigh, a_splitsByY, a_lessX, a_lessY, a_slice, a_waiting, a_waitingGap) (nI lo) (nI hi) := by
  unfold wpX_insideTree
  obtain ⟨T, f, hM, hT2⟩ := hT
  have hlen := zl_len hM
  refine zx_pu (q := fun _ => 0) (L := []) (dd := 0) trivial hT2 (fun j hj => (hM.2 j).mp hj) (fun _ => by decide) (by omega) zx_00 (fun _ _ => Nat.le_refl 0) (fun L' w g q1 q2 q3 q4 => ⟨29, zx_t17 hP hb hlo hhi h 28 0 L' 0 (fun _ => false) w g rfl ?_ q1 zs_0 ⟨fun k _ z => absurd (show false = true from z) (by decide), fun k hk z => Or.inr (q3 k (Or.inl ?_))⟩⟩)
  · rw [q4]
    show T.length + 0 + 0 ≤ 28
    omega
  · exact (hM.2 k).mpr ⟨hk, ((Bool.and_eq_true _ _).mp z).1⟩
/-! the nearest by the tree -/
theorem zn_sg {a b : Nat} (ha : a < 64) (hb : b < 64) {A B : Prop} (f : b ≤ a → A) (g : a < b → B) : (0 ≤ nI a - nI b → A) ∧ (¬ 0 ≤ nI a - nI b → B) := by
  by_cases h : b ≤ a
  · refine br_t ?_ (f h)
    rw [pk_sub h]
    exact nI_pos' (by omega)
  · exact br_f (Int32.not_le.mpr (pk_sneg (by omega) (by omega))) (g (by omega))
theorem zx_n151 {post : Int32 → SX → Prop} {J : Int32 → Int32 → Int32 → Int32 → Int32 → Int32 → (Nat → Int32) → (Nat → Int32) → (Nat → Int32) → (Nat → Int32) → (Nat → Int32) → (Nat → Int32) → (Nat → Int32) → (Nat → Int32) → (Nat → Int32) → (Nat → Int32) → (Nat → Int32) → (Nat → Int32) → (Nat → Int32) → (Nat → Int32) → (Nat → Int32) → (Nat → Int32) → (Nat → Int32) → (Nat → Int32) → Prop} {x1 best g7 g6 rA rB : Int32} {q : Nat → Nat} {L : List (List Nat)} {A B : List Nat} {t f dA dB : Nat} {b : Bool}
    (hK : zk_K (zt_X al cx cy q a_treeLow a_treeHigh a_splitsByY a_waiting a_waitingGap) L) (hTA : zt_T cx cy a_treeLow a_treeHigh a_splitsByY f A b rA) (hTB : zt_T cx cy a_treeLow a_treeHigh a_splitsByY f B b rB)
    (hA : ∀ j, j ∈ A → j < 28 ∧ al j = true) (hB : ∀ j, j ∈ B → j < 28 ∧ al j = true) (hl : A.length + B.length + zk_N List.length L ≤ 28)
    (hdA : dA ≤ 8192) (hgA : g7 * g7 = nI dA) (hqA : ∀ j, j ∈ A → dA ≤ q j) (hdB : dB ≤ 8192) (hgB : g6 * g6 = nI dB) (hqB : ∀ j, j ∈ B → dB ≤ q j)
    (h : ∀ L' w g, zk_K (zt_X al cx cy q a_treeLow a_treeHigh a_splitsByY w g) L' → (∀ k, (k ∈ A ∨ k ∈ B ∨ ∃ l, l ∈ L ∧ k ∈ l) → ∃ l, l ∈ L' ∧ k ∈ l) → zk_N List.length L' ≤ A.length + B.length + zk_N List.length L → J best (nI L'.length) (nI (t + 1)) f_live f_held f_treeRoot a_px a_py a_byX a_rowHead a_rowNext a_cell a_quad a_quadX a_quadY a_quadSide a_treeLow a_treeHigh a_splitsByY a_lessX a_lessY a_slice (w) (g)) :
    wX_nearestTree_151 post J x1 best (nI L.length) (nI t) g6 g7 rA rB f_live f_held f_treeRoot a_px a_py a_byX a_rowHead a_rowNext a_cell a_quad a_quadX a_quadY a_quadSide a_treeLow a_treeHigh a_splitsByY a_lessX a_lessY a_slice a_waiting a_waitingGap := by
  have hLn := zt_N2 hK
  have hpos : ∀ C : List Nat, C ≠ [] → 1 ≤ C.length := fun C hC => by
    cases C with
    | nil => exact absurd rfl hC
    | cons a C => simp
  unfold wX_nearestTree_151
  refine zx_pu hK hTA hA (fun z1 => by have := hpos A z1; omega) hdA hgA hqA (fun L1 w1 g1 q1 q2 q3 q4 => ?_)
  have hL1 := zt_N2 q1
  refine zx_pu q1 hTB hB (fun z1 => by have := hpos B z1; omega) hdB hgB hqB (fun L2 w2 g2 p1 p2 p3 p4 => nm_r (nI_1 t) (h L2 w2 g2 p1 (fun k z => ?_) (by omega)))
  rcases z with z | z | z
  · exact p3 k (Or.inr (q3 k (Or.inl z)))
  · exact p3 k (Or.inl z)
  · exact p3 k (Or.inr (q3 k (Or.inr z)))
theorem zx_n103 {post : Int32 → SX → Prop} {J : Int32 → Int32 → Int32 → Int32 → Int32 → Int32 → (Nat → Int32) → (Nat → Int32) → (Nat → Int32) → (Nat → Int32) → (Nat → Int32) → (Nat → Int32) → (Nat → Int32) → (Nat → Int32) → (Nat → Int32) → (Nat → Int32) → (Nat → Int32) → (Nat → Int32) → (Nat → Int32) → (Nat → Int32) → (Nat → Int32) → (Nat → Int32) → (Nat → Int32) → (Nat → Int32) → Prop} {x1 best g6 : Int32} {L : List (List Nat)} {T : List Nat} {p m t f dB : Nat} {b : Bool} (hb : zr_b cx cy) (hm : m < 28) (hp : p < 4096)
    (hK : zk_K (zt_X al cx cy (zp_f cx cy p) a_treeLow a_treeHigh a_splitsByY a_waiting a_waitingGap) L) (hTA : zt_T cx cy a_treeLow a_treeHigh a_splitsByY f (T.filter (zt_lt cx cy b m)) (!b) (a_treeLow m)) (hTB : zt_T cx cy a_treeLow a_treeHigh a_splitsByY f (T.filter (zt_ge cx cy b m)) (!b) (a_treeHigh m))
    (hT : ∀ j, j ∈ T → j < 28 ∧ al j = true) (hl : T.length + zk_N List.length L ≤ 28) (hdB : dB ≤ 8192) (hgB : g6 * g6 = nI dB) (hqB : ∀ j, j ∈ T → dB ≤ zp_f cx cy p j)
    (h : ∀ L' w g, zk_K (zt_X al cx cy (zp_f cx cy p) a_treeLow a_treeHigh a_splitsByY w g) L' → (∀ k, (k ∈ T ∨ ∃ l, l ∈ L ∧ k ∈ l) → ∃ l, l ∈ L' ∧ k ∈ l) → zk_N List.length L' ≤ T.length + zk_N List.length L → J best (nI L'.length) (nI (t + 1)) f_live f_held f_treeRoot a_px a_py a_byX a_rowHead a_rowNext a_cell a_quad a_quadX a_quadY a_quadSide a_treeLow a_treeHigh a_splitsByY a_lessX a_lessY a_slice (w) (g)) :
    wX_nearestTree_103 post J x1 best (nI L.length) (nI t) (nI m) g6 (nI (zt_c b (p % 64) (p / 64)) - nI (zt_c b (cx m) (cy m))) f_live f_held f_treeRoot a_px a_py a_byX a_rowHead a_rowNext a_cell a_quad a_quadX a_quadY a_quadSide a_treeLow a_treeHigh a_splitsByY a_lessX a_lessY a_slice a_waiting a_waitingGap := by
  have e : (nI m).toNatClampNeg = m := nI_clamp (by omega)
  have hbm := hb m
  have hln := zt_ln cx cy b m T
  have h1 : zt_c b (p % 64) (p / 64) < 64 := by unfold zt_c; split <;> omega
  have h2 : zt_c b (cx m) (cy m) < 64 := by unfold zt_c; split <;> omega
  have hdd : zn_d (zt_c b (p % 64) (p / 64)) (zt_c b (cx m) (cy m)) * zn_d (zt_c b (p % 64) (p / 64)) (zt_c b (cx m) (cy m)) ≤ 8192 := by
    have := zn_sq (zn_dl h1 h2)
    omega
  have hcov : ∀ k, (k ∈ T ∨ ∃ l, l ∈ L ∧ k ∈ l) → k ∈ T.filter (zt_lt cx cy b m) ∨ k ∈ T.filter (zt_ge cx cy b m) ∨ ∃ l, l ∈ L ∧ k ∈ l := fun k z => by
    rcases z with z | z
    · rcases zt_mm cx cy b m z with z | z
      · exact Or.inl z
      · exact Or.inr (Or.inl z)
    · exact Or.inr (Or.inr z)
  have hcov2 : ∀ k, (k ∈ T ∨ ∃ l, l ∈ L ∧ k ∈ l) → k ∈ T.filter (zt_ge cx cy b m) ∨ k ∈ T.filter (zt_lt cx cy b m) ∨ ∃ l, l ∈ L ∧ k ∈ l := fun k z => by
    rcases hcov k z with z | z | z
    · exact Or.inr (Or.inl z)
    · exact Or.inl z
    · exact Or.inr (Or.inr z)
  refine zn_sg h1 h2 (fun z => ⟨zx_i28 hm, zn_sg h1 h2 (fun _ => ⟨zx_i28 hm, ?_⟩) (fun z2 => absurd z2 (by omega))⟩) (fun z => ⟨zx_i28 hm, zn_sg h1 h2 (fun z2 => absurd z2 (by omega)) (fun _ => ⟨zx_i28 hm, ?_⟩)⟩)
  · rw [e]
    exact zx_n151 hK hTA hTB (fun j hj => hT j (List.mem_filter.mp hj).1) (fun j hj => hT j (List.mem_filter.mp hj).1) (by omega) hdd (zn_dd _ _) (fun j hj => zt_flo hj z) hdB hgB (fun j hj => hqB j (List.mem_filter.mp hj).1) (fun L' w g q1 q2 q3 => h L' w g q1 (fun k z3 => q2 k (hcov k z3)) (by omega))
  · rw [e]
    exact zx_n151 hK hTB hTA (fun j hj => hT j (List.mem_filter.mp hj).1) (fun j hj => hT j (List.mem_filter.mp hj).1) (by omega) hdd (zn_dd _ _) (fun j hj => zt_fhi hj z) hdB hgB (fun j hj => hqB j (List.mem_filter.mp hj).1) (fun L' w g q1 q2 q3 => h L' w g q1 (fun k z3 => q2 k (hcov2 k z3)) (by omega))
theorem zx_n16 {post : Int32 → SX → Prop} {p : Nat} (hP : zr_P cx cy a_px a_py) (hb : zr_b cx cy) (hp : p < 4096)
    (h : ∀ r w g, zo_B al (zp_f cx cy p) r (fun k => al k = true) → post r (f_live, f_held, f_treeRoot, a_px, a_py, a_byX, a_rowHead, a_rowNext, a_cell, a_quad, a_quadX, a_quadY, a_quadSide, a_treeLow, a_treeHigh, a_splitsByY, a_lessX, a_lessY, a_slice, w, g)) :
    ∀ d t (L : List (List Nat)) best (w g : Nat → Int32), t + d = 28 → zk_N List.length L + t ≤ 28 → zk_K (zt_X al cx cy (zp_f cx cy p) a_treeLow a_treeHigh a_splitsByY w g) L → zo_B al (zp_f cx cy p) best (fun k => al k = true ∧ ∀ l, l ∈ L → k ∉ l) → wX_nearestTree_16 post (nI p) (d + 1) best (nI L.length) (nI t) f_live f_held f_treeRoot a_px a_py a_byX a_rowHead a_rowNext a_cell a_quad a_quadX a_quadY a_quadSide a_treeLow a_treeHigh a_splitsByY a_lessX a_lessY a_slice (w) (g) := by
  intro d
  induction d with
  | zero =>
    intro t L best w g ht hN hK hB
    have hlen := zt_N2 hK
    have e : t = 28 := by omega
    have e2 : L = [] := List.eq_nil_of_length_eq_zero (by omega)
    subst e e2
    exact br_t zn_28t (h best w g (zo_cg hB (fun k _ z => ⟨z, fun l hl => absurd hl (by simp)⟩)))
  | succ d ih =>
    intro t L best w g ht hN hK hB
    refine br_f (zn_28f (by omega)) ?_
    cases L with
    | nil => exact br_t (show nI 0 ≤ 0 by decide) (h best w g (zo_cg hB (fun k _ z => ⟨z, fun l hl => absurd hl (by simp)⟩)))
    | cons l L =>
      have hLn := zt_N2 hK.2
      obtain ⟨⟨⟨hne, hal, f, b, hT⟩, dd, hdd, hgg, hqq⟩, hK2⟩ := hK
      cases l with
      | nil => exact absurd rfl hne
      | cons m T =>
        have eN : zk_N List.length ((m :: T) :: L) = (T.length + 1) + zk_N List.length L := rfl
        obtain ⟨f', ef, er, hsy, hTA, hTB⟩ := zt_hd hT
        have hm := hal m (by simp)
        have em : (nI m).toNatClampNeg = m := nI_clamp (by omega)
        have ew : w (nI L.length).toNatClampNeg = nI m := by rw [nI_clamp (by omega)]; exact er
        have eg : g (nI L.length).toNatClampNeg = g L.length := by rw [nI_clamp (by omega)]
        refine br_f (nI_nle (n := L.length + 1) (by omega) (by omega)) (nm_r (pk_m1 _) ⟨zx_i341 (by omega), nm_r ew ⟨zx_i28 (by omega), nm_r eg ?_⟩⟩)
        refine zx_reach hP hb hp hB hdd hgg (br_f zn_z1 ?_) (fun hr => br_t rfl (nm_r (nI_1 t) (ih (t + 1) L best w g (by omega) (by omega) hK2 (zo_cut hB hr (fun k hk z => ?_)))))
        · refine zx_nearerOf hP hb hp hB hm.1 hm.2 (fun r hr => ⟨zx_i28 hm.1, ?_⟩)
          have key : wX_nearestTree_103 post (wX_nearestTree_16 post (nI p) (d + 1)) (nI p) r (nI L.length) (nI t) (nI m) (g L.length) (nI (zt_c b (p % 64) (p / 64)) - nI (zt_c b (cx m) (cy m))) f_live f_held f_treeRoot a_px a_py a_byX a_rowHead a_rowNext a_cell a_quad a_quadX a_quadY a_quadSide a_treeLow a_treeHigh a_splitsByY a_lessX a_lessY a_slice (w) (g) := by
            refine zx_n103 hb hm.1 hp hK2 hTA hTB (fun j hj => hal j (by simp [hj])) (by omega) hdd hgg (fun j hj => hqq j (by simp [hj])) (fun L' w' g' q1 q2 q3 => ih (t + 1) L' r w' g' (by omega) (by omega) q1 (zo_cg hr (fun k hk z => ?_)))
            by_cases e : k = m
            · exact Or.inr e
            · refine Or.inl ⟨z.1, fun l hl hkl => ?_⟩
              rcases List.mem_cons.mp hl with e2 | e2
              · subst e2
                rcases List.mem_cons.mp hkl with e3 | e3
                · exact e e3
                · obtain ⟨l', q5, q6⟩ := q2 k (Or.inl e3)
                  exact z.2 l' q5 q6
              · obtain ⟨l', q5, q6⟩ := q2 k (Or.inr ⟨l, e2, hkl⟩)
                exact z.2 l' q5 q6
          cases b
          · have hsy0 : a_splitsByY (nI m).toNatClampNeg = 0 := by rw [em]; exact hsy
            refine br_t hsy0 (zx_xOf hp ⟨zx_i28 hm.1, ?_⟩)
            rw [zx_pxI hP hm.1]
            exact key
          · have hsy1 : ¬ a_splitsByY (nI m).toNatClampNeg = 0 := by rw [em, hsy]; decide
            refine br_f hsy1 (zx_yOf hp ⟨zx_i28 hm.1, ?_⟩)
            rw [zx_pyI hP hm.1]
            exact key
        · by_cases e : k ∈ m :: T
          · exact Or.inr (hqq k e)
          · refine Or.inl ⟨z.1, fun l hl => ?_⟩
            rcases List.mem_cons.mp hl with e2 | e2
            · rw [e2]; exact e
            · exact z.2 l e2
theorem zx_nearestTree {post : Int32 → SX → Prop} {p : Nat} (hP : zr_P cx cy a_px a_py) (hb : zr_b cx cy) (hT : zr_T al cx cy f_treeRoot a_treeLow a_treeHigh a_splitsByY) (hp : p < 4096)
    (h : ∀ r w g, zo_B al (zp_f cx cy p) r (fun k => al k = true) → post r (f_live, f_held, f_treeRoot, a_px, a_py, a_byX, a_rowHead, a_rowNext, a_cell, a_quad, a_quadX, a_quadY, a_quadSide, a_treeLow, a_treeHigh, a_splitsByY, a_lessX, a_lessY, a_slice, w, g)) : wpX_nearestTree post (f_live, f_held, f_treeRoot, a_px, a_py, a_byX, a_rowHead, a_rowNext, a_cell, a_quad, a_quadX, a_quadY, a_quadSide, a_treeLow, a_treeHigh, a_splitsByY, a_lessX, a_lessY, a_slice, a_waiting, a_waitingGap) (nI p) := by
  unfold wpX_nearestTree
  obtain ⟨T, f, hM, hT2⟩ := hT
  have hlen := zl_len hM
  refine zx_pu (q := zp_f cx cy p) (L := []) (dd := 0) trivial hT2 (fun j hj => (hM.2 j).mp hj) (fun _ => by decide) (by omega) zx_00 (fun _ _ => Nat.zero_le _) (fun L' w g q1 q2 q3 q4 => ⟨29, zx_n16 hP hb hp h 28 0 L' (-1) w g rfl ?_ q1 (zo_0 _ _ (fun k hk z => ?_))⟩)
  · rw [q4]
    show T.length + 0 + 0 ≤ 28
    omega
  · obtain ⟨l, q5, q6⟩ := q3 k (Or.inl ((hM.2 k).mpr ⟨hk, z.1⟩))
    exact z.2 l q5 q6
end
end
section
/-! ===== the component: the nearest by the sorted list and by the grid ===== -/
section
variable {f_live f_held f_treeRoot : Int32} {a_px a_py a_byX a_rowHead a_rowNext a_cell a_quad a_quadX a_quadY a_quadSide a_treeLow a_treeHigh a_splitsByY a_lessX a_lessY a_slice a_waiting a_waitingGap : Nat → Int32} {al : Nat → Bool} {cx cy : Nat → Nat} {post : Int32 → Prop}
/-- the way down from d - 1 -/
theorem zx_s77 {S : List Nat} {p : Nat} (hP : zr_P cx cy a_px a_py) (hb : zr_b cx cy) (hS : zl_A a_byX 0 S) (hM : zl_M S al) (hpw : S.Pairwise (fun a b => cx a ≤ cx b)) (hp : p < 4096)
    (h : ∀ r, zo_B al (zp_f cx cy p) r (fun k => al k = true) → post r) :
    ∀ d best, d ≤ S.length → (∀ i, i < d → cx (zl_g S i) < p % 64) → zo_B al (zp_f cx cy p) best (fun k => ∃ j, d ≤ j ∧ j < S.length ∧ zl_g S j = k) → wX_nearestSorted_77 post (nI p) (nI (p % 64)) f_live f_held f_treeRoot a_px a_py a_byX a_rowHead a_rowNext a_cell a_quad a_quadX a_quadY a_quadSide a_treeLow a_treeHigh a_splitsByY a_lessX a_lessY a_slice a_waiting a_waitingGap (d + 1) best (zx_dec d) := by
  have hl := zl_len hM
  intro d
  induction d with
  | zero =>
    intro best _ _ hB
    refine br_t (by decide) (h best (zo_cg hB (fun k hk z => ?_)))
    obtain ⟨j, h1, h2⟩ := zl_gx S k ((hM.2 k).mpr ⟨hk, z⟩)
    exact ⟨j, by omega, h1, h2⟩
  | succ d ih =>
    intro best hd hlt hB
    have hdS : d < S.length := by omega
    have hg := zx_gm hM hdS
    have hbg := hb (zl_g S d)
    have e0 : zx_dec (d + 1) = nI d := rfl
    rw [e0]
    refine br_f (nI_pos (by omega)) ⟨zx_i28 (by omega), ?_⟩
    rw [zx_bx hS hM hdS, zx_pxI hP hg.1]
    have hq : zn_d (p % 64) (cx (zl_g S d)) * zn_d (p % 64) (cx (zl_g S d)) ≤ 8192 := by
      have := zn_sq (zn_dl (show p % 64 < 64 by omega) hbg.1)
      omega
    refine ⟨zx_i28 hg.1, zx_reach hP hb hp hB hq (zn_dd _ _) (br_f zn_z1 ⟨zx_i28 (by omega), ?_⟩) (fun hr => br_t rfl (h best (zo_cut hB hr (fun k hk z => ?_))))⟩
    · refine zx_nearerOf hP hb hp hB hg.1 hg.2 (fun r hr => nm_r (zx_dec1 d) (ih r (by omega) (fun i hi => hlt i (by omega)) (zo_cg hr (fun k hk z => ?_))))
      obtain ⟨j, h1, h2, h3⟩ := z
      by_cases e : j = d
      · subst e; exact Or.inr h3.symm
      · exact Or.inl ⟨j, by omega, h2, h3⟩
    · obtain ⟨j, h1, h2⟩ := zl_gx S k ((hM.2 k).mpr ⟨hk, z⟩)
      by_cases e : d + 1 ≤ j
      · exact Or.inl ⟨j, e, h1, h2⟩
      · right
        have h3 := zl_gs S hpw j d (by omega) hdS
        have h4 := hlt d (by omega)
        rw [h2] at h3
        exact zn_qx (by unfold zn_d; omega)
theorem zx_nearestSorted (hP : zr_P cx cy a_px a_py) (hb : zr_b cx cy) (hO : zr_O al cx f_held a_byX) {p : Nat} (hp : p < 4096) (h : ∀ r, zo_B al (zp_f cx cy p) r (fun k => al k = true) → post r) : wpX_nearestSorted post (f_live, f_held, f_treeRoot, a_px, a_py, a_byX, a_rowHead, a_rowNext, a_cell, a_quad, a_quadX, a_quadY, a_quadSide, a_treeLow, a_treeHigh, a_splitsByY, a_lessX, a_lessY, a_slice, a_waiting, a_waitingGap) (nI p) := by
  unfold wpX_nearestSorted
  obtain ⟨S, hM, hpw, he, hS⟩ := hO
  have hl := zl_len hM
  refine zx_xOf hp (zx_firstFrom hP hb hS hM hpw he (by omega) (fun f hf h1 h2 => ?_))
  subst he
  have hdown : ∀ best, zo_B al (zp_f cx cy p) best (fun k => ∃ j, f ≤ j ∧ j < S.length ∧ zl_g S j = k) → ∀ x5, x5 = nI f - 1 → ∃ n77, wX_nearestSorted_77 post (nI p) (nI (p % 64)) f_live (nI S.length) f_treeRoot a_px a_py a_byX a_rowHead a_rowNext a_cell a_quad a_quadX a_quadY a_quadSide a_treeLow a_treeHigh a_splitsByY a_lessX a_lessY a_slice a_waiting a_waitingGap n77 best x5 := fun best hB =>
    nm_r (zx_dec2 f) ⟨f + 1, zx_s77 hP hb hS hM hpw hp h f best hf h1 hB⟩
  refine pk_loop (fun n i s => wX_nearestSorted_17 post (nI p) (nI (p % 64)) (nI f) f_live (nI S.length) f_treeRoot a_px a_py a_byX a_rowHead a_rowNext a_cell a_quad a_quadX a_quadY a_quadSide a_treeLow a_treeHigh a_splitsByY a_lessX a_lessY a_slice a_waiting a_waitingGap n s (nI i)) (fun i s => f ≤ i ∧ zo_B al (zp_f cx cy p) s (fun k => ∃ j, f ≤ j ∧ j < i ∧ zl_g S j = k)) S.length f (-1) hf ⟨Nat.le_refl f, zo_0 _ _ (fun k hk z => ?_)⟩ (fun n s hs => ?_) (fun n i s hi hs K => ?_)
  · obtain ⟨j, z1, z2, _⟩ := z
    omega
  · exact br_t (nI_le (Nat.le_refl _) (by omega)) (hdown s hs.2)
  · obtain ⟨hfi, hs⟩ := hs
    · have hg := zx_gm hM hi
      have hbg := hb (zl_g S i)
      refine br_f (nI_ge hi (by omega)) ⟨zx_i28 (by omega), ?_⟩
      rw [zx_bx hS hM hi, zx_pxI hP hg.1]
      have hq : zn_d (cx (zl_g S i)) (p % 64) * zn_d (cx (zl_g S i)) (p % 64) ≤ 8192 := by
        have := zn_sq (zn_dl hbg.1 (show p % 64 < 64 by omega))
        omega
      refine ⟨zx_i28 hg.1, zx_reach hP hb hp hs hq (zn_dd _ _) (br_f zn_z1 ⟨zx_i28 (by omega), ?_⟩) (fun hr => br_t rfl (hdown s (zo_cut hs hr (fun k hk z => ?_))))⟩
      · refine zx_nearerOf hP hb hp hs hg.1 hg.2 (fun r hr => nm_r (nI_1 i) (K r ⟨by omega, zo_cg hr (fun k hk z => ?_)⟩))
        obtain ⟨j, q1, q2, q3⟩ := z
        by_cases e : j = i
        · subst e; exact Or.inr q3.symm
        · exact Or.inl ⟨j, q1, by omega, q3⟩
      · obtain ⟨j, q1, q2, q3⟩ := z
        by_cases e : j < i
        · exact Or.inl ⟨j, q1, e, q3⟩
        · right
          have q4 := zl_gs S hpw i j (by omega) q2
          have q5 := h2 i hfi hi
          rw [q3] at q4
          rw [zn_dc]
          exact zn_qx (by unfold zn_d; omega)
/-! the grid -/
theorem zx_distance {a b : Nat} (ha : a < 64) (hb : b < 64) (h : post (nI (zn_d a b))) : wpX_distance post (nI a) (nI b) := by
  refine pk_le b a (fun z => ?_) (fun z => ?_)
  · rw [pk_sub z, show a - b = zn_d a b by unfold zn_d; omega]
    exact h
  · rw [pk_sub (show a ≤ b by omega), show b - a = zn_d a b by unfold zn_d; omega]
    exact h
theorem zx_ringOf (hb : zr_b cx cy) (hC : zr_C al cx cy a_cell) {p r : Nat} (hp : p < 4096) (hr : r < 8) (h : ∀ s, zs_S s (fun k => al k && decide (zp_rg (p % 64) (p / 64) (cx k) (cy k) = r)) → post s) : wpX_ringOf post (f_live, f_held, f_treeRoot, a_px, a_py, a_byX, a_rowHead, a_rowNext, a_cell, a_quad, a_quadX, a_quadY, a_quadSide, a_treeLow, a_treeHigh, a_splitsByY, a_lessX, a_lessY, a_slice, a_waiting, a_waitingGap) (nI p) (nI r) := by
  unfold wpX_ringOf
  refine zx_xOf hp ⟨by decide, nm_r (zn_8 (p := p % 64) (by omega)) (zx_yOf hp ⟨by decide, nm_r (zn_8 (p := p / 64) (by omega)) ?_⟩)⟩
  refine loop_0 (fun n i s => wX_ringOf_23 post (nI r) (nI (p % 64 / 8)) (nI (p / 64 / 8)) f_live f_held f_treeRoot a_px a_py a_byX a_rowHead a_rowNext a_cell a_quad a_quadX a_quadY a_quadSide a_treeLow a_treeHigh a_splitsByY a_lessX a_lessY a_slice a_waiting a_waitingGap n s (nI i)) (fun i s => zs_S s (fun k => al k && (decide (zr_c cx cy k < i) && decide (zp_rg (p % 64) (p / 64) (cx k) (cy k) = r)))) 64 0 (zs_cg zs_0 (fun k _ => ?_)) (fun n s hs => ?_) (fun n i s hi hs K => ?_)
  · simp
  · refine br_t (nI_le (a := 64) (Nat.le_refl _) (by omega)) (h s (zs_cg hs (fun k _ => ?_)))
    have := hb k
    rw [decide_eq_true (by unfold zr_c; omega : zr_c cx cy k < 64), Bool.true_and]
  · have hcell := hC i hi
    have hrg : ∀ k, zr_c cx cy k = i → cx k / 8 = i % 8 ∧ cy k / 8 = i / 8 := fun k z => by
      have := hb k
      unfold zr_c at z
      omega
    have hE : ∀ k, zr_c cx cy k = i → (zp_rg (p % 64) (p / 64) (cx k) (cy k) = r ↔ (zn_d (i % 8) (p % 64 / 8) = r ∧ zn_d (i / 8) (p / 64 / 8) ≤ r ∨ zn_d (i / 8) (p / 64 / 8) = r ∧ zn_d (i % 8) (p % 64 / 8) ≤ r)) := fun k z => by
      rw [← zp_rgE, (hrg k z).1, (hrg k z).2]
    have hno : ¬ (zn_d (i % 8) (p % 64 / 8) = r ∧ zn_d (i / 8) (p / 64 / 8) ≤ r ∨ zn_d (i / 8) (p / 64 / 8) = r ∧ zn_d (i % 8) (p % 64 / 8) ≤ r) → wX_ringOf_23 post (nI r) (nI (p % 64 / 8)) (nI (p / 64 / 8)) f_live f_held f_treeRoot a_px a_py a_byX a_rowHead a_rowNext a_cell a_quad a_quadX a_quadY a_quadSide a_treeLow a_treeHigh a_splitsByY a_lessX a_lessY a_slice a_waiting a_waitingGap n s (nI (i + 1)) := fun z => by
      refine K s (zs_cg hs (fun k _ => ?_))
      refine congrArg (fun w => al k && w) ?_
      by_cases e : zr_c cx cy k = i
      · rw [decide_eq_false (fun w => z ((hE k e).mp w)), Bool.and_false, Bool.and_false]
      · have : decide (zr_c cx cy k < i) = decide (zr_c cx cy k < i + 1) := by
          rw [Bool.eq_iff_iff]; simp only [decide_eq_true_eq]; omega
        rw [this]
    have hyes : (zn_d (i % 8) (p % 64 / 8) = r ∧ zn_d (i / 8) (p / 64 / 8) ≤ r ∨ zn_d (i / 8) (p / 64 / 8) = r ∧ zn_d (i % 8) (p % 64 / 8) ≤ r) → wX_ringOf_77 post (wX_ringOf_23 post (nI r) (nI (p % 64 / 8)) (nI (p / 64 / 8)) f_live f_held f_treeRoot a_px a_py a_byX a_rowHead a_rowNext a_cell a_quad a_quadX a_quadY a_quadSide a_treeLow a_treeHigh a_splitsByY a_lessX a_lessY a_slice a_waiting a_waitingGap n) (nI r) (nI (p % 64 / 8)) (nI (p / 64 / 8)) s (nI i) f_live f_held f_treeRoot a_px a_py a_byX a_rowHead a_rowNext a_cell a_quad a_quadX a_quadY a_quadSide a_treeLow a_treeHigh a_splitsByY a_lessX a_lessY a_slice a_waiting a_waitingGap := fun z => by
      refine ⟨vp_in_nI hi (by omega), nm_r (e' := s ||| a_cell i) (by rw [nI_clamp (by omega)]) (nm_r (nI_1 i) (K _ (zs_cg (zs_or hs hcell) (fun k _ => ?_))))⟩
      show ((al k && (decide (zr_c cx cy k < i) && decide (zp_rg (p % 64) (p / 64) (cx k) (cy k) = r))) || (al k && decide (zr_c cx cy k = i))) = (al k && (decide (zr_c cx cy k < i + 1) && decide (zp_rg (p % 64) (p / 64) (cx k) (cy k) = r)))
      cases al k
      · rfl
      · by_cases e : zr_c cx cy k = i
        · rw [decide_eq_true e, decide_eq_true ((hE k e).mpr z), decide_eq_true (by omega : zr_c cx cy k < i + 1)]
          simp
        · have : decide (zr_c cx cy k < i) = decide (zr_c cx cy k < i + 1) := by
            rw [Bool.eq_iff_iff]; simp only [decide_eq_true_eq]; omega
          rw [this, decide_eq_false e]
          simp
    have d1 : zn_d (i % 8) (p % 64 / 8) < 64 := by unfold zn_d; omega
    have d2 : zn_d (i / 8) (p / 64 / 8) < 64 := by unfold zn_d; omega
    refine br_f (nI_ge (b := 64) hi (by omega)) ⟨by decide, ?_⟩
    rw [zn_r8 (p := i) (by omega), zn_8 (p := i) (by omega)]
    refine zx_distance (by omega) (by omega) ⟨by decide, zx_distance (by omega) (by omega) ?_⟩
    have h65 : ¬ (zn_d (i % 8) (p % 64 / 8) = r ∧ zn_d (i / 8) (p / 64 / 8) ≤ r) → wX_ringOf_65 post (wX_ringOf_23 post (nI r) (nI (p % 64 / 8)) (nI (p / 64 / 8)) f_live f_held f_treeRoot a_px a_py a_byX a_rowHead a_rowNext a_cell a_quad a_quadX a_quadY a_quadSide a_treeLow a_treeHigh a_splitsByY a_lessX a_lessY a_slice a_waiting a_waitingGap n) (nI r) (nI (p % 64 / 8)) (nI (p / 64 / 8)) s (nI i) (nI (zn_d (i % 8) (p % 64 / 8))) (nI (zn_d (i / 8) (p / 64 / 8))) f_live f_held f_treeRoot a_px a_py a_byX a_rowHead a_rowNext a_cell a_quad a_quadX a_quadY a_quadSide a_treeLow a_treeHigh a_splitsByY a_lessX a_lessY a_slice a_waiting a_waitingGap := fun z => by
      exact pk_eq (zn_d (i / 8) (p / 64 / 8)) r (fun z1 => pk_lt r (zn_d (i % 8) (p % 64 / 8)) (fun z2 => nm_r (nI_1 i) (hno (by omega))) (fun z2 => hyes (by omega))) (fun z1 => nm_r (nI_1 i) (hno (by omega)))
    exact pk_eq (zn_d (i % 8) (p % 64 / 8)) r (fun z1 => pk_le (zn_d (i / 8) (p / 64 / 8)) r (fun z2 => hyes (by omega)) (fun z2 => h65 (by omega))) (fun z1 => h65 (by omega))
theorem zx_nearestGrid (hP : zr_P cx cy a_px a_py) (hb : zr_b cx cy) (hC : zr_C al cx cy a_cell) {p : Nat} (hp : p < 4096) (h : ∀ r, zo_B al (zp_f cx cy p) r (fun k => al k = true) → post r) : wpX_nearestGrid post (f_live, f_held, f_treeRoot, a_px, a_py, a_byX, a_rowHead, a_rowNext, a_cell, a_quad, a_quadX, a_quadY, a_quadSide, a_treeLow, a_treeHigh, a_splitsByY, a_lessX, a_lessY, a_slice, a_waiting, a_waitingGap) (nI p) := by
  refine loop_0 (fun n i s => wX_nearestGrid_4 post (nI p) f_live f_held f_treeRoot a_px a_py a_byX a_rowHead a_rowNext a_cell a_quad a_quadX a_quadY a_quadSide a_treeLow a_treeHigh a_splitsByY a_lessX a_lessY a_slice a_waiting a_waitingGap n s (nI i)) (fun i s => zo_B al (zp_f cx cy p) s (fun k => al k = true ∧ zp_rg (p % 64) (p / 64) (cx k) (cy k) < i)) 8 (-1) (zo_0 _ _ (fun k _ z => absurd z.2 (by omega))) (fun n s hs => ?_) (fun n i s hi hs K => ?_)
  · exact br_t (nI_le (a := 8) (Nat.le_refl _) (by omega)) (h s (zo_cg hs (fun k _ z => ⟨z, zp_rg7 (by omega) (by omega) (hb k).1 (hb k).2⟩)))
  · have key : ∀ (g : Int32) (q : Nat), q ≤ 8192 → g * g = nI q → (∀ k, i ≤ zp_rg (p % 64) (p / 64) (cx k) (cy k) → q ≤ zp_f cx cy p k) → wX_nearestGrid_26 post (wX_nearestGrid_4 post (nI p) f_live f_held f_treeRoot a_px a_py a_byX a_rowHead a_rowNext a_cell a_quad a_quadX a_quadY a_quadSide a_treeLow a_treeHigh a_splitsByY a_lessX a_lessY a_slice a_waiting a_waitingGap n) (nI p) s (nI i) g f_live f_held f_treeRoot a_px a_py a_byX a_rowHead a_rowNext a_cell a_quad a_quadX a_quadY a_quadSide a_treeLow a_treeHigh a_splitsByY a_lessX a_lessY a_slice a_waiting a_waitingGap := fun g q hq hg hk => by
      unfold wX_nearestGrid_26
      refine zx_reach hP hb hp hs hq hg (br_f zn_z1 (zx_ringOf hb hC hp hi (fun st hst => zx_nearestOf hP hb hp hst (fun k _ z => ((Bool.and_eq_true _ _).mp z).1) hs (fun r hr => nm_r (nI_1 i) (K r (zo_cg hr (fun k _ z => ?_))))))) (fun hr => br_t rfl (h s (zo_cut hs hr (fun k _ z => ?_))))
      · by_cases e : zp_rg (p % 64) (p / 64) (cx k) (cy k) = i
        · right
          show (al k && decide (zp_rg (p % 64) (p / 64) (cx k) (cy k) = i)) = true
          rw [z.1, decide_eq_true e]; rfl
        · exact Or.inl ⟨z.1, by omega⟩
      · by_cases e : zp_rg (p % 64) (p / 64) (cx k) (cy k) < i
        · exact Or.inl ⟨z, e⟩
        · exact Or.inr (hk k (by omega))
    refine br_f (nI_ge (b := 8) hi (by omega)) (pk_eq i 0 (fun e => key 0 0 (by omega) (by decide) (fun k _ => Nat.zero_le _)) (fun e => ?_))
    obtain ⟨j, rfl⟩ : ∃ j, i = j + 1 := ⟨i - 1, by omega⟩
    have hj8 : 8 * j + 1 ≤ 63 := by omega
    have hsq := zn_sq hj8
    rw [nI_pred, zn_m8, nI_1]
    exact key _ ((8 * j + 1) * (8 * j + 1)) (by omega) (pk_mul _ _) (fun k z => zp_gap z)
end
end
section
/-! ===== the component: what comes and goes, each way of keeping by itself ===== -/
section
variable {f_live f_held f_treeRoot : Int32} {a_px a_py a_byX a_rowHead a_rowNext a_cell a_quad a_quadX a_quadY a_quadSide a_treeLow a_treeHigh a_splitsByY a_lessX a_lessY a_slice a_waiting a_waitingGap : Nat → Int32} {al al' : Nat → Bool} {cx cy : Nat → Nat} {post : SX → Prop}
theorem zx_nb0 : vp_nar .boolean 0 = 0 := by first | rfl | decide
theorem zx_nb1 : vp_nar .boolean 1 = 1 := by first | rfl | decide
theorem zx_enterSorted (hP : zr_P cx cy a_px a_py) (hb : zr_b cx cy) (hO : zr_O al cx f_held a_byX) {k : Nat} (hk : k < 28) (ha : al k = false) (hF : zr_F al al' k) (h : ∀ held byX, zr_O al' cx held byX → post (f_live, held, f_treeRoot, a_px, a_py, byX, a_rowHead, a_rowNext, a_cell, a_quad, a_quadX, a_quadY, a_quadSide, a_treeLow, a_treeHigh, a_splitsByY, a_lessX, a_lessY, a_slice, a_waiting, a_waitingGap)) : wpX_enterSorted post (f_live, f_held, f_treeRoot, a_px, a_py, a_byX, a_rowHead, a_rowNext, a_cell, a_quad, a_quadX, a_quadY, a_quadSide, a_treeLow, a_treeHigh, a_splitsByY, a_lessX, a_lessY, a_slice, a_waiting, a_waitingGap) (nI k) := by
  obtain ⟨S, hM, hpw, he, hS⟩ := hO
  have hl := zl_lt hM hk ha
  have hbk := hb k
  subst he
  have fin : ∀ (A B : List Nat) (a : Nat → Int32), A ++ B = S → zl_J a A B → (∀ j, j ∈ A → cx j ≤ cx k) → (∀ j, j ∈ B → cx k ≤ cx j) → wX_enterSorted_51 post (nI k) (nI A.length) f_live (nI S.length) f_treeRoot a_px a_py (a) a_rowHead a_rowNext a_cell a_quad a_quadX a_quadY a_quadSide a_treeLow a_treeHigh a_splitsByY a_lessX a_lessY a_slice a_waiting a_waitingGap := by
    intro A B a e hJ q1 q2
    subst e
    have hl2 : A.length < 28 := by rw [List.length_append] at hl; omega
    refine ⟨zx_i28 hl2, nm_r (e' := upd a A.length (nI k)) (by rw [nI_clamp (by omega)]) (nm_r (nI_1 _) (h _ _ (zr_Oin hM hpw hF ha hk q1 q2 hJ)))⟩
  have key : ∀ d (A B : List Nat) (a : Nat → Int32), A.length = d → A ++ B = S → zl_J a A B → (∀ j, j ∈ B → cx k ≤ cx j) → wX_enterSorted_5 post (nI k) f_live (nI S.length) f_treeRoot (d + 1) (nI d) a_px a_py (a) a_rowHead a_rowNext a_cell a_quad a_quadX a_quadY a_quadSide a_treeLow a_treeHigh a_splitsByY a_lessX a_lessY a_slice a_waiting a_waitingGap := by
    intro d
    induction d with
    | zero =>
      intro A B a e1 e2 hJ q
      have e3 : A = [] := List.eq_nil_of_length_eq_zero e1
      subst e3
      exact br_t (show nI 0 ≤ 0 by decide) (fin [] B a e2 hJ (fun j hj => absurd hj (by simp)) q)
    | succ d ih =>
      intro A B a e1 e2 hJ q
      rcases List.eq_nil_or_concat A with e3 | ⟨A2, m, e3⟩
      · subst e3; exact absurd e1 (by simp)
      · rw [List.concat_eq_append] at e3
        subst e3
        have e4 : A2.length = d := by rw [List.length_append, List.length_singleton] at e1; omega
        subst e4
        have hd28 : A2.length + 1 < 28 := by
          rw [← e2, List.length_append, List.length_append, List.length_singleton] at hl
          omega
        have hmS : m ∈ S := by rw [← e2]; simp
        have hm := ((hM.2 m).mp hmS).1
        have hbm := hb m
        have ea : a (nI A2.length).toNatClampNeg = nI m := by rw [nI_clamp (by omega)]; exact zl_Jm hJ
        refine br_f (nI_nle (by omega) (by omega)) ?_
        rw [nI_pred, ea]
        refine ⟨zx_i28 (by omega), zx_i28 hm, zx_i28 hk, ?_⟩
        refine pk_le (cx m) (cx k) (fun z => ?_) (fun z => ⟨zx_i28 (by omega), zx_i28 hd28, nm_r (e' := upd a (A2.length + 1) (nI m)) (by rw [nI_clamp (by omega)]) (nm_r (pk_m1 _) (ih A2 (m :: B) _ rfl (by rw [← e2]; simp) (zl_Js hJ) (fun j hj => ?_)))⟩) (zx_pxI hP hm) (zx_pxI hP hk)
        · have e5 : (A2 ++ [m]).length = A2.length + 1 := by simp
          rw [← e5]
          refine fin (A2 ++ [m]) B a e2 hJ (fun j hj => ?_) q
          rw [← e2] at hpw
          have p1 := (List.pairwise_append.mp (List.pairwise_append.mp hpw).1).2.2
          rcases List.mem_append.mp hj with w | w
          · exact Nat.le_trans (p1 j w m (by simp)) z
          · rw [List.mem_singleton.mp w]; exact z
        · rcases List.mem_cons.mp hj with w | w
          · rw [w]; omega
          · exact q j w
  exact ⟨S.length + 1, key S.length S [] a_byX rfl (by simp) (zl_J0 hS) (fun j hj => absurd hj (by simp))⟩
theorem zx_leaveSorted (hO : zr_O al cx f_held a_byX) {k : Nat} (hk : k < 28) (ha : al k = true) (hF : zr_F al al' k) (h : ∀ held byX, zr_O al' cx held byX → post (f_live, held, f_treeRoot, a_px, a_py, byX, a_rowHead, a_rowNext, a_cell, a_quad, a_quadX, a_quadY, a_quadSide, a_treeLow, a_treeHigh, a_splitsByY, a_lessX, a_lessY, a_slice, a_waiting, a_waitingGap)) : wpX_leaveSorted post (f_live, f_held, f_treeRoot, a_px, a_py, a_byX, a_rowHead, a_rowNext, a_cell, a_quad, a_quadX, a_quadY, a_quadSide, a_treeLow, a_treeHigh, a_splitsByY, a_lessX, a_lessY, a_slice, a_waiting, a_waitingGap) (nI k) := by
  obtain ⟨S, hM, hpw, he, hS⟩ := hO
  have hl := zl_len hM
  subst he
  have key : ∀ (B A : List Nat) (a : Nat → Int32) (n : Nat), A ++ B = S → zl_G a k A B → B.length < n → wX_leaveSorted_4 post (nI k) f_live (nI S.length) f_treeRoot n (nI (A.filter (zl_no k)).length) (nI A.length) a_px a_py (a) a_rowHead a_rowNext a_cell a_quad a_quadX a_quadY a_quadSide a_treeLow a_treeHigh a_splitsByY a_lessX a_lessY a_slice a_waiting a_waitingGap := by
    intro B
    induction B with
    | nil =>
      intro A a n e hG hn
      cases n with
      | zero => exact absurd hn (by simp)
      | succ n =>
        rw [List.append_nil] at e
        subst e
        exact br_t (nI_le (Nat.le_refl _) (by omega)) (h _ _ (zr_Oout hM hpw hF ha hG))
    | cons m B ih =>
      intro A a n e hG hn
      cases n with
      | zero => exact absurd hn (by simp)
      | succ n =>
        have hlen : A.length + (B.length + 1) = S.length := by rw [← e, List.length_append, List.length_cons]
        have hfl := zl_Gl k A
        have hm := ((hM.2 m).mp (by rw [← e]; simp)).1
        have ea : a (nI A.length).toNatClampNeg = nI m := by rw [nI_clamp (by omega)]; exact hG.2.1
        have e2 : (A ++ [m]) ++ B = S := by rw [← e]; simp
        have e3 : (A ++ [m]).length = A.length + 1 := by simp
        have hn2 : B.length < n := by rw [List.length_cons] at hn; omega
        refine br_f (nI_ge (by omega) (by omega)) ⟨zx_i28 (by omega), ?_⟩
        rw [ea]
        refine pk_eq m k (fun z => ?_) (fun z => ⟨zx_i28 (by omega), zx_i28 (by omega), nm_r (e' := upd a (A.filter (zl_no k)).length (nI m)) (by rw [nI_clamp (by omega)]) (nm_r (nI_1 _) (nm_r (nI_1 _) ?_))⟩)
        · subst z
          obtain ⟨g1, g2⟩ := zl_Gf hG
          have := ih (A ++ [m]) a n e2 g1 hn2
          rw [g2, e3] at this
          exact nm_r (nI_1 _) this
        · obtain ⟨g1, g2⟩ := zl_Gt hG z
          have := ih (A ++ [m]) _ n e2 g1 hn2
          rw [g2, e3] at this
          exact this
  exact ⟨S.length + 1, key S [] a_byX (S.length + 1) rfl ⟨trivial, hS⟩ (by omega)⟩
theorem zx_enterRow (hP : zr_P cx cy a_px a_py) (hb : zr_b cx cy) (hR : zr_R al cy a_rowHead a_rowNext) {k : Nat} (hk : k < 28) (ha : al k = false) (hF : zr_F al al' k) (h : ∀ rh rn, zr_R al' cy rh rn → post (f_live, f_held, f_treeRoot, a_px, a_py, a_byX, rh, rn, a_cell, a_quad, a_quadX, a_quadY, a_quadSide, a_treeLow, a_treeHigh, a_splitsByY, a_lessX, a_lessY, a_slice, a_waiting, a_waitingGap)) : wpX_enterRow post (f_live, f_held, f_treeRoot, a_px, a_py, a_byX, a_rowHead, a_rowNext, a_cell, a_quad, a_quadX, a_quadY, a_quadSide, a_treeLow, a_treeHigh, a_splitsByY, a_lessX, a_lessY, a_slice, a_waiting, a_waitingGap) (nI k) := by
  have hbk := hb k
  have e1 : (nI k).toNatClampNeg = k := nI_clamp (by omega)
  have e2 : a_py (nI k).toNatClampNeg = nI (cy k) := zx_pyI hP hk
  have e3 : (nI (cy k)).toNatClampNeg = cy k := nI_clamp (by omega)
  have i64 : vp_in (a_py (nI k).toNatClampNeg) 64 := by rw [e2]; exact vp_in_nI hbk.2 (by omega)
  refine ⟨zx_i28 hk, i64, zx_i28 hk, nm_r (e' := upd a_rowNext k (a_rowHead (cy k))) (by rw [e2, e3, e1]) ⟨zx_i28 hk, i64, nm_r (e' := upd a_rowHead (cy k) (nI k)) (by rw [e2, e3]) (h _ _ (zr_Rin hR hF ha hk hbk.2))⟩⟩
theorem zx_lr {k : Nat} (hk : k < 28) : ∀ (t : List Nat) (m n st : Nat), (m :: t).Nodup → zl_C a_rowNext (m :: t) (nI m) → k ∈ t → m ≠ k → (∀ j, j ∈ m :: t → j < 28) → (m :: t).length + st ≤ 28 → t.length < n → (∀ rn, zl_E a_rowNext rn k (m :: t) (nI m) → post (f_live, f_held, f_treeRoot, a_px, a_py, a_byX, a_rowHead, rn, a_cell, a_quad, a_quadX, a_quadY, a_quadSide, a_treeLow, a_treeHigh, a_splitsByY, a_lessX, a_lessY, a_slice, a_waiting, a_waitingGap)) → wX_leaveRow_40 post (nI k) f_live f_held f_treeRoot a_px a_py a_byX a_rowHead a_rowNext a_cell a_quad a_quadX a_quadY a_quadSide a_treeLow a_treeHigh a_splitsByY a_lessX a_lessY a_slice a_waiting a_waitingGap n (nI m) (nI st) := by
  intro t
  induction t with
  | nil => intro m n st _ _ hkt; exact absurd hkt (by simp)
  | cons p t ih =>
    intro m n st hn hc hkt hmk hj hlen hfu h
    cases n with
    | zero => exact absurd hfu (by simp)
    | succ n =>
      rw [List.length_cons, List.length_cons] at hlen
      have hm := hj m (by simp)
      have hp := hj p (by simp)
      have e1 : (nI m).toNatClampNeg = m := nI_clamp (by omega)
      have e2 : (nI k).toNatClampNeg = k := nI_clamp (by omega)
      have e3 : a_rowNext m = nI p := hc.2.1
      refine br_f (zn_28f (by omega)) (br_f (zn_n1 (by omega)) ⟨zx_i28 hm, ?_⟩)
      rw [e1, e2]
      refine pk_eq p k (fun z => ?_) (fun z => ⟨zx_i28 hm, nm_r e3 (nm_r (nI_1 st) ?_)⟩) e3 rfl
      · subst z
        exact ⟨zx_i28 hk, zx_i28 hm, nm_e (h _ (zl_E1 hn hc))⟩
      · have hkt2 : k ∈ t := by
          rcases List.mem_cons.mp hkt with w | w
          · exact absurd w.symm z
          · exact w
        refine ih p n (st + 1) (List.nodup_cons.mp hn).2 (by have := hc.2; rw [e3] at this; exact this) hkt2 z (fun j hj2 => hj j (List.mem_cons_of_mem _ hj2)) (by rw [List.length_cons]; omega) (by rw [List.length_cons] at hfu; omega) (fun rn hE => h rn (zl_E2 hn hmk z hc (by rw [e3]; exact hE)))
theorem zx_leaveRow (hP : zr_P cx cy a_px a_py) (hb : zr_b cx cy) (hR : zr_R al cy a_rowHead a_rowNext) {k : Nat} (hk : k < 28) (ha : al k = true) (hF : zr_F al al' k) (h : ∀ rh rn, zr_R al' cy rh rn → post (f_live, f_held, f_treeRoot, a_px, a_py, a_byX, rh, rn, a_cell, a_quad, a_quadX, a_quadY, a_quadSide, a_treeLow, a_treeHigh, a_splitsByY, a_lessX, a_lessY, a_slice, a_waiting, a_waitingGap)) : wpX_leaveRow post (f_live, f_held, f_treeRoot, a_px, a_py, a_byX, a_rowHead, a_rowNext, a_cell, a_quad, a_quadX, a_quadY, a_quadSide, a_treeLow, a_treeHigh, a_splitsByY, a_lessX, a_lessY, a_slice, a_waiting, a_waitingGap) (nI k) := by
  have hbk := hb k
  have e1 : (nI k).toNatClampNeg = k := nI_clamp (by omega)
  have e3 : (nI (cy k)).toNatClampNeg = cy k := nI_clamp (by omega)
  have i64 : vp_in (nI (cy k)) 64 := vp_in_nI hbk.2 (by omega)
  obtain ⟨R, hM, hC⟩ := hR (cy k) hbk.2
  have hkR : k ∈ R := (hM.2 k).mpr ⟨hk, by simp [ha]⟩
  have hR28 : ∀ j, j ∈ R → j < 28 := fun j hj => ((hM.2 j).mp hj).1
  have hlen := zl_len hM
  refine ⟨zx_i28 hk, nm_r (zx_pyI hP hk) ⟨i64, ?_⟩⟩
  cases R with
  | nil => exact absurd hkR (by simp)
  | cons m t =>
    have hm := hR28 m (by simp)
    have e4 : a_rowHead (cy k) = nI m := hC.1
    rw [e3, e1]
    refine pk_eq m k (fun z => ⟨zx_i28 hk, i64, nm_e ?_⟩) (fun z => ⟨i64, nm_r e4 ⟨29, ?_⟩⟩) e4 rfl
    · subst z
      refine h _ _ (zr_Rout hR hF ha hbk.2 hM ⟨?_, fun j _ => rfl⟩ (fun y _ hy => pk_un hy))
      rw [List.filter_cons, if_neg (by rw [zl_noF]; decide), zl_nf (List.nodup_cons.mp hM.1).1, pk_us]
      exact hC.2
    · have hkt : k ∈ t := by
        rcases List.mem_cons.mp hkR with w | w
        · exact absurd w.symm z
        · exact w
      refine zx_lr hk t m 29 0 hM.1 ⟨rfl, hC.2⟩ hkt z hR28 hlen (by rw [List.length_cons] at hlen; omega) (fun rn hE => h _ _ (zr_Rout hR hF ha hbk.2 hM (by rw [e4]; exact hE) (fun y _ _ => rfl)))
theorem zx_toggleCell (hP : zr_P cx cy a_px a_py) (hb : zr_b cx cy) (hC : zr_C al cx cy a_cell) {k : Nat} (hk : k < 28) (hF : zr_F al al' k) (h : ∀ c, zr_C al' cx cy c → post (f_live, f_held, f_treeRoot, a_px, a_py, a_byX, a_rowHead, a_rowNext, c, a_quad, a_quadX, a_quadY, a_quadSide, a_treeLow, a_treeHigh, a_splitsByY, a_lessX, a_lessY, a_slice, a_waiting, a_waitingGap)) : wpX_toggleCell post (f_live, f_held, f_treeRoot, a_px, a_py, a_byX, a_rowHead, a_rowNext, a_cell, a_quad, a_quadX, a_quadY, a_quadSide, a_treeLow, a_treeHigh, a_splitsByY, a_lessX, a_lessY, a_slice, a_waiting, a_waitingGap) (nI k) := by
  have hbk := hb k
  have e : a_px (nI k).toNatClampNeg / 8 + 8 * (a_py (nI k).toNatClampNeg / 8) = nI (zr_c cx cy k) := by
    rw [zx_pxI hP hk, zx_pyI hP hk, zn_8 (by omega), zn_8 (by omega), zn_m8, nI_add]
    rfl
  have hc64 : zr_c cx cy k < 64 := by unfold zr_c; omega
  have i64 : vp_in (a_px (nI k).toNatClampNeg / 8 + 8 * (a_py (nI k).toNatClampNeg / 8)) 64 := by rw [e]; exact vp_in_nI hc64 (by omega)
  refine ⟨zx_i28 hk, by decide, zx_i28 hk, by decide, i64, i64, nm_r (e' := upd a_cell (zr_c cx cy k) (a_cell (zr_c cx cy k) ^^^ (1 <<< (nI k &&& 31)))) (by rw [e, nI_clamp (by omega)]) (h _ (fun c hc => ?_))⟩
  by_cases e2 : c = zr_c cx cy k
  · subst e2
    rw [pk_us]
    exact zr_ft (c := fun j => decide (zr_c cx cy j = zr_c cx cy k)) (hC _ hc) hk hF (by simp)
  · rw [pk_un e2]
    exact zr_ff (c := fun j => decide (zr_c cx cy j = c)) (hC _ hc) hF (decide_eq_false (fun z => e2 z.symm))
theorem zx_toggleQuads (hP : zr_P cx cy a_px a_py) (hb : zr_b cx cy) (hL : zr_L a_quadX a_quadY a_quadSide) (hQ : zr_Q al cx cy a_quad) {k : Nat} (hk : k < 28) (hF : zr_F al al' k) (h : ∀ q, zr_Q al' cx cy q → post (f_live, f_held, f_treeRoot, a_px, a_py, a_byX, a_rowHead, a_rowNext, a_cell, q, a_quadX, a_quadY, a_quadSide, a_treeLow, a_treeHigh, a_splitsByY, a_lessX, a_lessY, a_slice, a_waiting, a_waitingGap)) : wpX_toggleQuads post (f_live, f_held, f_treeRoot, a_px, a_py, a_byX, a_rowHead, a_rowNext, a_cell, a_quad, a_quadX, a_quadY, a_quadSide, a_treeLow, a_treeHigh, a_splitsByY, a_lessX, a_lessY, a_slice, a_waiting, a_waitingGap) (nI k) := by
  obtain ⟨hx, hy⟩ := hb k
  have key : ∀ d t (a : Nat → Int32), t + d = 4 → (∀ n, n < 341 → a n = if decide (n < zq_o (t + 1)) && zq_in n (cx k) (cy k) then a_quad n ^^^ (1 <<< (nI k &&& 31)) else a_quad n) → wX_toggleQuads_16 post (nI k) f_live f_held f_treeRoot (d + 1) (nI (zq_p (cx k) (cy k) t)) (nI t) a_px a_py a_byX a_rowHead a_rowNext a_cell (a) a_quadX a_quadY a_quadSide a_treeLow a_treeHigh a_splitsByY a_lessX a_lessY a_slice a_waiting a_waitingGap := by
    intro d
    induction d with
    | zero =>
      intro t a ht hA
      have e : t = 4 := by omega
      subst e
      refine br_t (nI_le (a := 4) (Nat.le_refl _) (by omega)) (h _ (fun n hn => ?_))
      rw [hA n hn, decide_eq_true (show n < zq_o (4 + 1) from hn)]
      cases hz : zq_in n (cx k) (cy k)
      · exact zr_ff (c := fun j => zq_in n (cx j) (cy j)) (hQ n hn) hF hz
      · exact zr_ft (c := fun j => zq_in n (cx j) (cy j)) (hQ n hn) hk hF hz
    | succ d ih =>
      intro t a ht hA
      have h85 := zq_p85 hx hy (show t < 4 by omega)
      have h341 := zq_p341 hx hy (show t + 1 ≤ 4 by omega)
      have hfl := zq_fl hx hy (show t + 1 ≤ 4 by omega) hA
      have ep : zq_p (cx k) (cy k) (t + 1) = 4 * zq_p (cx k) (cy k) t + 1 + (zq_rx (zq_p (cx k) (cy k) t) (cx k) + zq_ry (zq_p (cx k) (cy k) t) (cy k)) := rfl
      have ihn := ih (t + 1) _ (by omega) hfl
      generalize zq_p (cx k) (cy k) (t + 1) = p2 at *
      generalize zq_p (cx k) (cy k) t = p at *
      have hbd := zq_bd p (by omega)
      obtain ⟨q1, q2, q3⟩ := hL p (by omega)
      have e0 : (nI p).toNatClampNeg = p := nI_clamp (by omega)
      have f79 : ∀ x5 z0 : Nat, x5 = zq_rx p (cx k) → z0 = zq_ry p (cy k) → wX_toggleQuads_79 post (wX_toggleQuads_16 post (nI k) f_live f_held f_treeRoot (d + 1)) (nI k) (nI p) (nI t) (nI x5) (nI z0) f_live f_held f_treeRoot a_px a_py a_byX a_rowHead a_rowNext a_cell (a) a_quadX a_quadY a_quadSide a_treeLow a_treeHigh a_splitsByY a_lessX a_lessY a_slice a_waiting a_waitingGap := by
        intro x5 z0 w1 w2
        have e2 : 4 * nI p + 1 + nI x5 + nI z0 = nI p2 := by
          have e3 : 4 * nI p = nI (4 * p) := pk_mul 4 p
          rw [e3, nI_1, nI_add, nI_add, ep, w1, w2, Nat.add_assoc]
        refine nm_r e2 ⟨zx_i341 h341, zx_i341 h341, nm_r (e' := upd a p2 (a p2 ^^^ (1 <<< (nI k &&& 31)))) (by rw [nI_clamp (by omega)]) (nm_r (nI_1 t) ihn)⟩
      have f54 : ∀ x5 : Nat, x5 = zq_rx p (cx k) → wX_toggleQuads_54 post (wX_toggleQuads_16 post (nI k) f_live f_held f_treeRoot (d + 1)) (nI k) (nI p) (nI t) (nI (zq_s p / 2)) (nI x5) f_live f_held f_treeRoot a_px a_py a_byX a_rowHead a_rowNext a_cell (a) a_quadX a_quadY a_quadSide a_treeLow a_treeHigh a_splitsByY a_lessX a_lessY a_slice a_waiting a_waitingGap := by
        intro x5 w1
        refine ⟨zx_i28 hk, zx_i341 (by omega), pk_lt (cy k) (zq_y p + zq_s p / 2) (fun z => f79 x5 0 w1 ?_) (fun z => f79 x5 2 w1 ?_) (zx_pyI hP hk) (by rw [e0, q2, nI_add])⟩
        · unfold zq_ry; rw [if_neg (by omega)]
        · unfold zq_ry; rw [if_pos (by omega)]
      refine br_f (nI_ge (b := 4) (by omega) (by omega)) ⟨zx_i341 (by omega), by decide, nm_r (e' := nI (zq_s p / 2)) (by rw [e0, q3]; exact zn_2 (by omega)) ⟨zx_i28 hk, zx_i341 (by omega), pk_lt (cx k) (zq_x p + zq_s p / 2) (fun z => f54 0 ?_) (fun z => f54 1 ?_) (zx_pxI hP hk) (by rw [e0, q1, nI_add])⟩⟩
      · unfold zq_rx; rw [if_neg (by omega)]
      · unfold zq_rx; rw [if_pos (by omega)]
  refine nm_e ⟨5, key 4 0 _ rfl (fun n hn => ?_)⟩
  have := zq_fl hx hy (t := 0) (by omega) (a := a_quad) (old := a_quad) (v := 1 <<< (nI k &&& 31)) (fun n hn => by rw [decide_eq_false (show ¬ n < zq_o 0 from Nat.not_lt_zero n)]; rfl) n hn
  exact this
end
end
section
/-! ===== the component: the tree grown, the bounds, the slices, the quads laid out ===== -/
section
variable {f_live f_held f_treeRoot : Int32} {a_px a_py a_byX a_rowHead a_rowNext a_cell a_quad a_quadX a_quadY a_quadSide a_treeLow a_treeHigh a_splitsByY a_lessX a_lessY a_slice a_waiting a_waitingGap : Nat → Int32} {al al' : Nat → Bool} {cx cy : Nat → Nat} {post : SX → Prop}
theorem zx_g122 {J : Int32 → Int32 → Prop} {x1 x2 x4 z0 : Int32} {t : Nat} (h1 : z0 = -1 → wpX_hang (fun u => match u with | (f_live, f_held, f_treeRoot, a_px, a_py, a_byX, a_rowHead, a_rowNext, a_cell, a_quad, a_quadX, a_quadY, a_quadSide, a_treeLow, a_treeHigh, a_splitsByY, a_lessX, a_lessY, a_slice, a_waiting, a_waitingGap) => post (f_live, f_held, f_treeRoot, a_px, a_py, a_byX, a_rowHead, a_rowNext, a_cell, a_quad, a_quadX, a_quadY, a_quadSide, a_treeLow, a_treeHigh, a_splitsByY, a_lessX, a_lessY, a_slice, a_waiting, a_waitingGap)) (f_live, f_held, f_treeRoot, a_px, a_py, a_byX, a_rowHead, a_rowNext, a_cell, a_quad, a_quadX, a_quadY, a_quadSide, a_treeLow, a_treeHigh, a_splitsByY, a_lessX, a_lessY, a_slice, a_waiting, a_waitingGap) x1 x2 x4) (h2 : ¬ z0 = -1 → J z0 (nI (t + 1))) : wX_growTree_122 post J x1 x2 (nI t) x4 z0 f_live f_held f_treeRoot a_px a_py a_byX a_rowHead a_rowNext a_cell a_quad a_quadX a_quadY a_quadSide a_treeLow a_treeHigh a_splitsByY a_lessX a_lessY a_slice a_waiting a_waitingGap := br_c h1 (fun z => nm_r (nI_1 t) (h2 z))
theorem zx_hangL {k m : Nat} {b : Bool} (hk : k < 28) (hm : m < 28) (hs : a_splitsByY m = zt_b b) (h : post (f_live, f_held, f_treeRoot, a_px, a_py, a_byX, a_rowHead, a_rowNext, a_cell, a_quad, a_quadX, a_quadY, a_quadSide, upd a_treeLow m (nI k), a_treeHigh, upd a_splitsByY k (zt_b (!b)), a_lessX, a_lessY, a_slice, a_waiting, a_waitingGap)) : wpX_hang post (f_live, f_held, f_treeRoot, a_px, a_py, a_byX, a_rowHead, a_rowNext, a_cell, a_quad, a_quadX, a_quadY, a_quadSide, a_treeLow, a_treeHigh, a_splitsByY, a_lessX, a_lessY, a_slice, a_waiting, a_waitingGap) (nI k) (nI m) 1 := by
  have e1 : (nI k).toNatClampNeg = k := nI_clamp (by omega)
  have e2 : (nI m).toNatClampNeg = m := nI_clamp (by omega)
  refine ⟨zx_i28 hm, ?_⟩
  rw [e2, hs]
  cases b
  · exact br_t rfl ⟨zx_i28 hk, nm_r (e' := upd a_splitsByY k 1) (by rw [e1, zx_nb1]) (br_f zn_z1 ⟨zx_i28 hm, nm_r (e' := upd a_treeLow m (nI k)) (by rw [e2]) h⟩)⟩
  · exact br_f (by decide) ⟨zx_i28 hk, nm_r (e' := upd a_splitsByY k 0) (by rw [e1, zx_nb0]) (br_f zn_z1 ⟨zx_i28 hm, nm_r (e' := upd a_treeLow m (nI k)) (by rw [e2]) h⟩)⟩
theorem zx_hangH {k m : Nat} {b : Bool} (hk : k < 28) (hm : m < 28) (hs : a_splitsByY m = zt_b b) (h : post (f_live, f_held, f_treeRoot, a_px, a_py, a_byX, a_rowHead, a_rowNext, a_cell, a_quad, a_quadX, a_quadY, a_quadSide, a_treeLow, upd a_treeHigh m (nI k), upd a_splitsByY k (zt_b (!b)), a_lessX, a_lessY, a_slice, a_waiting, a_waitingGap)) : wpX_hang post (f_live, f_held, f_treeRoot, a_px, a_py, a_byX, a_rowHead, a_rowNext, a_cell, a_quad, a_quadX, a_quadY, a_quadSide, a_treeLow, a_treeHigh, a_splitsByY, a_lessX, a_lessY, a_slice, a_waiting, a_waitingGap) (nI k) (nI m) 0 := by
  have e1 : (nI k).toNatClampNeg = k := nI_clamp (by omega)
  have e2 : (nI m).toNatClampNeg = m := nI_clamp (by omega)
  refine ⟨zx_i28 hm, ?_⟩
  rw [e2, hs]
  cases b
  · exact br_t rfl ⟨zx_i28 hk, nm_r (e' := upd a_splitsByY k 1) (by rw [e1, zx_nb1]) (br_t rfl ⟨zx_i28 hm, nm_r (e' := upd a_treeHigh m (nI k)) (by rw [e2]) h⟩)⟩
  · exact br_f (by decide) ⟨zx_i28 hk, nm_r (e' := upd a_splitsByY k 0) (by rw [e1, zx_nb0]) (br_t rfl ⟨zx_i28 hm, nm_r (e' := upd a_treeHigh m (nI k)) (by rw [e2]) h⟩)⟩
theorem zx_g42 (hP : zr_P cx cy a_px a_py) (hb : zr_b cx cy) {k : Nat} (hk : k < 28) (hk1 : a_treeLow k = -1) (hk2 : a_treeHigh k = -1) :
    ∀ (f : Nat) (m : Nat) (t : List Nat) (b : Bool) (dp n : Nat), zt_T cx cy a_treeLow a_treeHigh a_splitsByY f (m :: t) b (nI m) → (m :: t).Nodup → k ∉ m :: t → (∀ j, j ∈ m :: t → j < 28) → (m :: t).length + dp ≤ 28 → (m :: t).length ≤ n → (∀ lo hi sy, zt_D cx cy a_treeLow a_treeHigh a_splitsByY lo hi sy k (f + 1) (m :: t) b (nI m) → post (f_live, f_held, f_treeRoot, a_px, a_py, a_byX, a_rowHead, a_rowNext, a_cell, a_quad, a_quadX, a_quadY, a_quadSide, lo, hi, sy, a_lessX, a_lessY, a_slice, a_waiting, a_waitingGap)) → wX_growTree_42 post (nI k) f_live f_held f_treeRoot a_px a_py a_byX a_rowHead a_rowNext a_cell a_quad a_quadX a_quadY a_quadSide a_treeLow a_treeHigh a_splitsByY a_lessX a_lessY a_slice a_waiting a_waitingGap n (nI m) (nI dp) := by
  intro f
  induction f with
  | zero =>
    intro m t b dp n hT
    have hT' : m :: t = [] ∧ nI m = -1 := hT
    exact absurd hT'.1 (by simp)
  | succ f ih =>
    intro m t b dp n hT hnd hkt h28 hlen hfu h
    obtain ⟨_, hsy, hTA, hTB⟩ := hT
    obtain ⟨n1, n2⟩ := List.nodup_cons.mp hnd
    have hm := h28 m (by simp)
    have hbm := hb m
    have hbk := hb k
    have e2 : (nI m).toNatClampNeg = m := nI_clamp (by omega)
    cases n with
    | zero => exact absurd hfu (by simp)
    | succ n =>
      rw [List.length_cons] at hlen hfu
      have hln := zt_ln cx cy b m t
      -- the low side
      have hlow : zt_lt cx cy b m k = true → wX_growTree_100 post (wX_growTree_42 post (nI k) f_live f_held f_treeRoot a_px a_py a_byX a_rowHead a_rowNext a_cell a_quad a_quadX a_quadY a_quadSide a_treeLow a_treeHigh a_splitsByY a_lessX a_lessY a_slice a_waiting a_waitingGap n) (nI k) (nI m) (nI dp) 1 f_live f_held f_treeRoot a_px a_py a_byX a_rowHead a_rowNext a_cell a_quad a_quadX a_quadY a_quadSide a_treeLow a_treeHigh a_splitsByY a_lessX a_lessY a_slice a_waiting a_waitingGap := by
        intro hlt
        refine br_f zn_z1 ⟨zx_i28 hm, ?_⟩
        rw [e2]
        cases hA : t.filter (zt_lt cx cy b m) with
        | nil =>
          rw [hA] at hTA
          exact zx_g122 (fun _ => zx_hangL hk hm hsy (h _ _ _ (zt_lo1 hkt n1 hlt hsy hTB hA hk1 hk2))) (fun z => absurd (zt_nil hTA) z)
        | cons p t2 =>
          have hp : ∀ j, j ∈ p :: t2 → j ∈ t := fun j hj => (List.mem_filter.mp (by rw [hA]; exact hj)).1
          have hA2 := hTA
          rw [hA] at hTA
          have er : a_treeLow m = nI p := (zt_hd hTA).choose_spec.2.1
          have hp28 := h28 p (List.mem_cons_of_mem _ (hp p (by simp)))
          rw [er]
          rw [er] at hTA
          refine zx_g122 (fun z => absurd z (zn_n1 (by omega))) (fun _ => ih p t2 (!b) (dp + 1) n hTA ?_ (fun z => hkt (List.mem_cons_of_mem _ (hp k z))) (fun j hj => h28 j (List.mem_cons_of_mem _ (hp j hj))) ?_ ?_ (fun lo hi sy hD => h lo hi sy (zt_lo2 hkt n1 hlt hsy hTB ?_)))
          · rw [← hA]; exact List.Pairwise.filter _ n2
          · rw [hA] at hln; omega
          · rw [hA] at hln; omega
          · rw [hA, er]; exact hD
      have hhigh : zt_lt cx cy b m k = false → wX_growTree_100 post (wX_growTree_42 post (nI k) f_live f_held f_treeRoot a_px a_py a_byX a_rowHead a_rowNext a_cell a_quad a_quadX a_quadY a_quadSide a_treeLow a_treeHigh a_splitsByY a_lessX a_lessY a_slice a_waiting a_waitingGap n) (nI k) (nI m) (nI dp) 0 f_live f_held f_treeRoot a_px a_py a_byX a_rowHead a_rowNext a_cell a_quad a_quadX a_quadY a_quadSide a_treeLow a_treeHigh a_splitsByY a_lessX a_lessY a_slice a_waiting a_waitingGap := by
        intro hlt
        refine br_t rfl ⟨zx_i28 hm, ?_⟩
        rw [e2]
        cases hA : t.filter (zt_ge cx cy b m) with
        | nil =>
          rw [hA] at hTB
          exact zx_g122 (fun _ => zx_hangH hk hm hsy (h _ _ _ (zt_hi1 hkt n1 hlt hsy hTA hA hk1 hk2))) (fun z => absurd (zt_nil hTB) z)
        | cons p t2 =>
          have hp : ∀ j, j ∈ p :: t2 → j ∈ t := fun j hj => (List.mem_filter.mp (by rw [hA]; exact hj)).1
          rw [hA] at hTB
          have er : a_treeHigh m = nI p := (zt_hd hTB).choose_spec.2.1
          have hp28 := h28 p (List.mem_cons_of_mem _ (hp p (by simp)))
          rw [er]
          rw [er] at hTB
          refine zx_g122 (fun z => absurd z (zn_n1 (by omega))) (fun _ => ih p t2 (!b) (dp + 1) n hTB ?_ (fun z => hkt (List.mem_cons_of_mem _ (hp k z))) (fun j hj => h28 j (List.mem_cons_of_mem _ (hp j hj))) ?_ ?_ (fun lo hi sy hD => h lo hi sy (zt_hi2 hkt n1 hlt hsy hTA ?_)))
          · rw [← hA]; exact List.Pairwise.filter _ n2
          · rw [hA] at hln; omega
          · rw [hA] at hln; omega
          · rw [hA, er]; exact hD
      refine br_f (zn_28f (by omega)) ⟨zx_i28 hm, ?_⟩
      cases b
      · have hsy0 : a_splitsByY (nI m).toNatClampNeg = 0 := by rw [e2]; exact hsy
        refine br_t hsy0 ⟨zx_i28 hk, zx_i28 hm, pk_le (cx m) (cx k) (fun z => hhigh ?_) (fun z => hlow ?_) (zx_pxI hP hm) (zx_pxI hP hk)⟩
        · exact decide_eq_false (by omega : ¬ cx k < cx m)
        · exact decide_eq_true z
      · have hsy1 : ¬ a_splitsByY (nI m).toNatClampNeg = 0 := by rw [e2, hsy]; decide
        refine br_f hsy1 ⟨zx_i28 hk, zx_i28 hm, pk_le (cy m) (cy k) (fun z => hhigh ?_) (fun z => hlow ?_) (zx_pyI hP hm) (zx_pyI hP hk)⟩
        · exact decide_eq_false (by omega : ¬ cy k < cy m)
        · exact decide_eq_true z
theorem zx_grow (hP : zr_P cx cy a_px a_py) (hb : zr_b cx cy) {k f : Nat} {T : List Nat} (hk : k < 28) (hT : zt_T cx cy a_treeLow a_treeHigh a_splitsByY f T false f_treeRoot) (hnd : T.Nodup) (hkT : k ∉ T) (h28 : ∀ j, j ∈ T → j < 28) (hlen : T.length ≤ 28)
    (h : ∀ root lo hi sy g, zt_T cx cy lo hi sy g (T ++ [k]) false root → post (f_live, f_held, root, a_px, a_py, a_byX, a_rowHead, a_rowNext, a_cell, a_quad, a_quadX, a_quadY, a_quadSide, lo, hi, sy, a_lessX, a_lessY, a_slice, a_waiting, a_waitingGap)) : wpX_growTree post (f_live, f_held, f_treeRoot, a_px, a_py, a_byX, a_rowHead, a_rowNext, a_cell, a_quad, a_quadX, a_quadY, a_quadSide, a_treeLow, a_treeHigh, a_splitsByY, a_lessX, a_lessY, a_slice, a_waiting, a_waitingGap) (nI k) := by
  have e1 : (nI k).toNatClampNeg = k := nI_clamp (by omega)
  refine ⟨zx_i28 hk, nm_r (e' := upd a_treeLow k (-1)) (by rw [e1]) ⟨zx_i28 hk, nm_r (e' := upd a_treeHigh k (-1)) (by rw [e1]) ⟨zx_i28 hk, nm_r (e' := upd a_splitsByY k 0) (by rw [e1, zx_nb0]) ?_⟩⟩⟩
  have hT2 : zt_T cx cy (upd a_treeLow k (-1)) (upd a_treeHigh k (-1)) (upd a_splitsByY k 0) f T false f_treeRoot := zt_fr _ _ _ _ (fun j hj => by
    have hne : j ≠ k := fun e => hkT (by rw [← e]; exact hj)
    exact ⟨rfl, rfl, pk_un hne, pk_un hne, pk_un hne⟩) hT
  cases T with
  | nil =>
    have er := zt_nil hT
    exact br_t er (h _ _ _ _ 1 (zt_leaf 0 pk_us pk_us pk_us))
  | cons m t =>
    obtain ⟨g, eg, er, _⟩ := zt_hd hT
    have hm := h28 m (by simp)
    subst er
    exact br_f (zn_n1 (by omega)) ⟨28, zx_g42 hP hb hk pk_us pk_us f m t false 0 28 hT2 hnd hkT h28 (by omega) (by omega) (fun lo hi sy hD => h _ _ _ _ _ hD.1)⟩
theorem zx_growTree (hP : zr_P cx cy a_px a_py) (hb : zr_b cx cy) (hT : zr_T al cx cy f_treeRoot a_treeLow a_treeHigh a_splitsByY) {k : Nat} (hk : k < 28) (ha : al k = false) (hF : zr_F al al' k) (h : ∀ root lo hi sy, zr_T al' cx cy root lo hi sy → post (f_live, f_held, root, a_px, a_py, a_byX, a_rowHead, a_rowNext, a_cell, a_quad, a_quadX, a_quadY, a_quadSide, lo, hi, sy, a_lessX, a_lessY, a_slice, a_waiting, a_waitingGap)) : wpX_growTree post (f_live, f_held, f_treeRoot, a_px, a_py, a_byX, a_rowHead, a_rowNext, a_cell, a_quad, a_quadX, a_quadY, a_quadSide, a_treeLow, a_treeHigh, a_splitsByY, a_lessX, a_lessY, a_slice, a_waiting, a_waitingGap) (nI k) := by
  obtain ⟨T, f, hM, hT2⟩ := hT
  refine zx_grow hP hb hk hT2 hM.1 (fun z => ?_) (fun j hj => ((hM.2 j).mp hj).1) (zl_len hM) (fun root lo hi sy g hg => h _ _ _ _ ⟨T ++ [k], g, zl_ins (B := []) (by rw [List.append_nil]; exact hM) hk ha (fun j _ => zr_Fi hF ha j), hg⟩)
  have := ((hM.2 k).mp z).2
  rw [ha] at this
  exact absurd this (by decide)
theorem zx_replant (hl : zs_S f_live al) (hP : zr_P cx cy a_px a_py) (hb : zr_b cx cy) (h : ∀ root lo hi sy, zr_T al cx cy root lo hi sy → post (f_live, f_held, root, a_px, a_py, a_byX, a_rowHead, a_rowNext, a_cell, a_quad, a_quadX, a_quadY, a_quadSide, lo, hi, sy, a_lessX, a_lessY, a_slice, a_waiting, a_waitingGap)) : wpX_replantTree post (f_live, f_held, f_treeRoot, a_px, a_py, a_byX, a_rowHead, a_rowNext, a_cell, a_quad, a_quadX, a_quadY, a_quadSide, a_treeLow, a_treeHigh, a_splitsByY, a_lessX, a_lessY, a_slice, a_waiting, a_waitingGap) := by
  have key : ∀ d i (root : Int32) (lo hi sy : Nat → Int32) (f : Nat), i + d = 28 → zt_T cx cy lo hi sy f (zt_I al i) false root → wX_replantTree_7 post (d + 1) (nI i) f_live f_held (root) a_px a_py a_byX a_rowHead a_rowNext a_cell a_quad a_quadX a_quadY a_quadSide (lo) (hi) (sy) a_lessX a_lessY a_slice a_waiting a_waitingGap := by
    intro d
    induction d with
    | zero =>
      intro i root lo hi sy f hi28 hT
      have e : i = 28 := by omega
      subst e
      exact br_t zn_28t (h _ _ _ _ ⟨_, f, zt_IM al, hT⟩)
    | succ d ih =>
      intro i root lo hi sy f hid hT
      have hi28 : i < 28 := by omega
      refine br_f (zn_28f hi28) (zx_hasN hl hi28 (fun ha => br_f zn_z1 ?_) (fun ha => br_t rfl (nm_r (nI_1 i) (ih (i + 1) root lo hi sy f (by omega) (by rw [zt_If ha]; exact hT)))))
      refine zx_grow hP hb hi28 hT (zt_In al i) (fun z => ?_) (fun j hj => ?_) ?_ (fun root' lo' hi' sy' g hg => nm_r (nI_1 i) (ih (i + 1) root' lo' hi' sy' g (by omega) (by rw [zt_It ha]; exact hg)))
      · exact absurd (zt_Im.mp z).1 (by omega)
      · have := (zt_Im.mp hj).1
        omega
      · have := zt_Il al i
        omega
  exact ⟨29, key 28 0 (-1) _ _ _ 0 rfl zt_mkn⟩
theorem zx_toggleBounds (hP : zr_P cx cy a_px a_py) (hb : zr_b cx cy) (hBx : zr_B al cx a_lessX) (hBy : zr_B al cy a_lessY) {k : Nat} (hk : k < 28) (hF : zr_F al al' k) (h : ∀ lx ly, zr_B al' cx lx → zr_B al' cy ly → post (f_live, f_held, f_treeRoot, a_px, a_py, a_byX, a_rowHead, a_rowNext, a_cell, a_quad, a_quadX, a_quadY, a_quadSide, a_treeLow, a_treeHigh, a_splitsByY, lx, ly, a_slice, a_waiting, a_waitingGap)) : wpX_toggleBounds post (f_live, f_held, f_treeRoot, a_px, a_py, a_byX, a_rowHead, a_rowNext, a_cell, a_quad, a_quadX, a_quadY, a_quadSide, a_treeLow, a_treeHigh, a_splitsByY, a_lessX, a_lessY, a_slice, a_waiting, a_waitingGap) (nI k) := by
  have hbk := hb k
  have inv0 : ∀ (c : Nat → Nat) (old : Nat → Int32), zr_B al c old → ∀ n, n < 65 → (n < c k + 1 → zs_S (old n) (fun j => al' j && decide (c j < n))) ∧ (c k + 1 ≤ n → zs_S (old n) (fun j => al j && decide (c j < n))) := fun c old ho n hn =>
    ⟨fun z => zr_ff (c := fun j => decide (c j < n)) (ho n hn) hF (decide_eq_false (by omega)), fun _ => ho n hn⟩
  have step : ∀ (c : Nat → Nat) (a : Nat → Int32) (b : Nat), b < 65 → c k < b → (∀ n, n < 65 → (n < b → zs_S (a n) (fun j => al' j && decide (c j < n))) ∧ (b ≤ n → zs_S (a n) (fun j => al j && decide (c j < n)))) → ∀ n, n < 65 → (n < b + 1 → zs_S (upd a b (a b ^^^ (1 <<< (nI k &&& 31))) n) (fun j => al' j && decide (c j < n))) ∧ (b + 1 ≤ n → zs_S (upd a b (a b ^^^ (1 <<< (nI k &&& 31))) n) (fun j => al j && decide (c j < n))) := by
    intro c a b hb65 hcb hA n hn
    by_cases e : n = b
    · subst e
      rw [pk_us]
      exact ⟨fun _ => zr_ft (c := fun j => decide (c j < n)) ((hA n hn).2 (Nat.le_refl _)) hk hF (decide_eq_true hcb), fun z => by omega⟩
    · rw [pk_un e]
      exact ⟨fun z => (hA n hn).1 (by omega), fun z => (hA n hn).2 (by omega)⟩
  have key2 : ∀ (lx : Nat → Int32), zr_B al' cx lx → ∀ d b (a : Nat → Int32), b + d = 65 → cy k < b → (∀ n, n < 65 → (n < b → zs_S (a n) (fun j => al' j && decide (cy j < n))) ∧ (b ≤ n → zs_S (a n) (fun j => al j && decide (cy j < n)))) → wX_toggleBounds_42 post (nI k) f_live f_held f_treeRoot (d + 1) (nI b) a_px a_py a_byX a_rowHead a_rowNext a_cell a_quad a_quadX a_quadY a_quadSide a_treeLow a_treeHigh a_splitsByY (lx) (a) a_slice a_waiting a_waitingGap := by
    intro lx hlx d
    induction d with
    | zero =>
      intro b a hbd hcb hA
      have e : b = 65 := by omega
      subst e
      exact br_t (nI_le (a := 65) (Nat.le_refl _) (by omega)) (h _ _ hlx (fun n hn => (hA n hn).1 hn))
    | succ d ih =>
      intro b a hbd hcb hA
      have e : (nI b).toNatClampNeg = b := nI_clamp (by omega)
      have i65 : vp_in (nI b) 65 := vp_in_nI (by omega) (by omega)
      exact br_f (nI_ge (b := 65) (by omega) (by omega)) ⟨i65, i65, nm_r (e' := upd a b (a b ^^^ (1 <<< (nI k &&& 31)))) (by rw [e]) (nm_r (nI_1 b) (ih (b + 1) _ (by omega) (by omega) (step cy a b (by omega) hcb hA)))⟩
  have key1 : ∀ d b (a : Nat → Int32), b + d = 65 → cx k < b → (∀ n, n < 65 → (n < b → zs_S (a n) (fun j => al' j && decide (cx j < n))) ∧ (b ≤ n → zs_S (a n) (fun j => al j && decide (cx j < n)))) → wX_toggleBounds_9 post (nI k) f_live f_held f_treeRoot (d + 1) (nI b) a_px a_py a_byX a_rowHead a_rowNext a_cell a_quad a_quadX a_quadY a_quadSide a_treeLow a_treeHigh a_splitsByY (a) a_lessY a_slice a_waiting a_waitingGap := by
    intro d
    induction d with
    | zero =>
      intro b a hbd hcb hA
      have e : b = 65 := by omega
      subst e
      exact br_t (nI_le (a := 65) (Nat.le_refl _) (by omega)) ⟨zx_i28 hk, nm_r (e' := nI (cy k + 1)) (by rw [zx_pyI hP hk, nI_1]) ⟨65 - (cy k + 1) + 1, key2 a (fun n hn => (hA n hn).1 hn) (65 - (cy k + 1)) (cy k + 1) a_lessY (by omega) (by omega) (inv0 cy a_lessY hBy)⟩⟩
    | succ d ih =>
      intro b a hbd hcb hA
      have e : (nI b).toNatClampNeg = b := nI_clamp (by omega)
      have i65 : vp_in (nI b) 65 := vp_in_nI (by omega) (by omega)
      exact br_f (nI_ge (b := 65) (by omega) (by omega)) ⟨i65, i65, nm_r (e' := upd a b (a b ^^^ (1 <<< (nI k &&& 31)))) (by rw [e]) (nm_r (nI_1 b) (ih (b + 1) _ (by omega) (by omega) (step cx a b (by omega) hcb hA)))⟩
  exact ⟨zx_i28 hk, nm_r (e' := nI (cx k + 1)) (by rw [zx_pxI hP hk, nI_1]) ⟨65 - (cx k + 1) + 1, key1 (65 - (cx k + 1)) (cx k + 1) a_lessX (by omega) (by omega) (inv0 cx a_lessX hBx)⟩⟩
theorem zx_toggleSlices (hP : zr_P cx cy a_px a_py) (hb : zr_b cx cy) (hI : zr_I al cx cy a_slice) {k : Nat} (hk : k < 28) (hF : zr_F al al' k) (h : ∀ sl, zr_I al' cx cy sl → post (f_live, f_held, f_treeRoot, a_px, a_py, a_byX, a_rowHead, a_rowNext, a_cell, a_quad, a_quadX, a_quadY, a_quadSide, a_treeLow, a_treeHigh, a_splitsByY, a_lessX, a_lessY, sl, a_waiting, a_waitingGap)) : wpX_toggleSlices post (f_live, f_held, f_treeRoot, a_px, a_py, a_byX, a_rowHead, a_rowNext, a_cell, a_quad, a_quadX, a_quadY, a_quadSide, a_treeLow, a_treeHigh, a_splitsByY, a_lessX, a_lessY, a_slice, a_waiting, a_waitingGap) (nI k) := by
  have hbk := hb k
  have key : ∀ d i (a : Nat → Int32), i + d = 6 → (∀ b, b < 6 → (b < i → zs_S (a b) (fun j => al' j && zr_h (cx j) b) ∧ zs_S (a (6 + b)) (fun j => al' j && zr_h (cy j) b)) ∧ (i ≤ b → zs_S (a b) (fun j => al j && zr_h (cx j) b) ∧ zs_S (a (6 + b)) (fun j => al j && zr_h (cy j) b))) → wX_toggleSlices_2 post (nI k) f_live f_held f_treeRoot (d + 1) (nI i) a_px a_py a_byX a_rowHead a_rowNext a_cell a_quad a_quadX a_quadY a_quadSide a_treeLow a_treeHigh a_splitsByY a_lessX a_lessY (a) a_waiting a_waitingGap := by
    intro d
    induction d with
    | zero =>
      intro i a hid hA
      have e : i = 6 := by omega
      subst e
      exact br_t (nI_le (a := 6) (Nat.le_refl _) (by omega)) (h _ (fun b hb2 => (hA b hb2).1 hb2))
    | succ d ih =>
      intro i a hid hA
      have hi6 : i < 6 := by omega
      have e1 : (nI i).toNatClampNeg = i := nI_clamp (by omega)
      have e6 : 6 + nI i = nI (6 + i) := nI_add 6 i
      have e2 : (nI (6 + i)).toNatClampNeg = 6 + i := nI_clamp (by omega)
      have ex : (a_px (nI k).toNatClampNeg >>> (nI i &&& 31)) &&& 1 = if zr_h (cx k) i then 1 else 0 := by rw [zx_pxI hP hk]; exact zi_bit (by omega) (by omega)
      have ey : (a_py (nI k).toNatClampNeg >>> (nI i &&& 31)) &&& 1 = if zr_h (cy k) i then 1 else 0 := by rw [zx_pyI hP hk]; exact zi_bit (by omega) (by omega)
      have i12 : vp_in (nI i) 12 := vp_in_nI (by omega) (by omega)
      have j12 : vp_in (6 + nI i) 12 := by rw [e6]; exact vp_in_nI (by omega) (by omega)
      obtain ⟨hx0, hy0⟩ := (hA i hi6).2 (Nat.le_refl _)
      refine br_f (nI_ge (b := 6) (by omega) (by omega)) ⟨i12, zx_i28 hk, i12, nm_r (e' := upd a i (a i ^^^ ((if zr_h (cx k) i then 1 else 0) <<< (nI k &&& 31)))) (by rw [e1, ex]) ⟨j12, zx_i28 hk, j12, nm_r (e' := upd (upd a i (a i ^^^ ((if zr_h (cx k) i then 1 else 0) <<< (nI k &&& 31)))) (6 + i) (a (6 + i) ^^^ ((if zr_h (cy k) i then 1 else 0) <<< (nI k &&& 31)))) (by rw [e6, e2, ey, pk_un (f := a) (show 6 + i ≠ i by omega)]) (nm_r (nI_1 i) (ih (i + 1) _ (by omega) (fun b hb2 => ?_)))⟩⟩
      by_cases e : b = i
      · subst e
        rw [pk_un (show b ≠ 6 + b by omega), pk_us, pk_us]
        exact ⟨fun _ => ⟨zr_fb (c := fun j => zr_h (cx j) b) hx0 hk hF, zr_fb (c := fun j => zr_h (cy j) b) hy0 hk hF⟩, fun z => by omega⟩
      · rw [pk_un (show b ≠ 6 + i by omega), pk_un e, pk_un (show 6 + b ≠ 6 + i by omega), pk_un (show 6 + b ≠ i by omega)]
        exact ⟨fun z => (hA b hb2).1 (by omega), fun z => (hA b hb2).2 (by omega)⟩
  exact ⟨7, key 6 0 a_slice rfl (fun b hb2 => ⟨fun z => by omega, fun _ => hI b hb2⟩)⟩
end
end
section
/-! ===== the relation, the constructor, enter and leave, the dispatchers ===== -/
def zr_A (al : Nat → Bool) (cx cy : Nat → Nat) (u : SX) : Prop := match u with
  | (f_live, f_held, f_treeRoot, a_px, a_py, a_byX, a_rowHead, a_rowNext, a_cell, a_quad, a_quadX, a_quadY, a_quadSide, a_treeLow, a_treeHigh, a_splitsByY, a_lessX, a_lessY, a_slice, a_waiting, a_waitingGap) => zs_S f_live al ∧ zr_b cx cy ∧ zr_P cx cy a_px a_py ∧ zr_O al cx f_held a_byX ∧ zr_R al cy a_rowHead a_rowNext ∧ zr_C al cx cy a_cell ∧ zr_Q al cx cy a_quad ∧ zr_L a_quadX a_quadY a_quadSide ∧ zr_T al cx cy f_treeRoot a_treeLow a_treeHigh a_splitsByY ∧ zr_B al cx a_lessX ∧ zr_B al cy a_lessY ∧ zr_I al cx cy a_slice
section
variable {f_live f_held f_treeRoot : Int32} {a_px a_py a_byX a_rowHead a_rowNext a_cell a_quad a_quadX a_quadY a_quadSide a_treeLow a_treeHigh a_splitsByY a_lessX a_lessY a_slice a_waiting a_waitingGap : Nat → Int32} {al : Nat → Bool} {cx cy : Nat → Nat}
theorem zx_enter {post : SX → Prop} (hA : zr_A al cx cy (f_live, f_held, f_treeRoot, a_px, a_py, a_byX, a_rowHead, a_rowNext, a_cell, a_quad, a_quadX, a_quadY, a_quadSide, a_treeLow, a_treeHigh, a_splitsByY, a_lessX, a_lessY, a_slice, a_waiting, a_waitingGap)) {k p : Nat} (hk : k < 28) (ha : al k = false) (hp : p < 4096) (h : ∀ u', zr_A (fun j => al j || decide (j = k)) (zr_w cx k (p % 64)) (zr_w cy k (p / 64)) u' → post u') : wpX_enter post (f_live, f_held, f_treeRoot, a_px, a_py, a_byX, a_rowHead, a_rowNext, a_cell, a_quad, a_quadX, a_quadY, a_quadSide, a_treeLow, a_treeHigh, a_splitsByY, a_lessX, a_lessY, a_slice, a_waiting, a_waitingGap) (nI k) (nI p) := by
  unfold wpX_enter
  obtain ⟨hl, hb, hP, hO, hR, hC, hQ, hL, hT, hBx, hBy, hI⟩ := hA
  have e1 : (nI k).toNatClampNeg = k := nI_clamp (by omega)
  have hF := zr_Fin al k ha
  have hb2 : zr_b (zr_w cx k (p % 64)) (zr_w cy k (p / 64)) := zr_wb hb (by omega) (by omega)
  have hP2 := zr_wP (k := k) (x := p % 64) (y := p / 64) hP
  have hO2 := zr_wO (x := p % 64) hO ha
  have hR2 := zr_wR (y := p / 64) hR ha
  have hC2 := zr_wC (x := p % 64) (y := p / 64) hC ha
  have hQ2 := zr_wQ (x := p % 64) (y := p / 64) hQ ha
  have hT2 := zr_wT (x := p % 64) (y := p / 64) hT ha
  have hBx2 := zr_wB (x := p % 64) hBx ha
  have hBy2 := zr_wB (x := p / 64) hBy ha
  have hI2 := zr_wI (x := p % 64) (y := p / 64) hI ha
  refine zx_xOf hp ⟨zx_i28 hk, nm_r (e' := upd a_px k (nI (p % 64))) (by rw [e1]) (zx_yOf hp ⟨zx_i28 hk, nm_r (e' := upd a_py k (nI (p / 64))) (by rw [e1]) (nm_e ?_)⟩)⟩
  refine zx_enterSorted hP2 hb2 hO2 hk ha hF (fun held byX hO3 => ?_)
  refine zx_enterRow hP2 hb2 hR2 hk ha hF (fun rh rn hR3 => ?_)
  refine zx_toggleCell hP2 hb2 hC2 hk hF (fun c hC3 => ?_)
  refine zx_toggleQuads hP2 hb2 hL hQ2 hk hF (fun q hQ3 => ?_)
  refine zx_growTree hP2 hb2 hT2 hk ha hF (fun root lo hi sy hT3 => ?_)
  refine zx_toggleBounds hP2 hb2 hBx2 hBy2 hk hF (fun lx ly hBx3 hBy3 => ?_)
  refine zx_toggleSlices hP2 hb2 hI2 hk hF (fun sl hI3 => ?_)
  exact h _ ⟨zs_set hl hk, hb2, hP2, hO3, hR3, hC3, hQ3, hL, hT3, hBx3, hBy3, hI3⟩
theorem zx_leave {post : SX → Prop} (hA : zr_A al cx cy (f_live, f_held, f_treeRoot, a_px, a_py, a_byX, a_rowHead, a_rowNext, a_cell, a_quad, a_quadX, a_quadY, a_quadSide, a_treeLow, a_treeHigh, a_splitsByY, a_lessX, a_lessY, a_slice, a_waiting, a_waitingGap)) {k : Nat} (hk : k < 28) (ha : al k = true) (h : ∀ u', zr_A (fun j => al j && !decide (j = k)) cx cy u' → post u') : wpX_leave post (f_live, f_held, f_treeRoot, a_px, a_py, a_byX, a_rowHead, a_rowNext, a_cell, a_quad, a_quadX, a_quadY, a_quadSide, a_treeLow, a_treeHigh, a_splitsByY, a_lessX, a_lessY, a_slice, a_waiting, a_waitingGap) (nI k) := by
  unfold wpX_leave
  obtain ⟨hl, hb, hP, hO, hR, hC, hQ, hL, hT, hBx, hBy, hI⟩ := hA
  have hF := zr_Fout al k ha
  have hl2 := zs_clr hl hk
  refine nm_e ?_
  refine zx_leaveSorted hO hk ha hF (fun held byX hO3 => ?_)
  refine zx_leaveRow hP hb hR hk ha hF (fun rh rn hR3 => ?_)
  refine zx_toggleCell hP hb hC hk hF (fun c hC3 => ?_)
  refine zx_toggleQuads hP hb hL hQ hk hF (fun q hQ3 => ?_)
  refine zx_replant hl2 hP hb (fun root lo hi sy hT3 => ?_)
  refine zx_toggleBounds hP hb hBx hBy hk hF (fun lx ly hBx3 hBy3 => ?_)
  refine zx_toggleSlices hP hb hI hk hF (fun sl hI3 => ?_)
  exact h _ ⟨hl2, hb, hP, hO3, hR3, hC3, hQ3, hL, hT3, hBx3, hBy3, hI3⟩
/-! the constructor -/
def zq_T (c : Nat) (qx qy qs : Nat → Int32) : Prop := ∀ n, n < c → qx n = nI (zq_x n) ∧ qy n = nI (zq_y n) ∧ qs n = nI (zq_s n)
theorem zx_lq27 {post : SX → Prop} {J : Int32 → (Nat → Int32) → (Nat → Int32) → (Nat → Int32) → (Nat → Int32) → (Nat → Int32) → (Nat → Int32) → (Nat → Int32) → (Nat → Int32) → (Nat → Int32) → (Nat → Int32) → (Nat → Int32) → (Nat → Int32) → (Nat → Int32) → (Nat → Int32) → (Nat → Int32) → (Nat → Int32) → (Nat → Int32) → (Nat → Int32) → Prop} {m : Nat} (hm : m < 85) (h : ∀ qx qy qs, zq_T (4 * (m + 1) + 1) qx qy qs → J (nI (m + 1)) a_px a_py a_byX a_rowHead a_rowNext a_cell a_quad (qx) (qy) (qs) a_treeLow a_treeHigh a_splitsByY a_lessX a_lessY a_slice a_waiting a_waitingGap) :
    ∀ d q (qx qy qs : Nat → Int32), q + d = 4 → zq_T (4 * m + 1 + q) qx qy qs → wX_layOutQuads_27 post J (nI m) (nI (zq_s m / 2)) f_live f_held f_treeRoot (d + 1) (nI q) a_px a_py a_byX a_rowHead a_rowNext a_cell a_quad (qx) (qy) (qs) a_treeLow a_treeHigh a_splitsByY a_lessX a_lessY a_slice a_waiting a_waitingGap := by
  intro d
  induction d with
  | zero =>
    intro q qx qy qs hqd hT
    have e : q = 4 := by omega
    subst e
    exact br_t (nI_le (a := 4) (Nat.le_refl _) (by omega)) (nm_r (nI_1 m) (h qx qy qs (by rw [show 4 * (m + 1) + 1 = 4 * m + 1 + 4 by omega]; exact hT)))
  | succ d ih =>
    intro q qx qy qs hqd hT
    have hq : q < 4 := by omega
    have hi : 4 * m + 1 + q < 341 := by omega
    obtain ⟨t1, t2, t3⟩ := hT m (by omega)
    have em : (nI m).toNatClampNeg = m := nI_clamp (by omega)
    have ei : (nI (4 * m + 1 + q)).toNatClampNeg = 4 * m + 1 + q := nI_clamp (by omega)
    have e4 : 4 * nI m + 1 + nI q = nI (4 * m + 1 + q) := by
      have e5 : 4 * nI m = nI (4 * m) := pk_mul 4 m
      rw [e5, nI_1, nI_add]
    have er : nI q - nI q / 2 * 2 = nI (q % 2) := pk_rem (d := 2) (by omega) (by omega) (by omega)
    have ed : nI q / 2 = nI (q / 2) := pk_div (d := 2) (by omega) (by omega) (by omega)
    refine br_f (nI_ge (b := 4) hq (by omega)) (nm_r e4 ⟨zx_i341 (by omega), by decide, zx_i341 hi, nm_r (e' := upd qx (4 * m + 1 + q) (nI (zq_x (4 * m + 1 + q)))) (by rw [ei, em, t1, er, pk_mul, nI_add, zq_stx m hm q hq]) ⟨zx_i341 (by omega), by decide, zx_i341 hi, nm_r (e' := upd qy (4 * m + 1 + q) (nI (zq_y (4 * m + 1 + q)))) (by rw [ei, em, t2, ed, pk_mul, nI_add, zq_sty m hm q hq]) ⟨zx_i341 hi, nm_r (e' := upd qs (4 * m + 1 + q) (nI (zq_s (4 * m + 1 + q)))) (by rw [ei, zq_sts m hm q hq]) (nm_r (nI_1 q) (ih (q + 1) _ _ _ (by omega) (fun n hn => ?_)))⟩⟩⟩)
    by_cases e : n = 4 * m + 1 + q
    · subst e
      rw [pk_us, pk_us, pk_us]
      exact ⟨rfl, rfl, rfl⟩
    · rw [pk_un e, pk_un e, pk_un e]
      exact hT n (by omega)
theorem zx_layOut {post : SX → Prop} (h1 : ∀ n, a_quadX n = 0) (h2 : ∀ n, a_quadY n = 0) (h : ∀ qx qy qs, zr_L qx qy qs → post (f_live, f_held, f_treeRoot, a_px, a_py, a_byX, a_rowHead, a_rowNext, a_cell, a_quad, qx, qy, qs, a_treeLow, a_treeHigh, a_splitsByY, a_lessX, a_lessY, a_slice, a_waiting, a_waitingGap)) : wpX_layOutQuads post (f_live, f_held, f_treeRoot, a_px, a_py, a_byX, a_rowHead, a_rowNext, a_cell, a_quad, a_quadX, a_quadY, a_quadSide, a_treeLow, a_treeHigh, a_splitsByY, a_lessX, a_lessY, a_slice, a_waiting, a_waitingGap) := by
  have key : ∀ d m (qx qy qs : Nat → Int32), m + d = 85 → zq_T (4 * m + 1) qx qy qs → wX_layOutQuads_10 post f_live f_held f_treeRoot (d + 1) (nI m) a_px a_py a_byX a_rowHead a_rowNext a_cell a_quad (qx) (qy) (qs) a_treeLow a_treeHigh a_splitsByY a_lessX a_lessY a_slice a_waiting a_waitingGap := by
    intro d
    induction d with
    | zero =>
      intro m qx qy qs hmd hT
      have e : m = 85 := by omega
      subst e
      exact br_t (nI_le (a := 85) (Nat.le_refl _) (by omega)) (h qx qy qs (fun n hn => hT n hn))
    | succ d ih =>
      intro m qx qy qs hmd hT
      have hm : m < 85 := by omega
      have hbd := zq_bd m (by omega)
      have em : (nI m).toNatClampNeg = m := nI_clamp (by omega)
      refine br_f (nI_ge (b := 85) hm (by omega)) ⟨zx_i341 (by omega), by decide, nm_r (e' := nI (zq_s m / 2)) (by rw [em, (hT m (by omega)).2.2]; exact zn_2 (by omega)) ⟨5, ?_⟩⟩
      exact zx_lq27 hm (fun qx2 qy2 qs2 hT2 => ih (m + 1) qx2 qy2 qs2 (by omega) hT2) 4 0 qx qy qs rfl hT
  refine nm_e ⟨86, key 85 0 _ _ _ rfl (fun n hn => ?_)⟩
  have e : n = 0 := by omega
  subst e
  rw [h1, h2, pk_us]
  decide
theorem zx_init {post : SX → Prop} (h : ∀ rh qx qy qs, (∀ y, y < 64 → rh y = -1) → zr_L qx qy qs → post (0, 0, -1, (fun _ => 0), (fun _ => 0), (fun _ => 0), rh, (fun _ => 0), (fun _ => 0), (fun _ => 0), qx, qy, qs, (fun _ => 0), (fun _ => 0), (fun _ => 0), (fun _ => 0), (fun _ => 0), (fun _ => 0), (fun _ => 0), (fun _ => 0))) : wpX_init post := by
  have key : ∀ d y (rh : Nat → Int32), y + d = 64 → (∀ j, j < y → rh j = -1) → wX_init_170 post 0 0 (-1) (d + 1) (nI y) (fun _ => 0) (fun _ => 0) (fun _ => 0) rh (fun _ => 0) (fun _ => 0) (fun _ => 0) (fun _ => 0) (fun _ => 0) (fun _ => 0) (fun _ => 0) (fun _ => 0) (fun _ => 0) (fun _ => 0) (fun _ => 0) (fun _ => 0) (fun _ => 0) (fun _ => 0) := by
    intro d
    induction d with
    | zero =>
      intro y rh hyd hr
      have e : y = 64 := by omega
      subst e
      exact br_t (nI_le (a := 64) (Nat.le_refl _) (by omega)) (zx_layOut (fun _ => rfl) (fun _ => rfl) (fun qx qy qs hL => h rh qx qy qs hr hL))
    | succ d ih =>
      intro y rh hyd hr
      refine br_f (nI_ge (b := 64) (by omega) (by omega)) ⟨vp_in_nI (by omega) (by omega), nm_r (e' := upd rh y (-1)) (by rw [nI_clamp (by omega)]) (nm_r (nI_1 y) (ih (y + 1) _ (by omega) (fun j hj => ?_)))⟩
      by_cases e : j = y
      · subst e; exact pk_us
      · rw [pk_un e]; exact hr j (by omega)
  exact ⟨65, key 64 0 _ rfl (fun j hj => by omega)⟩
/-! inside and nearest by any engine -/
theorem zx_c8 {p0 : Int32} {A0 A1 A2 A3 A4 A5 A6 A7 : Prop} {e : Nat} (he : e < 8) (hp : p0 = nI e) (h0 : e = 0 → A0) (h1 : e = 1 → A1) (h2 : e = 2 → A2) (h3 : e = 3 → A3) (h4 : e = 4 → A4) (h5 : e = 5 → A5) (h6 : e = 6 → A6) (h7 : e = 7 → A7) : ((p0 = 0 → A0) ∧ (¬ p0 = 0 → ((p0 = 1 → A1) ∧ (¬ p0 = 1 → ((p0 = 2 → A2) ∧ (¬ p0 = 2 → ((p0 = 3 → A3) ∧ (¬ p0 = 3 → ((p0 = 4 → A4) ∧ (¬ p0 = 4 → ((p0 = 5 → A5) ∧ (¬ p0 = 5 → ((p0 = 6 → A6) ∧ (¬ p0 = 6 → ((p0 = 7 → A7) ∧ (¬ p0 = 7 → True)))))))))))))))) := by
  subst hp
  exact pk_eq e 0 h0 (fun _ => pk_eq e 1 h1 (fun _ => pk_eq e 2 h2 (fun _ => pk_eq e 3 h3 (fun _ => pk_eq e 4 h4 (fun _ => pk_eq e 5 h5 (fun _ => pk_eq e 6 h6 (fun _ => pk_eq e 7 h7 (fun _ => trivial))))))))
theorem zx_c4 {p0 : Int32} {A0 A1 A2 A3 : Prop} {e : Nat} (he : e < 4) (hp : p0 = nI e) (h0 : e = 0 → A0) (h1 : e = 1 → A1) (h2 : e = 2 → A2) (h3 : e = 3 → A3) : ((p0 = 0 → A0) ∧ (¬ p0 = 0 → ((p0 = 1 → A1) ∧ (¬ p0 = 1 → ((p0 = 2 → A2) ∧ (¬ p0 = 2 → ((p0 = 3 → A3) ∧ (¬ p0 = 3 → True)))))))) := by
  subst hp
  exact pk_eq e 0 h0 (fun _ => pk_eq e 1 h1 (fun _ => pk_eq e 2 h2 (fun _ => pk_eq e 3 h3 (fun _ => trivial))))
theorem zx_insG {post : Int32 → SX → Prop} (hA : zr_A al cx cy (f_live, f_held, f_treeRoot, a_px, a_py, a_byX, a_rowHead, a_rowNext, a_cell, a_quad, a_quadX, a_quadY, a_quadSide, a_treeLow, a_treeHigh, a_splitsByY, a_lessX, a_lessY, a_slice, a_waiting, a_waitingGap)) {e lo hi : Nat} (he : e < 8) (hlo : lo < 4096) (hhi : hi < 4096) (h : ∀ r u', zr_A al cx cy u' → zs_S r (fun k => al k && zp_in lo hi (cx k) (cy k)) → post r u') : wpX_inside post (f_live, f_held, f_treeRoot, a_px, a_py, a_byX, a_rowHead, a_rowNext, a_cell, a_quad, a_quadX, a_quadY, a_quadSide, a_treeLow, a_treeHigh, a_splitsByY, a_lessX, a_lessY, a_slice, a_waiting, a_waitingGap) (nI e) (nI lo) (nI hi) := by
  unfold wpX_inside
  have hA2 := hA
  obtain ⟨hl, hb, hP, hO, hR, hC, hQ, hL, hT, hBx, hBy, hI⟩ := hA2
  have hA3 : ∀ w g, zr_A al cx cy (f_live, f_held, f_treeRoot, a_px, a_py, a_byX, a_rowHead, a_rowNext, a_cell, a_quad, a_quadX, a_quadY, a_quadSide, a_treeLow, a_treeHigh, a_splitsByY, a_lessX, a_lessY, a_slice, w, g) := fun w g => ⟨hl, hb, hP, hO, hR, hC, hQ, hL, hT, hBx, hBy, hI⟩
  refine zx_isPlaceN hlo (br_f zn_z1 (zx_isPlaceN hhi (br_f zn_z1 (br_f (nI_pos (by omega)) (br_f (nI_nlt (a := 7) (by omega) (by omega)) ?_)))))
  exact zx_c8 he rfl (fun _ => zx_insideOf hP hb hl hlo hhi (fun r hr => h r _ hA hr)) (fun _ => zx_insideSorted hP hb hO hlo hhi (fun r hr => h r _ hA hr)) (fun _ => zx_insideRows hP hb hR hlo hhi (fun r hr => h r _ hA hr)) (fun _ => zx_insideGrid hP hb hC hlo hhi (fun r hr => h r _ hA hr)) (fun _ => zx_insideQuads hP hb hL hQ hlo hhi (fun r w hr => h r _ (hA3 w a_waitingGap) hr)) (fun _ => zx_insideTree hP hb hT hlo hhi (fun r w g hr => h r _ (hA3 w g) hr)) (fun _ => zx_insideBounds hBx hBy hlo hhi (fun r hr => h r _ hA hr)) (fun _ => zx_insideSlices hl hb hI hlo hhi (fun r hr => h r _ hA hr))
theorem zx_insB {post : Int32 → SX → Prop} {e lo hi : Int32} (hbad : zp_bad e lo hi) (h : post (-1) (f_live, f_held, f_treeRoot, a_px, a_py, a_byX, a_rowHead, a_rowNext, a_cell, a_quad, a_quadX, a_quadY, a_quadSide, a_treeLow, a_treeHigh, a_splitsByY, a_lessX, a_lessY, a_slice, a_waiting, a_waitingGap)) : wpX_inside post (f_live, f_held, f_treeRoot, a_px, a_py, a_byX, a_rowHead, a_rowNext, a_cell, a_quad, a_quadX, a_quadY, a_quadSide, a_treeLow, a_treeHigh, a_splitsByY, a_lessX, a_lessY, a_slice, a_waiting, a_waitingGap) e lo hi := by
  unfold wpX_inside
  refine zx_isPlace (fun p hp e1 => br_f zn_z1 (zx_isPlace (fun q hq e2 => br_f zn_z1 ?_) (fun _ => br_t rfl h))) (fun _ => br_t rfl h)
  rcases zp_ix e 8 (by omega) with ⟨j, hj, e3⟩ | ⟨h0, hn⟩ | ⟨m, h1, h2, e3, hn⟩
  · rcases hbad with z | z | z
    · exact absurd e3 (z j hj)
    · exact absurd e1 (z p hp)
    · exact absurd e2 (z q hq)
  · exact br_t h0 h
  · subst e3
    exact br_f (nI_pos h2) (br_t (nI_lt (a := 7) (by omega) h2) h)
theorem zx_nearest {post : Int32 → SX → Prop} (hA : zr_A al cx cy (f_live, f_held, f_treeRoot, a_px, a_py, a_byX, a_rowHead, a_rowNext, a_cell, a_quad, a_quadX, a_quadY, a_quadSide, a_treeLow, a_treeHigh, a_splitsByY, a_lessX, a_lessY, a_slice, a_waiting, a_waitingGap)) {e p : Nat} (he : e < 4) (hp : p < 4096) (h : ∀ u', zr_A al cx cy u' → post (zo_a al (zp_f cx cy p) 0) u') : wpX_nearest post (f_live, f_held, f_treeRoot, a_px, a_py, a_byX, a_rowHead, a_rowNext, a_cell, a_quad, a_quadX, a_quadY, a_quadSide, a_treeLow, a_treeHigh, a_splitsByY, a_lessX, a_lessY, a_slice, a_waiting, a_waitingGap) (nI e) (nI p) := by
  unfold wpX_nearest
  have hA2 := hA
  obtain ⟨hl, hb, hP, hO, hR, hC, hQ, hL, hT, hBx, hBy, hI⟩ := hA2
  have hA3 : ∀ w g, zr_A al cx cy (f_live, f_held, f_treeRoot, a_px, a_py, a_byX, a_rowHead, a_rowNext, a_cell, a_quad, a_quadX, a_quadY, a_quadSide, a_treeLow, a_treeHigh, a_splitsByY, a_lessX, a_lessY, a_slice, w, g) := fun w g => ⟨hl, hb, hP, hO, hR, hC, hQ, hL, hT, hBx, hBy, hI⟩
  have hB : ∀ r u', zr_A al cx cy u' → zo_B al (zp_f cx cy p) r (fun k => al k = true) → post r u' := fun r u' q1 q2 => by
    rw [zo_best q2]
    exact h u' q1
  refine br_c (fun z => hB _ _ hA (zo_0 _ _ (fun k hk w => ?_))) (fun z => zx_isPlaceN hp (br_f zn_z1 (br_f (nI_pos (by omega)) (br_f (nI_nlt (a := 3) (by omega) (by omega)) ?_))))
  · rw [zs_e hl z hk] at w
    exact absurd w (by decide)
  · exact zx_c4 he rfl (fun _ => zx_nearestOf hP hb hp hl (fun _ _ z => z) (zo_0 al _ (P := fun _ => False) (fun _ _ z => z)) (fun r hr => hB r _ hA (zo_cg hr (fun k _ z => Or.inr z)))) (fun _ => zx_nearestSorted hP hb hO hp (fun r hr => hB r _ hA hr)) (fun _ => zx_nearestGrid hP hb hC hp (fun r hr => hB r _ hA hr)) (fun _ => zx_nearestTree hP hb hT hp (fun r w g hr => hB r _ (hA3 w g) hr))
theorem zx_nearestB {post : Int32 → SX → Prop} {e x : Int32} (hbad : (∀ j, j < 4 → ¬ e = nI j) ∨ (∀ p, p < 4096 → ¬ x = nI p)) (h : post (-1) (f_live, f_held, f_treeRoot, a_px, a_py, a_byX, a_rowHead, a_rowNext, a_cell, a_quad, a_quadX, a_quadY, a_quadSide, a_treeLow, a_treeHigh, a_splitsByY, a_lessX, a_lessY, a_slice, a_waiting, a_waitingGap)) : wpX_nearest post (f_live, f_held, f_treeRoot, a_px, a_py, a_byX, a_rowHead, a_rowNext, a_cell, a_quad, a_quadX, a_quadY, a_quadSide, a_treeLow, a_treeHigh, a_splitsByY, a_lessX, a_lessY, a_slice, a_waiting, a_waitingGap) e x := by
  unfold wpX_nearest
  refine br_c (fun _ => h) (fun _ => zx_isPlace (fun p hp e1 => br_f zn_z1 ?_) (fun _ => br_t rfl h))
  rcases zp_ix e 4 (by omega) with ⟨j, hj, e3⟩ | ⟨h0, hn⟩ | ⟨m, h1, h2, e3, hn⟩
  · rcases hbad with z | z
    · exact absurd e3 (z j hj)
    · exact absurd e1 (z p hp)
  · exact br_t h0 h
  · subst e3
    exact br_f (nI_pos h2) (br_t (nI_lt (a := 3) (by omega) h2) h)
end
end
section
/-! ===== the calls that change, count, agree, square: each side ===== -/
theorem zr_Vmv {al : Nat → Bool} {cx cy : Nat → Nat} {v : Nat → Int32} (h : zr_V al cx cy v) (k p : Nat) : zr_V (fun j => (al j && !decide (j = k)) || decide (j = k)) (zr_w cx k (p % 64)) (zr_w cy k (p / 64)) (upd v k (nI (p + 1))) := by
  intro j hj
  have := zr_Vin h k p j hj
  rw [this]
  by_cases e : j = k
  · subst e; simp
  · simp [e]
section
variable {al : Nat → Bool} {cx cy : Nat → Nat} {v : Nat → Int32} {post : Int32 → SY → Prop}
theorem zy_addG (hV : zr_V al cx cy v) (hb : zr_b cx cy) {p k : Nat} (hp : p < 4096) (hk : k < 28) (ha : al k = false) (hall : ∀ j, j < k → al j = true) (h : post (nI k) (upd v k (nI (p + 1)))) : wpY_add post v (nI p) := by
  unfold wpY_add
  have key : ∀ d i, i + d = k → wY_add_12 post (nI p) v (d + 1) (nI i) := by
    intro d
    induction d with
    | zero =>
      intro i hi
      have e : i = k := by omega
      subst e
      have e1 : (nI i).toNatClampNeg = i := nI_clamp (by omega)
      exact br_f (zn_28f hk) ⟨zx_i28 hk, br_t (by rw [e1]; exact zr_Vf hV hk ha) ⟨zx_i28 hk, nm_r (e' := upd v i (nI (p + 1))) (by rw [e1, nI_1]) h⟩⟩
    | succ d ih =>
      intro i hi
      have hi28 : i < 28 := by omega
      have e1 : (nI i).toNatClampNeg = i := nI_clamp (by omega)
      refine br_f (zn_28f hi28) ⟨zx_i28 hi28, br_f ?_ (nm_r (nI_1 i) (ih (i + 1) (by omega)))⟩
      rw [e1, zr_Vt hV hi28 (hall i (by omega))]
      have := zp_pl hb i
      exact nI_ne0 (by omega) (by omega)
  exact zy_isPlaceN hp (br_f zn_z1 ⟨k + 1, key k 0 (by omega)⟩)
theorem zy_addF (hV : zr_V al cx cy v) (hb : zr_b cx cy) {p : Nat} (hp : p < 4096) (hall : ∀ j, j < 28 → al j = true) (h : post (-2) v) : wpY_add post v (nI p) := by
  unfold wpY_add
  have key : ∀ d i, i + d = 28 → wY_add_12 post (nI p) v (d + 1) (nI i) := by
    intro d
    induction d with
    | zero =>
      intro i hi
      have e : i = 28 := by omega
      subst e
      exact br_t zn_28t h
    | succ d ih =>
      intro i hi
      have hi28 : i < 28 := by omega
      have e1 : (nI i).toNatClampNeg = i := nI_clamp (by omega)
      refine br_f (zn_28f hi28) ⟨zx_i28 hi28, br_f ?_ (nm_r (nI_1 i) (ih (i + 1) (by omega)))⟩
      rw [e1, zr_Vt hV hi28 (hall i hi28)]
      have := zp_pl hb i
      exact nI_ne0 (by omega) (by omega)
  exact zy_isPlaceN hp (br_f zn_z1 ⟨29, key 28 0 rfl⟩)
theorem zy_addB {x : Int32} (hn : ∀ p, p < 4096 → ¬ x = nI p) (h : post (-1) v) : wpY_add post v x := by
  unfold wpY_add
  exact zy_isPlace (fun p hp e => absurd e (hn p hp)) (fun _ => br_t rfl h)
theorem zy_removeG (hV : zr_V al cx cy v) (hb : zr_b cx cy) {k : Nat} (hk : k < 28) (ha : al k = true) (h : post (nI (cx k + 64 * cy k)) (upd v k 0)) : wpY_remove post v (nI k) := by
  unfold wpY_remove
  have e1 : (nI k).toNatClampNeg = k := nI_clamp (by omega)
  refine zy_isN hV hb hk (fun _ => br_f zn_z1 ⟨zx_i28 hk, nm_r (e' := nI (cx k + 64 * cy k)) (by rw [e1, zr_Vt hV hk ha, nI_pred]) ⟨zx_i28 hk, nm_r (e' := upd v k 0) (by rw [e1]) h⟩⟩) (fun z => absurd (ha.symm.trans z) (by decide))
theorem zy_removeB (hV : zr_V al cx cy v) (hb : zr_b cx cy) {x : Int32} (hn : ∀ k, k < 28 → x = nI k → al k = false) (h : post (-1) v) : wpY_remove post v x := by
  unfold wpY_remove
  exact zy_is hV hb (fun k hk e ha => absurd (ha.symm.trans (hn k hk e)) (by decide)) (fun _ => br_t rfl h)
theorem zy_moveG (hV : zr_V al cx cy v) (hb : zr_b cx cy) {k p : Nat} (hk : k < 28) (ha : al k = true) (hp : p < 4096) (h : post (nI (cx k + 64 * cy k)) (upd v k (nI (p + 1)))) : wpY_move post v (nI k) (nI p) := by
  unfold wpY_move
  have e1 : (nI k).toNatClampNeg = k := nI_clamp (by omega)
  refine zy_isN hV hb hk (fun _ => br_f zn_z1 (zy_isPlaceN hp (br_f zn_z1 ⟨zx_i28 hk, nm_r (e' := nI (cx k + 64 * cy k)) (by rw [e1, zr_Vt hV hk ha, nI_pred]) ⟨zx_i28 hk, nm_r (e' := upd v k (nI (p + 1))) (by rw [e1, nI_1]) h⟩⟩))) (fun z => absurd (ha.symm.trans z) (by decide))
theorem zy_moveB (hV : zr_V al cx cy v) (hb : zr_b cx cy) {x y : Int32} (hn : (∀ k, k < 28 → x = nI k → al k = false) ∨ (∀ p, p < 4096 → ¬ y = nI p)) (h : post (-1) v) : wpY_move post v x y := by
  unfold wpY_move
  refine zy_is hV hb (fun k hk e ha => br_f zn_z1 (zy_isPlace (fun p hp e2 => ?_) (fun _ => br_t rfl h))) (fun _ => br_t rfl h)
  rcases hn with z | z
  · exact absurd (ha.symm.trans (z k hk e)) (by decide)
  · exact absurd e2 (z p hp)
end
section
variable {al : Nat → Bool} {cx cy : Nat → Nat} {v : Nat → Int32} {post : Int32 → Prop}
theorem zy_at (hV : zr_V al cx cy v) (hb : zr_b cx cy) {x : Int32} (ht : ∀ k, k < 28 → x = nI k → al k = true → post (nI (cx k + 64 * cy k))) (hf : (∀ k, k < 28 → x = nI k → al k = false) → post (-1)) : wpY_at post v x := by
  unfold wpY_at
  refine zy_is hV hb (fun k hk e ha => br_f zn_z1 ?_) (fun z => br_t rfl (hf z))
  subst e
  refine ⟨zx_i28 hk, ?_⟩
  rw [nI_clamp (show k < 2 ^ 31 by omega), zr_Vt hV hk ha, nI_pred]
  exact ht k hk rfl ha
theorem zn_cnt {s : Int32} {p : Nat → Bool} (hs : zs_S s p) {i : Nat} (hi : i < 28) : nI (zn_c p i) + ((s >>> (nI i &&& 31)) &&& 1) = nI (zn_c p (i + 1)) := by
  rw [zs_t hs hi]
  show _ = nI (zn_c p i + (if p i then 1 else 0))
  cases p i
  · exact nI_add _ 0
  · exact nI_add _ 1
theorem zy_countG {s : Int32} {p : Nat → Bool} (hs : zs_S s p) (h : post (nI (zn_c p 28))) : ∃ n, wY_count_15 post s v n 0 0 := by
  refine loop_0 (fun n i x => wY_count_15 post s v n x (nI i)) (fun i x => x = nI (zn_c p i)) 28 0 rfl (fun n x hx => ?_) (fun n i x hi hx K => ?_)
  · subst hx
    exact br_t zn_28t (br_t (Int32.not_lt.mp (zs_nn hs)) h)
  · subst hx
    exact br_f (zn_28f hi) (nm_r (zn_cnt hs hi) (nm_r (nI_1 i) (K _ rfl)))
theorem zy_countB (h : post (-1)) : ∃ n, wY_count_15 post (-1) v n 0 0 := by
  refine loop_0 (fun n i x => wY_count_15 post (-1) v n x (nI i)) (fun i x => True) 28 0 trivial (fun n x hx => ?_) (fun n i x hi hx K => ?_)
  · exact br_t zn_28t (br_f (by decide) h)
  · exact br_f (zn_28f hi) (nm_e (nm_r (nI_1 i) (K _ trivial)))
theorem zy_nearestB {e x : Int32} (hbad : (∀ j, j < 4 → ¬ e = nI j) ∨ (∀ p, p < 4096 → ¬ x = nI p)) (h : post (-1)) : wpY_nearest post v e x := by
  unfold wpY_nearest
  rcases zp_ix e 4 (by omega) with ⟨j, hj, e3⟩ | ⟨h0, hn⟩ | ⟨m, h1, h2, e3, hn⟩
  · subst e3
    rcases hbad with z | z
    · exact absurd rfl (z j hj)
    · exact br_f (nI_pos (by omega)) (br_f (nI_nlt (a := 3) (by omega) (by omega)) (zy_rankedB z h))
  · exact br_t h0 h
  · subst e3
    exact br_f (nI_pos h2) (br_t (nI_lt (a := 3) (by omega) h2) h)
theorem zy_nearest (hV : zr_V al cx cy v) (hb : zr_b cx cy) {e p : Nat} (he : e < 4) (hp : p < 4096) (h : post (zo_a al (zp_f cx cy p) 0)) : wpY_nearest post v (nI e) (nI p) := by
  unfold wpY_nearest
  exact br_f (nI_pos (by omega)) (br_f (nI_nlt (a := 3) (by omega) (by omega)) (zy_ranked hV hb hp h))
end
section
variable {f_live f_held f_treeRoot : Int32} {a_px a_py a_byX a_rowHead a_rowNext a_cell a_quad a_quadX a_quadY a_quadSide a_treeLow a_treeHigh a_splitsByY a_lessX a_lessY a_slice a_waiting a_waitingGap : Nat → Int32} {al : Nat → Bool} {cx cy : Nat → Nat}
theorem zx_addG {post : Int32 → SX → Prop} (hA : zr_A al cx cy (f_live, f_held, f_treeRoot, a_px, a_py, a_byX, a_rowHead, a_rowNext, a_cell, a_quad, a_quadX, a_quadY, a_quadSide, a_treeLow, a_treeHigh, a_splitsByY, a_lessX, a_lessY, a_slice, a_waiting, a_waitingGap)) {p k : Nat} (hp : p < 4096) (hk : k < 28) (ha : al k = false) (hall : ∀ j, j < k → al j = true) (h : ∀ u', zr_A (fun j => al j || decide (j = k)) (zr_w cx k (p % 64)) (zr_w cy k (p / 64)) u' → post (nI k) u') : wpX_add post (f_live, f_held, f_treeRoot, a_px, a_py, a_byX, a_rowHead, a_rowNext, a_cell, a_quad, a_quadX, a_quadY, a_quadSide, a_treeLow, a_treeHigh, a_splitsByY, a_lessX, a_lessY, a_slice, a_waiting, a_waitingGap) (nI p) := by
  unfold wpX_add
  have hl := hA.1
  have key : ∀ d i, i + d = k → wX_add_11 post (nI p) f_live f_held f_treeRoot a_px a_py a_byX a_rowHead a_rowNext a_cell a_quad a_quadX a_quadY a_quadSide a_treeLow a_treeHigh a_splitsByY a_lessX a_lessY a_slice a_waiting a_waitingGap (d + 1) (nI i) := by
    intro d
    induction d with
    | zero =>
      intro i hi
      have e : i = k := by omega
      subst e
      exact br_f (zn_28f hk) (zx_hasN hl hk (fun z => absurd (z.symm.trans ha) (by decide)) (fun _ => br_t rfl (zx_enter hA hk ha hp (fun u' hu => h u' hu))))
    | succ d ih =>
      intro i hi
      exact br_f (zn_28f (by omega)) (zx_hasN hl (by omega) (fun _ => br_f zn_z1 (nm_r (nI_1 i) (ih (i + 1) (by omega)))) (fun z => absurd ((hall i (by omega)).symm.trans z) (by decide)))
  exact zx_isPlaceN hp (br_f zn_z1 ⟨k + 1, key k 0 (by omega)⟩)
theorem zx_addF {post : Int32 → SX → Prop} (hl : zs_S f_live al) {p : Nat} (hp : p < 4096) (hall : ∀ j, j < 28 → al j = true) (h : post (-2) (f_live, f_held, f_treeRoot, a_px, a_py, a_byX, a_rowHead, a_rowNext, a_cell, a_quad, a_quadX, a_quadY, a_quadSide, a_treeLow, a_treeHigh, a_splitsByY, a_lessX, a_lessY, a_slice, a_waiting, a_waitingGap)) : wpX_add post (f_live, f_held, f_treeRoot, a_px, a_py, a_byX, a_rowHead, a_rowNext, a_cell, a_quad, a_quadX, a_quadY, a_quadSide, a_treeLow, a_treeHigh, a_splitsByY, a_lessX, a_lessY, a_slice, a_waiting, a_waitingGap) (nI p) := by
  unfold wpX_add
  have key : ∀ d i, i + d = 28 → wX_add_11 post (nI p) f_live f_held f_treeRoot a_px a_py a_byX a_rowHead a_rowNext a_cell a_quad a_quadX a_quadY a_quadSide a_treeLow a_treeHigh a_splitsByY a_lessX a_lessY a_slice a_waiting a_waitingGap (d + 1) (nI i) := by
    intro d
    induction d with
    | zero =>
      intro i hi
      have e : i = 28 := by omega
      subst e
      exact br_t zn_28t h
    | succ d ih =>
      intro i hi
      exact br_f (zn_28f (by omega)) (zx_hasN hl (by omega) (fun _ => br_f zn_z1 (nm_r (nI_1 i) (ih (i + 1) (by omega)))) (fun z => absurd ((hall i (by omega)).symm.trans z) (by decide)))
  exact zx_isPlaceN hp (br_f zn_z1 ⟨29, key 28 0 rfl⟩)
theorem zx_addB {post : Int32 → SX → Prop} {x : Int32} (hn : ∀ p, p < 4096 → ¬ x = nI p) (h : post (-1) (f_live, f_held, f_treeRoot, a_px, a_py, a_byX, a_rowHead, a_rowNext, a_cell, a_quad, a_quadX, a_quadY, a_quadSide, a_treeLow, a_treeHigh, a_splitsByY, a_lessX, a_lessY, a_slice, a_waiting, a_waitingGap)) : wpX_add post (f_live, f_held, f_treeRoot, a_px, a_py, a_byX, a_rowHead, a_rowNext, a_cell, a_quad, a_quadX, a_quadY, a_quadSide, a_treeLow, a_treeHigh, a_splitsByY, a_lessX, a_lessY, a_slice, a_waiting, a_waitingGap) x := by
  unfold wpX_add
  exact zx_isPlace (fun p hp e => absurd e (hn p hp)) (fun _ => br_t rfl h)
theorem zx_removeG {post : Int32 → SX → Prop} (hA : zr_A al cx cy (f_live, f_held, f_treeRoot, a_px, a_py, a_byX, a_rowHead, a_rowNext, a_cell, a_quad, a_quadX, a_quadY, a_quadSide, a_treeLow, a_treeHigh, a_splitsByY, a_lessX, a_lessY, a_slice, a_waiting, a_waitingGap)) {k : Nat} (hk : k < 28) (ha : al k = true) (h : ∀ u', zr_A (fun j => al j && !decide (j = k)) cx cy u' → post (nI (cx k + 64 * cy k)) u') : wpX_remove post (f_live, f_held, f_treeRoot, a_px, a_py, a_byX, a_rowHead, a_rowNext, a_cell, a_quad, a_quadX, a_quadY, a_quadSide, a_treeLow, a_treeHigh, a_splitsByY, a_lessX, a_lessY, a_slice, a_waiting, a_waitingGap) (nI k) := by
  unfold wpX_remove
  have hl := hA.1
  have hP := hA.2.2.1
  exact zx_hasN hl hk (fun _ => br_f zn_z1 (zx_placeOf hP hk (zx_leave hA hk ha (fun u' hu => h u' hu)))) (fun z => absurd (ha.symm.trans z) (by decide))
theorem zx_removeB {post : Int32 → SX → Prop} (hl : zs_S f_live al) {x : Int32} (hn : ∀ k, k < 28 → x = nI k → al k = false) (h : post (-1) (f_live, f_held, f_treeRoot, a_px, a_py, a_byX, a_rowHead, a_rowNext, a_cell, a_quad, a_quadX, a_quadY, a_quadSide, a_treeLow, a_treeHigh, a_splitsByY, a_lessX, a_lessY, a_slice, a_waiting, a_waitingGap)) : wpX_remove post (f_live, f_held, f_treeRoot, a_px, a_py, a_byX, a_rowHead, a_rowNext, a_cell, a_quad, a_quadX, a_quadY, a_quadSide, a_treeLow, a_treeHigh, a_splitsByY, a_lessX, a_lessY, a_slice, a_waiting, a_waitingGap) x := by
  unfold wpX_remove
  exact zx_has hl (fun k hk e ha => absurd (ha.symm.trans (hn k hk e)) (by decide)) (fun _ => br_t rfl h)
theorem zx_moveG {post : Int32 → SX → Prop} (hA : zr_A al cx cy (f_live, f_held, f_treeRoot, a_px, a_py, a_byX, a_rowHead, a_rowNext, a_cell, a_quad, a_quadX, a_quadY, a_quadSide, a_treeLow, a_treeHigh, a_splitsByY, a_lessX, a_lessY, a_slice, a_waiting, a_waitingGap)) {k p : Nat} (hk : k < 28) (ha : al k = true) (hp : p < 4096) (h : ∀ u', zr_A (fun j => (al j && !decide (j = k)) || decide (j = k)) (zr_w cx k (p % 64)) (zr_w cy k (p / 64)) u' → post (nI (cx k + 64 * cy k)) u') : wpX_move post (f_live, f_held, f_treeRoot, a_px, a_py, a_byX, a_rowHead, a_rowNext, a_cell, a_quad, a_quadX, a_quadY, a_quadSide, a_treeLow, a_treeHigh, a_splitsByY, a_lessX, a_lessY, a_slice, a_waiting, a_waitingGap) (nI k) (nI p) := by
  unfold wpX_move
  have hl := hA.1
  have hP := hA.2.2.1
  refine zx_hasN hl hk (fun _ => br_f zn_z1 (zx_isPlaceN hp (br_f zn_z1 (zx_placeOf hP hk (zx_leave hA hk ha (fun u' hu => ?_)))))) (fun z => absurd (ha.symm.trans z) (by decide))
  obtain ⟨f_live, f_held, f_treeRoot, a_px, a_py, a_byX, a_rowHead, a_rowNext, a_cell, a_quad, a_quadX, a_quadY, a_quadSide, a_treeLow, a_treeHigh, a_splitsByY, a_lessX, a_lessY, a_slice, a_waiting, a_waitingGap⟩ := u'
  exact zx_enter hu hk (by simp) hp (fun u2 hu2 => h u2 hu2)
theorem zx_moveB {post : Int32 → SX → Prop} (hl : zs_S f_live al) {x y : Int32} (hn : (∀ k, k < 28 → x = nI k → al k = false) ∨ (∀ p, p < 4096 → ¬ y = nI p)) (h : post (-1) (f_live, f_held, f_treeRoot, a_px, a_py, a_byX, a_rowHead, a_rowNext, a_cell, a_quad, a_quadX, a_quadY, a_quadSide, a_treeLow, a_treeHigh, a_splitsByY, a_lessX, a_lessY, a_slice, a_waiting, a_waitingGap)) : wpX_move post (f_live, f_held, f_treeRoot, a_px, a_py, a_byX, a_rowHead, a_rowNext, a_cell, a_quad, a_quadX, a_quadY, a_quadSide, a_treeLow, a_treeHigh, a_splitsByY, a_lessX, a_lessY, a_slice, a_waiting, a_waitingGap) x y := by
  unfold wpX_move
  refine zx_has hl (fun k hk e ha => br_f zn_z1 (zx_isPlace (fun p hp e2 => ?_) (fun _ => br_t rfl h))) (fun _ => br_t rfl h)
  rcases hn with z | z
  · exact absurd (ha.symm.trans (z k hk e)) (by decide)
  · exact absurd e2 (z p hp)
theorem zx_at {post : Int32 → Prop} (hl : zs_S f_live al) (hP : zr_P cx cy a_px a_py) {x : Int32} (ht : ∀ k, k < 28 → x = nI k → al k = true → post (nI (cx k + 64 * cy k))) (hf : (∀ k, k < 28 → x = nI k → al k = false) → post (-1)) : wpX_at post (f_live, f_held, f_treeRoot, a_px, a_py, a_byX, a_rowHead, a_rowNext, a_cell, a_quad, a_quadX, a_quadY, a_quadSide, a_treeLow, a_treeHigh, a_splitsByY, a_lessX, a_lessY, a_slice, a_waiting, a_waitingGap) x := by
  unfold wpX_at
  refine zx_has hl (fun k hk e ha => br_f zn_z1 ?_) (fun z => br_t rfl (hf z))
  subst e
  exact zx_placeOf hP hk (ht k hk rfl ha)
theorem zx_countG {post : Int32 → SX → Prop} {s : Int32} {p : Nat → Bool} (hs : zs_S s p) (h : post (nI (zn_c p 28)) (f_live, f_held, f_treeRoot, a_px, a_py, a_byX, a_rowHead, a_rowNext, a_cell, a_quad, a_quadX, a_quadY, a_quadSide, a_treeLow, a_treeHigh, a_splitsByY, a_lessX, a_lessY, a_slice, a_waiting, a_waitingGap)) : ∃ n, wX_count_23 post s f_live f_held f_treeRoot a_px a_py a_byX a_rowHead a_rowNext a_cell a_quad a_quadX a_quadY a_quadSide a_treeLow a_treeHigh a_splitsByY a_lessX a_lessY a_slice a_waiting a_waitingGap n 0 0 := by
  refine loop_0 (fun n i x => wX_count_23 post s f_live f_held f_treeRoot a_px a_py a_byX a_rowHead a_rowNext a_cell a_quad a_quadX a_quadY a_quadSide a_treeLow a_treeHigh a_splitsByY a_lessX a_lessY a_slice a_waiting a_waitingGap n x (nI i)) (fun i x => x = nI (zn_c p i)) 28 0 rfl (fun n x hx => ?_) (fun n i x hi hx K => ?_)
  · subst hx
    exact br_t zn_28t h
  · subst hx
    exact br_f (zn_28f hi) (nm_r (zn_cnt hs hi) (nm_r (nI_1 i) (K _ rfl)))
end
end
section
/-! ===== what is owed ===== -/
theorem zp_place (x : Int32) (n : Nat) (hn : n < 2 ^ 31) : (∃ p, p < n ∧ x = nI p) ∨ (∀ p, p < n → ¬ x = nI p) := by
  rcases zp_ix x n hn with h | ⟨_, h⟩ | ⟨_, _, _, _, h⟩
  · exact Or.inl h
  · exact Or.inr h
  · exact Or.inr h
theorem zp_alive (al : Nat → Bool) (x : Int32) : (∃ k, k < 28 ∧ x = nI k ∧ al k = true) ∨ (∀ k, k < 28 → x = nI k → al k = false) := by
  rcases zp_place x 28 (by omega) with ⟨k, hk, e⟩ | h
  · cases ha : al k
    · refine Or.inr (fun j hj e2 => ?_)
      have e3 := (nI_eq (by omega) (by omega)).mp (e.symm.trans e2)
      rw [← e3]; exact ha
    · exact Or.inl ⟨k, hk, e, ha⟩
  · exact Or.inr (fun k hk e => absurd e (h k hk))
theorem zp_gb (e lo hi : Int32) : zp_bad e lo hi ∨ ∃ j p q, j < 8 ∧ p < 4096 ∧ q < 4096 ∧ e = nI j ∧ lo = nI p ∧ hi = nI q := by
  rcases zp_place e 8 (by omega) with ⟨j, hj, e1⟩ | h
  · rcases zp_place lo 4096 (by omega) with ⟨p, hp, e2⟩ | h
    · rcases zp_place hi 4096 (by omega) with ⟨q, hq, e3⟩ | h
      · exact Or.inr ⟨j, p, q, hj, hp, hq, e1, e2, e3⟩
      · exact Or.inl (Or.inr (Or.inr h))
    · exact Or.inl (Or.inr (Or.inl h))
  · exact Or.inl (Or.inl h)
/-- both sides show one picture: who is there (al) and where (cx, cy) -/
def i_Rel (k : Nat) (u : SX) (v : SY) : Prop := ∃ al cx cy, zr_A al cx cy u ∧ zr_V al cx cy v
theorem i_up {k : Nat} {u : SX} {v : SY} (h : i_Rel k u v) : i_Rel (k + 5) u v := h
theorem i_vc0 : wpX_init (fun u => wpY_init (fun v => i_Rel 0 u v)) := by
  refine zx_init (fun rh qx qy qs hr hL => ?_)
  refine ⟨fun _ => false, fun _ => 0, fun _ => 0, ⟨zs_0, fun _ => ⟨Nat.zero_lt_succ 63, Nat.zero_lt_succ 63⟩, fun _ _ => ⟨rfl, rfl⟩, ⟨[], zl_nil (fun _ _ => rfl), List.Pairwise.nil, rfl, trivial⟩, fun y hy => ⟨[], zl_nil (fun _ _ => rfl), hr y hy⟩, fun c _ => zs_cg zs_0 (fun _ _ => rfl), fun n _ => zs_cg zs_0 (fun _ _ => rfl), hL, ⟨[], 0, zl_nil (fun _ _ => rfl), zt_mkn⟩, fun b _ => zs_cg zs_0 (fun _ _ => rfl), fun b _ => zs_cg zs_0 (fun _ _ => rfl), fun b _ => ⟨zs_cg zs_0 (fun _ _ => rfl), zs_cg zs_0 (fun _ _ => rfl)⟩⟩, fun k _ => rfl⟩
theorem i_vc_add {k : Nat} {u : SX} {v : SY} (I : i_Rel k u v) (hk : k + 5 ≤ 2560) (v1 : Int32) : wpX_add (fun r u' => wpY_add (fun r' v' => r' = r ∧ i_Rel (k + 5) u' v') v v1) u v1 := by
  obtain ⟨al, cx, cy, hA, hV⟩ := I
  obtain ⟨f_live, f_held, f_treeRoot, a_px, a_py, a_byX, a_rowHead, a_rowNext, a_cell, a_quad, a_quadX, a_quadY, a_quadSide, a_treeLow, a_treeHigh, a_splitsByY, a_lessX, a_lessY, a_slice, a_waiting, a_waitingGap⟩ := u
  have hl := hA.1
  have hb := hA.2.1
  rcases zp_place v1 4096 (by omega) with ⟨p, hp, e⟩ | hn
  · subst e
    by_cases hex : ∃ m, m < 28 ∧ al m = false
    · obtain ⟨m, ⟨hm, ha⟩, hmin⟩ := pk_least _ hex
      have hall : ∀ j, j < m → al j = true := fun j hj => by
        cases hj2 : al j
        · exact absurd ⟨by omega, hj2⟩ (hmin j hj)
        · rfl
      exact zx_addG hA hp hm ha hall (fun u' hu => zy_addG hV hb hp hm ha hall ⟨rfl, _, _, _, hu, zr_Vin hV m p⟩)
    · have hall : ∀ j, j < 28 → al j = true := fun j hj => by
        cases hj2 : al j
        · exact absurd ⟨j, hj, hj2⟩ hex
        · rfl
      exact zx_addF hl hp hall (zy_addF hV hb hp hall ⟨rfl, al, cx, cy, hA, hV⟩)
  · exact zx_addB hn (zy_addB hn ⟨rfl, al, cx, cy, hA, hV⟩)
theorem i_vc_remove {k : Nat} {u : SX} {v : SY} (I : i_Rel k u v) (hk : k + 5 ≤ 2560) (v1 : Int32) : wpX_remove (fun r u' => wpY_remove (fun r' v' => r' = r ∧ i_Rel (k + 5) u' v') v v1) u v1 := by
  obtain ⟨al, cx, cy, hA, hV⟩ := I
  obtain ⟨f_live, f_held, f_treeRoot, a_px, a_py, a_byX, a_rowHead, a_rowNext, a_cell, a_quad, a_quadX, a_quadY, a_quadSide, a_treeLow, a_treeHigh, a_splitsByY, a_lessX, a_lessY, a_slice, a_waiting, a_waitingGap⟩ := u
  have hl := hA.1
  have hb := hA.2.1
  rcases zp_alive al v1 with ⟨m, hm, e, ha⟩ | hn
  · subst e
    exact zx_removeG hA hm ha (fun u' hu => zy_removeG hV hb hm ha ⟨rfl, _, _, _, hu, zr_Vout hV m⟩)
  · exact zx_removeB hl hn (zy_removeB hV hb hn ⟨rfl, al, cx, cy, hA, hV⟩)
theorem i_vc_move {k : Nat} {u : SX} {v : SY} (I : i_Rel k u v) (hk : k + 5 ≤ 2560) (v1 : Int32) (v2 : Int32) : wpX_move (fun r u' => wpY_move (fun r' v' => r' = r ∧ i_Rel (k + 5) u' v') v v1 v2) u v1 v2 := by
  obtain ⟨al, cx, cy, hA, hV⟩ := I
  obtain ⟨f_live, f_held, f_treeRoot, a_px, a_py, a_byX, a_rowHead, a_rowNext, a_cell, a_quad, a_quadX, a_quadY, a_quadSide, a_treeLow, a_treeHigh, a_splitsByY, a_lessX, a_lessY, a_slice, a_waiting, a_waitingGap⟩ := u
  have hl := hA.1
  have hb := hA.2.1
  rcases zp_alive al v1 with ⟨m, hm, e, ha⟩ | hn
  · rcases zp_place v2 4096 (by omega) with ⟨p, hp, e2⟩ | hn
    · subst e e2
      exact zx_moveG hA hm ha hp (fun u' hu => zy_moveG hV hb hm ha hp ⟨rfl, _, _, _, hu, zr_Vmv hV m p⟩)
    · exact zx_moveB hl (Or.inr hn) (zy_moveB hV hb (Or.inr hn) ⟨rfl, al, cx, cy, hA, hV⟩)
  · exact zx_moveB hl (Or.inl hn) (zy_moveB hV hb (Or.inl hn) ⟨rfl, al, cx, cy, hA, hV⟩)
theorem i_vc_at {k : Nat} {u : SX} {v : SY} (I : i_Rel k u v) (hk : k + 5 ≤ 2560) (v1 : Int32) : wpX_at (fun r => wpY_at (fun r' => r' = r ∧ i_Rel (k + 5) u v) v v1) u v1 := by
  have I2 : i_Rel (k + 5) u v := I
  obtain ⟨al, cx, cy, hA, hV⟩ := I
  obtain ⟨f_live, f_held, f_treeRoot, a_px, a_py, a_byX, a_rowHead, a_rowNext, a_cell, a_quad, a_quadX, a_quadY, a_quadSide, a_treeLow, a_treeHigh, a_splitsByY, a_lessX, a_lessY, a_slice, a_waiting, a_waitingGap⟩ := u
  have hl := hA.1
  have hb := hA.2.1
  have hP := hA.2.2.1
  refine zx_at hl hP (fun m hm e ha => zy_at hV hb (fun j hj e2 _ => ⟨?_, I2⟩) (fun hn => absurd (ha.symm.trans (hn m hm e)) (by decide))) (fun hn => zy_at hV hb (fun j hj e2 ha => absurd (ha.symm.trans (hn j hj e2)) (by decide)) (fun _ => ⟨rfl, I2⟩))
  rw [(nI_eq (by omega) (by omega)).mp (e.symm.trans e2)]
theorem i_vc_points {k : Nat} {u : SX} {v : SY} (I : i_Rel k u v) (hk : k + 5 ≤ 2560) : wpX_points (fun r => wpY_points (fun r' => r' = r ∧ i_Rel (k + 5) u v) v) u := by
  have I2 : i_Rel (k + 5) u v := I
  obtain ⟨al, cx, cy, hA, hV⟩ := I
  obtain ⟨f_live, f_held, f_treeRoot, a_px, a_py, a_byX, a_rowHead, a_rowNext, a_cell, a_quad, a_quadX, a_quadY, a_quadSide, a_treeLow, a_treeHigh, a_splitsByY, a_lessX, a_lessY, a_slice, a_waiting, a_waitingGap⟩ := u
  have hl := hA.1
  have hb := hA.2.1
  exact zy_points hV hb (fun r hr => ⟨zs_ext hr hl (fun _ _ => rfl), I2⟩)
theorem i_vc_inside {k : Nat} {u : SX} {v : SY} (I : i_Rel k u v) (hk : k + 5 ≤ 2560) (v1 : Int32) (v2 : Int32) (v3 : Int32) : wpX_inside (fun r u' => wpY_inside (fun r' => r' = r ∧ i_Rel (k + 5) u' v) v v1 v2 v3) u v1 v2 v3 := by
  obtain ⟨al, cx, cy, hA, hV⟩ := I
  obtain ⟨f_live, f_held, f_treeRoot, a_px, a_py, a_byX, a_rowHead, a_rowNext, a_cell, a_quad, a_quadX, a_quadY, a_quadSide, a_treeLow, a_treeHigh, a_splitsByY, a_lessX, a_lessY, a_slice, a_waiting, a_waitingGap⟩ := u
  have hb := hA.2.1
  rcases zp_gb v1 v2 v3 with hbad | ⟨j, p, q, hj, hp, hq, e1, e2, e3⟩
  · exact zx_insB hbad (zy_insB hbad ⟨rfl, al, cx, cy, hA, hV⟩)
  · subst e1 e2 e3
    exact zx_insG hA hj hp hq (fun r u' hu hr => zy_insG hV hb hj hp hq (fun r2 hr2 => ⟨zs_ext hr2 hr (fun _ _ => rfl), al, cx, cy, hu, hV⟩))
theorem i_vc_count {k : Nat} {u : SX} {v : SY} (I : i_Rel k u v) (hk : k + 5 ≤ 2560) (v1 : Int32) (v2 : Int32) (v3 : Int32) : wpX_count (fun r u' => wpY_count (fun r' => r' = r ∧ i_Rel (k + 5) u' v) v v1 v2 v3) u v1 v2 v3 := by
  obtain ⟨al, cx, cy, hA, hV⟩ := I
  obtain ⟨f_live, f_held, f_treeRoot, a_px, a_py, a_byX, a_rowHead, a_rowNext, a_cell, a_quad, a_quadX, a_quadY, a_quadSide, a_treeLow, a_treeHigh, a_splitsByY, a_lessX, a_lessY, a_slice, a_waiting, a_waitingGap⟩ := u
  have hb := hA.2.1
  unfold wpX_count wpY_count
  rcases zp_gb v1 v2 v3 with hbad | ⟨j, p, q, hj, hp, hq, e1, e2, e3⟩
  · exact zx_insB hbad (br_t rfl (zy_insB hbad (zy_countB ⟨rfl, al, cx, cy, hA, hV⟩)))
  · subst e1 e2 e3
    refine zx_insG hA hj hp hq (fun r u' hu hr => ?_)
    obtain ⟨f_live, f_held, f_treeRoot, a_px, a_py, a_byX, a_rowHead, a_rowNext, a_cell, a_quad, a_quadX, a_quadY, a_quadSide, a_treeLow, a_treeHigh, a_splitsByY, a_lessX, a_lessY, a_slice, a_waiting, a_waitingGap⟩ := u'
    exact br_f (zs_n1 hr) (zx_countG hr (zy_insG hV hb hj hp hq (fun r2 hr2 => zy_countG hr2 ⟨rfl, al, cx, cy, hu, hV⟩)))
theorem i_vc_agree {k : Nat} {u : SX} {v : SY} (I : i_Rel k u v) (hk : k + 5 ≤ 2560) (v1 : Int32) (v2 : Int32) (v3 : Int32) (v4 : Int32) : wpX_agree (fun r u' => wpY_agree (fun r' => r' = r ∧ i_Rel (k + 5) u' v) v v1 v2 v3 v4) u v1 v2 v3 v4 := by
  obtain ⟨al, cx, cy, hA, hV⟩ := I
  obtain ⟨f_live, f_held, f_treeRoot, a_px, a_py, a_byX, a_rowHead, a_rowNext, a_cell, a_quad, a_quadX, a_quadY, a_quadSide, a_treeLow, a_treeHigh, a_splitsByY, a_lessX, a_lessY, a_slice, a_waiting, a_waitingGap⟩ := u
  have hb := hA.2.1
  unfold wpX_agree wpY_agree
  rcases zp_gb v1 v3 v4 with hbad | ⟨j, p, q, hj, hp, hq, e1, e2, e3⟩
  · refine zx_insB hbad ?_
    rcases zp_gb v2 v3 v4 with hbad2 | ⟨j2, p, q, hj2, hp, hq, e1, e2, e3⟩
    · exact zx_insB hbad2 (br_t rfl (zy_insB hbad (br_t (by decide) ⟨rfl, al, cx, cy, hA, hV⟩)))
    · subst e1 e2 e3
      refine zx_insG hA hj2 hp hq (fun r u' hu hr => ?_)
      obtain ⟨f_live, f_held, f_treeRoot, a_px, a_py, a_byX, a_rowHead, a_rowNext, a_cell, a_quad, a_quadX, a_quadY, a_quadSide, a_treeLow, a_treeHigh, a_splitsByY, a_lessX, a_lessY, a_slice, a_waiting, a_waitingGap⟩ := u'
      exact br_t rfl (zy_insB hbad (br_t (by decide) ⟨rfl, al, cx, cy, hu, hV⟩))
  · subst e1 e2 e3
    refine zx_insG hA hj hp hq (fun r u' hu hr => ?_)
    obtain ⟨f_live, f_held, f_treeRoot, a_px, a_py, a_byX, a_rowHead, a_rowNext, a_cell, a_quad, a_quadX, a_quadY, a_quadSide, a_treeLow, a_treeHigh, a_splitsByY, a_lessX, a_lessY, a_slice, a_waiting, a_waitingGap⟩ := u'
    rcases zp_gb v2 (nI p) (nI q) with hbad2 | ⟨j2, p2, q2, hj2, hp2, hq2, e1, e2, e3⟩
    · exact zx_insB hbad2 (br_f (zs_n1 hr) (br_f (zs_n1 hr) (zy_insG hV hb hj hp hq (fun r2 hr2 => br_f (zs_nn hr2) (zy_insB hbad2 (br_t (by decide) ⟨rfl, al, cx, cy, hu, hV⟩))))))
    · subst e1
      refine zx_insG hu hj2 hp hq (fun r3 u3 hu3 hr3 => ?_)
      obtain ⟨f_live, f_held, f_treeRoot, a_px, a_py, a_byX, a_rowHead, a_rowNext, a_cell, a_quad, a_quadX, a_quadY, a_quadSide, a_treeLow, a_treeHigh, a_splitsByY, a_lessX, a_lessY, a_slice, a_waiting, a_waitingGap⟩ := u3
      exact br_f (zs_n1 hr) (br_t (zs_ext hr hr3 (fun _ _ => rfl)) (zy_insG hV hb hj hp hq (fun r2 hr2 => br_f (zs_nn hr2) (zy_insG hV hb hj2 hp hq (fun r4 hr4 => br_f (zs_nn hr4) ⟨rfl, al, cx, cy, hu3, hV⟩)))))
theorem i_vc_nearest {k : Nat} {u : SX} {v : SY} (I : i_Rel k u v) (hk : k + 5 ≤ 2560) (v1 : Int32) (v2 : Int32) : wpX_nearest (fun r u' => wpY_nearest (fun r' => r' = r ∧ i_Rel (k + 5) u' v) v v1 v2) u v1 v2 := by
  obtain ⟨al, cx, cy, hA, hV⟩ := I
  obtain ⟨f_live, f_held, f_treeRoot, a_px, a_py, a_byX, a_rowHead, a_rowNext, a_cell, a_quad, a_quadX, a_quadY, a_quadSide, a_treeLow, a_treeHigh, a_splitsByY, a_lessX, a_lessY, a_slice, a_waiting, a_waitingGap⟩ := u
  have hb := hA.2.1
  rcases zp_place v1 4 (by omega) with ⟨e, he, e1⟩ | hn
  · rcases zp_place v2 4096 (by omega) with ⟨p, hp, e2⟩ | hn
    · subst e1 e2
      exact zx_nearest hA he hp (fun u' hu => zy_nearest hV hb he hp ⟨rfl, al, cx, cy, hu, hV⟩)
    · exact zx_nearestB (Or.inr hn) (zy_nearestB (Or.inr hn) ⟨rfl, al, cx, cy, hA, hV⟩)
  · exact zx_nearestB (Or.inl hn) (zy_nearestB (Or.inl hn) ⟨rfl, al, cx, cy, hA, hV⟩)
theorem i_vc_ranked {k : Nat} {u : SX} {v : SY} (I : i_Rel k u v) (hk : k + 5 ≤ 2560) (v1 : Int32) (v2 : Int32) : wpX_ranked (fun r => wpY_ranked (fun r' => r' = r ∧ i_Rel (k + 5) u v) v v1 v2) u v1 v2 := by
  have I2 : i_Rel (k + 5) u v := I
  obtain ⟨al, cx, cy, hA, hV⟩ := I
  obtain ⟨f_live, f_held, f_treeRoot, a_px, a_py, a_byX, a_rowHead, a_rowNext, a_cell, a_quad, a_quadX, a_quadY, a_quadSide, a_treeLow, a_treeHigh, a_splitsByY, a_lessX, a_lessY, a_slice, a_waiting, a_waitingGap⟩ := u
  have hl := hA.1
  have hb := hA.2.1
  have hP := hA.2.2.1
  rcases zp_place v1 4096 (by omega) with ⟨p, hp, e⟩ | hn
  · subst e
    exact zx_ranked hl hP hb hp (zy_ranked hV hb hp ⟨rfl, I2⟩)
  · unfold wpX_ranked
    exact zx_isPlace (fun p hp e => absurd e (hn p hp)) (fun _ => br_t rfl (zy_rankedB hn ⟨rfl, I2⟩))
theorem i_vc_square {k : Nat} {u : SX} {v : SY} (I : i_Rel k u v) (hk : k + 5 ≤ 2560) (v1 : Int32) : wpX_square (fun r => wpY_square (fun r' => r' = r ∧ i_Rel (k + 5) u v) v v1) u v1 := by
  have I2 : i_Rel (k + 5) u v := I
  obtain ⟨al, cx, cy, hA, hV⟩ := I
  obtain ⟨f_live, f_held, f_treeRoot, a_px, a_py, a_byX, a_rowHead, a_rowNext, a_cell, a_quad, a_quadX, a_quadY, a_quadSide, a_treeLow, a_treeHigh, a_splitsByY, a_lessX, a_lessY, a_slice, a_waiting, a_waitingGap⟩ := u
  have hl := hA.1
  have hb := hA.2.1
  have hP := hA.2.2.1
  unfold wpX_square wpY_square
  rcases zp_place v1 4096 (by omega) with ⟨p, hp, e⟩ | hn
  · subst e
    refine br_c (fun z => ?_) (fun z => zx_isPlaceN hp (br_f zn_z1 (zx_nearestOf hP hb hp hl (fun _ _ z => z) (zo_0 al _ (P := fun _ => False) (fun _ _ z => z)) (fun r hr => ?_))))
    · have hB : zo_B al (zp_f cx cy p) (-1) (fun k => al k = true) := zo_0 _ _ (fun j hj w => by
        rw [zs_e hl z hj] at w
        exact absurd w (by decide))
      refine zy_ranked hV hb hp ?_
      rw [← zo_best hB]
      exact br_f (by decide) ⟨rfl, I2⟩
    · have hB : zo_B al (zp_f cx cy p) r (fun k => al k = true) := zo_cg hr (fun _ _ z => Or.inr z)
      have hbest := zo_best hB
      rcases hB with ⟨h1, h2⟩ | ⟨b, h1, h2, h3, h4⟩
      · obtain ⟨j, hj, hj2⟩ := zs_ne hl z
        exact absurd hj2 (h2 j hj)
      · subst h3
        refine zx_squareFrom hP h1 hp (zy_ranked hV hb hp ?_)
        rw [← hbest]
        exact br_t (nI_pos' (by omega)) (zy_far hV hb h1 h2 hp ⟨rfl, I2⟩)
  · have hY : wpY_ranked (fun r_1 => (0 ≤ r_1 → wpY_far (fun r_4 => r_4 = -1 ∧ i_Rel (k + 5) (f_live, f_held, f_treeRoot, a_px, a_py, a_byX, a_rowHead, a_rowNext, a_cell, a_quad, a_quadX, a_quadY, a_quadSide, a_treeLow, a_treeHigh, a_splitsByY, a_lessX, a_lessY, a_slice, a_waiting, a_waitingGap) v) v r_1 v1) ∧ (¬ 0 ≤ r_1 → -1 = (-1 : Int32) ∧ i_Rel (k + 5) (f_live, f_held, f_treeRoot, a_px, a_py, a_byX, a_rowHead, a_rowNext, a_cell, a_quad, a_quadX, a_quadY, a_quadSide, a_treeLow, a_treeHigh, a_splitsByY, a_lessX, a_lessY, a_slice, a_waiting, a_waitingGap) v)) v v1 0 := zy_rankedB hn (br_f (by decide) ⟨rfl, I2⟩)
    exact br_c (fun _ => hY) (fun _ => zx_isPlace (fun p hp e => absurd e (hn p hp)) (fun _ => br_t rfl hY))
theorem i_vc_around {k : Nat} {u : SX} {v : SY} (I : i_Rel k u v) (hk : k + 5 ≤ 2560) (v1 : Int32) (v2 : Int32) : wpX_around (fun r => wpY_around (fun r' => r' = r ∧ i_Rel (k + 5) u v) v v1 v2) u v1 v2 := by
  have I2 : i_Rel (k + 5) u v := I
  obtain ⟨al, cx, cy, hA, hV⟩ := I
  obtain ⟨f_live, f_held, f_treeRoot, a_px, a_py, a_byX, a_rowHead, a_rowNext, a_cell, a_quad, a_quadX, a_quadY, a_quadSide, a_treeLow, a_treeHigh, a_splitsByY, a_lessX, a_lessY, a_slice, a_waiting, a_waitingGap⟩ := u
  have hl := hA.1
  have hb := hA.2.1
  have hP := hA.2.2.1
  rcases zp_place v1 4096 (by omega) with ⟨p, hp, e⟩ | hn
  · subst e
    exact zx_around hl hP hp (fun r hr => zy_around hV hb hp (fun r2 hr2 => ⟨zs_ext hr2 hr (fun _ _ => rfl), I2⟩))
  · unfold wpX_around wpY_around
    exact zx_isPlace (fun p hp e => absurd e (hn p hp)) (fun _ => br_t rfl (zy_isPlace (fun p hp e => absurd e (hn p hp)) (fun _ => br_t rfl ⟨rfl, I2⟩)))
theorem i_vc_closest {k : Nat} {u : SX} {v : SY} (I : i_Rel k u v) (hk : k + 5 ≤ 2560) : wpX_closest (fun r => wpY_closest (fun r' => r' = r ∧ i_Rel (k + 5) u v) v) u := by
  have I2 : i_Rel (k + 5) u v := I
  obtain ⟨al, cx, cy, hA, hV⟩ := I
  obtain ⟨f_live, f_held, f_treeRoot, a_px, a_py, a_byX, a_rowHead, a_rowNext, a_cell, a_quad, a_quadX, a_quadY, a_quadSide, a_treeLow, a_treeHigh, a_splitsByY, a_lessX, a_lessY, a_slice, a_waiting, a_waitingGap⟩ := u
  have hl := hA.1
  have hb := hA.2.1
  have hP := hA.2.2.1
  have hO := hA.2.2.2.1
  exact zx_closest hl hP hb hO (zy_closest hV hb ⟨rfl, I2⟩)
theorem i_vc_staircase {k : Nat} {u : SX} {v : SY} (I : i_Rel k u v) (hk : k + 5 ≤ 2560) : wpX_staircase (fun r => wpY_staircase (fun r' => r' = r ∧ i_Rel (k + 5) u v) v) u := by
  have I2 : i_Rel (k + 5) u v := I
  obtain ⟨al, cx, cy, hA, hV⟩ := I
  obtain ⟨f_live, f_held, f_treeRoot, a_px, a_py, a_byX, a_rowHead, a_rowNext, a_cell, a_quad, a_quadX, a_quadY, a_quadSide, a_treeLow, a_treeHigh, a_splitsByY, a_lessX, a_lessY, a_slice, a_waiting, a_waitingGap⟩ := u
  have hl := hA.1
  have hb := hA.2.1
  have hP := hA.2.2.1
  exact zx_staircase hl hP hb (fun r hr => zy_staircase hV hb (fun r2 hr2 => ⟨zs_ext hr2 hr (fun _ _ => rfl), I2⟩))
theorem i_vc_below {k : Nat} {u : SX} {v : SY} (I : i_Rel k u v) (hk : k + 5 ≤ 2560) (v1 : Int32) : wpX_below (fun r => wpY_below (fun r' => r' = r ∧ i_Rel (k + 5) u v) v v1) u v1 := by
  have I2 : i_Rel (k + 5) u v := I
  obtain ⟨al, cx, cy, hA, hV⟩ := I
  obtain ⟨f_live, f_held, f_treeRoot, a_px, a_py, a_byX, a_rowHead, a_rowNext, a_cell, a_quad, a_quadX, a_quadY, a_quadSide, a_treeLow, a_treeHigh, a_splitsByY, a_lessX, a_lessY, a_slice, a_waiting, a_waitingGap⟩ := u
  have hl := hA.1
  have hb := hA.2.1
  have hP := hA.2.2.1
  rcases zp_alive al v1 with ⟨m, hm, e, ha⟩ | hn
  · subst e
    exact zx_below hl hP hb hm ha (zy_below hV hb hm ha ⟨rfl, I2⟩)
  · unfold wpX_below wpY_below
    exact zx_has hl (fun m hm e ha => absurd (ha.symm.trans (hn m hm e)) (by decide)) (fun _ => br_t rfl (zy_is hV hb (fun m hm e ha => absurd (ha.symm.trans (hn m hm e)) (by decide)) (fun _ => br_t rfl ⟨rfl, I2⟩)))
end
