/-! ===== which is nearer; the best so far ===== -/
def zo_n (f : Nat → Nat) (i j : Nat) : Prop := f i < f j ∨ (f i = f j ∧ i < j)
theorem zo_irr (f : Nat → Nat) (i : Nat) : ¬ zo_n f i i := by unfold zo_n; omega
theorem zo_tr {f : Nat → Nat} {i j k : Nat} (h1 : zo_n f i j) (h2 : zo_n f j k) : zo_n f i k := by unfold zo_n at *; omega
theorem zo_tot {f : Nat → Nat} {i j : Nat} (h1 : ¬ zo_n f i j) (h2 : ¬ zo_n f j i) : i = j := by unfold zo_n at *; omega
/-- if k isn't nearer than b, and c is nearer than b, k isn't nearer than c unless .. : what a change of the best keeps -/
theorem zo_keep {f : Nat → Nat} {k b c : Nat} (h1 : ¬ zo_n f k b) (h2 : zo_n f c b) : ¬ zo_n f k c := fun h => h1 (zo_tr h h2)
def zo_B (al : Nat → Bool) (f : Nat → Nat) (best : Int32) (P : Nat → Prop) : Prop :=
  (best = -1 ∧ ∀ k, k < 28 → ¬ P k) ∨ (∃ b, b < 28 ∧ al b = true ∧ best = nI b ∧ ∀ k, k < 28 → P k → ¬ zo_n f k b)
theorem zo_cg {al : Nat → Bool} {f : Nat → Nat} {best : Int32} {P Q : Nat → Prop} (h : zo_B al f best P) (e : ∀ k, k < 28 → Q k → P k) : zo_B al f best Q := by
  rcases h with ⟨h1, h2⟩ | ⟨b, h1, h2, h3, h4⟩
  · exact Or.inl ⟨h1, fun k hk hq => h2 k hk (e k hk hq)⟩
  · exact Or.inr ⟨b, h1, h2, h3, fun k hk hq => h4 k hk (e k hk hq)⟩
theorem zo_0 (al : Nat → Bool) (f : Nat → Nat) {P : Nat → Prop} (h : ∀ k, k < 28 → ¬ P k) : zo_B al f (-1) P := Or.inl ⟨rfl, h⟩
/-- the best of all is one alone -/
theorem zo_un {al : Nat → Bool} {f : Nat → Nat} {x y : Int32} (h : zo_B al f x (fun k => al k = true)) (g : zo_B al f y (fun k => al k = true)) : x = y := by
  rcases h with ⟨h1, h2⟩ | ⟨b, h1, h2, h3, h4⟩
  · rcases g with ⟨g1, g2⟩ | ⟨c, g1, g2, g3, g4⟩
    · rw [h1, g1]
    · exact absurd g2 (h2 c g1)
  · rcases g with ⟨g1, g2⟩ | ⟨c, g1, g2, g3, g4⟩
    · exact absurd h2 (g2 b h1)
    · have e : b = c := zo_tot (g4 b h1 h2) (h4 c g1 g2)
      rw [h3, g3, e]
/-- what is out of reach can't be nearer -/
theorem zo_cut {al : Nat → Bool} {f : Nat → Nat} {best : Int32} {P Q : Nat → Prop} {q : Nat} (h : zo_B al f best P) (hr : ∃ b, b < 28 ∧ best = nI b ∧ f b < q) (hQ : ∀ k, k < 28 → Q k → P k ∨ q ≤ f k) : zo_B al f best Q := by
  obtain ⟨c, hc, e, hq⟩ := hr
  rcases h with ⟨h1, h2⟩ | ⟨b, h1, h2, h3, h4⟩
  · rw [h1] at e
    exact absurd e (zn_n1' (by omega))
  · have e2 : b = c := (nI_eq (by omega) (by omega)).mp (h3.symm.trans e)
    subst e2
    refine Or.inr ⟨b, h1, h2, h3, fun k hk hk2 => ?_⟩
    rcases hQ k hk hk2 with h5 | h5
    · exact h4 k hk h5
    · unfold zo_n; omega
/-! ===== lists that hold the points of a set, each once ===== -/
def zl_M (S : List Nat) (p : Nat → Bool) : Prop := S.Nodup ∧ ∀ k, k ∈ S ↔ (k < 28 ∧ p k = true)
theorem zl_cg {S : List Nat} {p q : Nat → Bool} (h : zl_M S p) (e : ∀ k, k < 28 → p k = q k) : zl_M S q :=
  ⟨h.1, fun k => (h.2 k).trans ⟨fun z => ⟨z.1, (e k z.1).symm.trans z.2⟩, fun z => ⟨z.1, (e k z.1).trans z.2⟩⟩⟩
theorem zl_len {S : List Nat} {p : Nat → Bool} (h : zl_M S p) : S.length ≤ 28 := by
  have h1 := List.Nodup.length_le_of_subset h.1 (l₂ := List.range 28) (fun k hk => List.mem_range.mpr ((h.2 k).mp hk).1)
  rwa [List.length_range] at h1
theorem zl_lt {S : List Nat} {p : Nat → Bool} (h : zl_M S p) {k : Nat} (hk : k < 28) (hp : p k = false) : S.length < 28 := by
  have hn : k ∉ S := fun z => by
    have := ((h.2 k).mp z).2
    rw [hp] at this
    exact absurd this (by decide)
  have h2 : (k :: S).Nodup := List.nodup_cons.mpr ⟨hn, h.1⟩
  have h1 := List.Nodup.length_le_of_subset h2 (l₂ := List.range 28) (fun j hj => by
    rcases List.mem_cons.mp hj with e | e
    · rw [e]; exact List.mem_range.mpr hk
    · exact List.mem_range.mpr ((h.2 j).mp e).1)
  rw [List.length_range, List.length_cons] at h1
  omega
theorem zl_nil {p : Nat → Bool} (h : ∀ k, k < 28 → p k = false) : zl_M [] p := by
  refine ⟨List.nodup_nil, fun k => ⟨fun z => absurd z (by simp), fun z => ?_⟩⟩
  have := h k z.1
  rw [z.2] at this
  exact absurd this (by decide)
theorem zl_ins {A B : List Nat} {p q : Nat → Bool} (h : zl_M (A ++ B) p) {k : Nat} (hk : k < 28) (hp : p k = false) (e : ∀ j, j < 28 → q j = (p j || decide (j = k))) : zl_M (A ++ k :: B) q := by
  have hn : k ∉ A ++ B := fun z => by
    have := ((h.2 k).mp z).2
    rw [hp] at this
    exact absurd this (by decide)
  refine ⟨(List.perm_middle.nodup_iff).mpr (List.nodup_cons.mpr ⟨hn, h.1⟩), fun j => ?_⟩
  rw [List.perm_middle.mem_iff, List.mem_cons, h.2 j]
  constructor
  · intro z
    rcases z with z | z
    · subst z; exact ⟨hk, by rw [e j hk]; simp⟩
    · exact ⟨z.1, by rw [e j z.1, z.2]; rfl⟩
  · intro z
    have h1 := e j z.1
    rw [z.2] at h1
    by_cases e2 : j = k
    · exact Or.inl e2
    · refine Or.inr ⟨z.1, ?_⟩
      rw [decide_eq_false e2, Bool.or_false] at h1
      exact h1.symm
def zl_no (k : Nat) (j : Nat) : Bool := !decide (j = k)
theorem zl_del {S : List Nat} {p q : Nat → Bool} (h : zl_M S p) (k : Nat) (e : ∀ j, j < 28 → q j = (p j && !decide (j = k))) : zl_M (S.filter (zl_no k)) q := by
  refine ⟨List.Pairwise.filter _ h.1, fun j => ?_⟩
  rw [List.mem_filter, h.2 j]
  constructor
  · intro z
    refine ⟨z.1.1, ?_⟩
    rw [e j z.1.1, z.1.2]
    exact z.2
  · intro z
    have h1 := e j z.1
    rw [z.2] at h1
    have h2 := (Bool.and_eq_true _ _).mp h1.symm
    exact ⟨⟨z.1, h2.1⟩, h2.2⟩
/-- two different members -/
theorem zl_two {S : List Nat} {p : Nat → Bool} (h : zl_M S p) : 2 ≤ S.length ↔ ∃ i k, i < k ∧ k < 28 ∧ p i = true ∧ p k = true := by
  constructor
  · intro hl
    cases S with
    | nil => exact absurd hl (by simp)
    | cons a S =>
      cases S with
      | nil => exact absurd hl (by simp)
      | cons b t =>
        have ha := (h.2 a).mp (by simp)
        have hb := (h.2 b).mp (by simp)
        have hab : a ≠ b := by
          have h1 := (List.nodup_cons.mp h.1).1
          intro z
          exact h1 (by simp [z])
        rcases Nat.lt_or_gt_of_ne hab with z | z
        · exact ⟨a, b, z, hb.1, ha.2, hb.2⟩
        · exact ⟨b, a, z, ha.1, hb.2, ha.2⟩
  · intro ⟨i, k, h1, h2, h3, h4⟩
    have hn : [i, k].Nodup := by
      rw [List.nodup_cons]
      exact ⟨by simp; omega, by simp⟩
    have h5 := List.Nodup.length_le_of_subset hn (l₂ := S) (fun j hj => by
      rcases List.mem_cons.mp hj with z | z
      · rw [z]; exact (h.2 i).mpr ⟨by omega, h3⟩
      · rw [List.mem_singleton.mp z]; exact (h.2 k).mpr ⟨h2, h4⟩)
    exact h5
/-! ===== a list in an array from place o on ===== -/
def zl_A (a : Nat → Int32) : Nat → List Nat → Prop
  | _, [] => True
  | o, k :: t => a o = nI k ∧ zl_A a (o + 1) t
theorem zl_Aap {a : Nat → Int32} : ∀ (A : List Nat) (o : Nat) (B : List Nat), zl_A a o (A ++ B) ↔ zl_A a o A ∧ zl_A a (o + A.length) B := by
  intro A
  induction A with
  | nil => intro o B; exact ⟨fun h => ⟨trivial, h⟩, fun h => h.2⟩
  | cons k A ih =>
    intro o B
    show (a o = nI k ∧ zl_A a (o + 1) (A ++ B)) ↔ (a o = nI k ∧ zl_A a (o + 1) A) ∧ _
    rw [ih (o + 1) B, List.length_cons, show o + (A.length + 1) = o + 1 + A.length by omega, and_assoc]
theorem zl_Aup {a : Nat → Int32} {i : Nat} {v : Int32} : ∀ (l : List Nat) (o : Nat), (i < o ∨ o + l.length ≤ i) → zl_A a o l → zl_A (upd a i v) o l := by
  intro l
  induction l with
  | nil => intro o _ _; trivial
  | cons k l ih =>
    intro o h hl
    rw [List.length_cons] at h
    exact ⟨by rw [pk_un (by omega)]; exact hl.1, ih (o + 1) (by omega) hl.2⟩
def zl_g : List Nat → Nat → Nat
  | [], _ => 0
  | k :: _, 0 => k
  | _ :: t, i + 1 => zl_g t i
theorem zl_gm : ∀ (l : List Nat) (i : Nat), i < l.length → zl_g l i ∈ l := by
  intro l
  induction l with
  | nil => intro i h; exact absurd h (by simp)
  | cons k l ih =>
    intro i h
    cases i with
    | zero => show k ∈ k :: l; simp
    | succ i => exact List.mem_cons_of_mem _ (ih i (by rw [List.length_cons] at h; omega))
theorem zl_gx : ∀ (l : List Nat) (k : Nat), k ∈ l → ∃ i, i < l.length ∧ zl_g l i = k := by
  intro l
  induction l with
  | nil => intro k h; exact absurd h (by simp)
  | cons m l ih =>
    intro k h
    rcases List.mem_cons.mp h with e | e
    · exact ⟨0, by simp, e.symm⟩
    · obtain ⟨i, h1, h2⟩ := ih k e
      exact ⟨i + 1, by rw [List.length_cons]; omega, h2⟩
theorem zl_Ag {a : Nat → Int32} : ∀ (l : List Nat) (o i : Nat), zl_A a o l → i < l.length → a (o + i) = nI (zl_g l i) := by
  intro l
  induction l with
  | nil => intro o i _ h; exact absurd h (by simp)
  | cons k l ih =>
    intro o i h hi
    cases i with
    | zero => exact h.1
    | succ i =>
      have := ih (o + 1) i h.2 (by rw [List.length_cons] at hi; omega)
      rw [show o + (i + 1) = o + 1 + i by omega]
      exact this
theorem zl_gs {c : Nat → Nat} : ∀ (l : List Nat), l.Pairwise (fun a b => c a ≤ c b) → ∀ i j, i ≤ j → j < l.length → c (zl_g l i) ≤ c (zl_g l j) := by
  intro l
  induction l with
  | nil => intro _ i j _ h; exact absurd h (by simp)
  | cons k l ih =>
    intro hp i j hij hj
    rw [List.length_cons] at hj
    have hp2 := List.pairwise_cons.mp hp
    cases j with
    | zero =>
      have : i = 0 := by omega
      subst this
      exact Nat.le_refl _
    | succ j =>
      cases i with
      | zero => exact hp2.1 _ (zl_gm l j (by omega))
      | succ i => exact ih hp2.2 i j (by omega) (by omega)
/-! ===== a chain ===== -/
def zl_C (nx : Nat → Int32) : List Nat → Int32 → Prop
  | [], h => h = -1
  | k :: t, h => h = nI k ∧ zl_C nx t (nx k)
theorem zl_Cf {nx nx' : Nat → Int32} : ∀ (l : List Nat) (h : Int32), (∀ j, j ∈ l → nx' j = nx j) → zl_C nx l h → zl_C nx' l h := by
  intro l
  induction l with
  | nil => intro h _ z; exact z
  | cons k l ih =>
    intro h hf z
    refine ⟨z.1, ?_⟩
    rw [hf k (by simp)]
    exact ih _ (fun j hj => hf j (by simp [hj])) z.2
/-! ===== stacks: the head of the list lies on top ===== -/
def zk_K {α : Type} (P : α → Nat → Prop) : List α → Prop
  | [] => True
  | l :: r => P l r.length ∧ zk_K P r
theorem zk_fr {α : Type} {P P' : α → Nat → Prop} : ∀ (L : List α), (∀ l i, i < L.length → P l i → P' l i) → zk_K P L → zk_K P' L := by
  intro L
  induction L with
  | nil => intro _ _; trivial
  | cons l L ih =>
    intro h hk
    exact ⟨h l L.length (by simp) hk.1, ih (fun m i hi hm => h m i (by rw [List.length_cons]; omega) hm) hk.2⟩
theorem zk_mem {α : Type} {P : α → Nat → Prop} : ∀ (L : List α), zk_K P L → ∀ l, l ∈ L → ∃ i, P l i := by
  intro L
  induction L with
  | nil => intro _ l h; exact absurd h (by simp)
  | cons m L ih =>
    intro hk l hl
    rcases List.mem_cons.mp hl with e | e
    · subst e; exact ⟨_, hk.1⟩
    · exact ih hk.2 l e
def zk_N {α : Type} (f : α → Nat) : List α → Nat
  | [] => 0
  | l :: r => f l + zk_N f r
theorem zk_len {α : Type} {f : α → Nat} : ∀ (L : List α), (∀ a, a ∈ L → 1 ≤ f a) → L.length ≤ zk_N f L := by
  intro L
  induction L with
  | nil => intro _; exact Nat.le_refl _
  | cons l L ih =>
    intro h
    have h1 := h l (by simp)
    have h2 := ih (fun a ha => h a (by simp [ha]))
    show L.length + 1 ≤ f l + zk_N f L
    omega
