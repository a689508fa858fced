/-! ===== the k-d tree over the list of its points in the order in which they came ===== -/
def zt_lt (cx cy : Nat → Nat) (b : Bool) (m j : Nat) : Bool := if b then decide (cy j < cy m) else decide (cx j < cx m)
def zt_ge (cx cy : Nat → Nat) (b : Bool) (m j : Nat) : Bool := !zt_lt cx cy b m j
def zt_b (b : Bool) : Int32 := if b then 1 else 0
def zt_T (cx cy : Nat → Nat) (lo hi sy : Nat → Int32) : Nat → List Nat → Bool → Int32 → Prop
  | 0, t, _, r => t = [] ∧ r = -1
  | f + 1, t, b, r => match t with
    | [] => r = -1
    | m :: t => r = nI m ∧ sy m = zt_b b ∧ zt_T cx cy lo hi sy f (t.filter (zt_lt cx cy b m)) (!b) (lo m) ∧ zt_T cx cy lo hi sy f (t.filter (zt_ge cx cy b m)) (!b) (hi m)
theorem zt_nil {cx cy : Nat → Nat} {lo hi sy : Nat → Int32} {f : Nat} {b : Bool} {r : Int32} (h : zt_T cx cy lo hi sy f [] b r) : r = -1 := by
  cases f with
  | zero => exact h.2
  | succ f => exact h
theorem zt_mkn {cx cy : Nat → Nat} {lo hi sy : Nat → Int32} {f : Nat} {b : Bool} : zt_T cx cy lo hi sy f [] b (-1) := by
  cases f with
  | zero => exact ⟨rfl, rfl⟩
  | succ f => show (-1 : Int32) = -1; rfl
theorem zt_hd {cx cy : Nat → Nat} {lo hi sy : Nat → Int32} {f m : Nat} {t : List Nat} {b : Bool} {r : Int32} (h : zt_T cx cy lo hi sy f (m :: t) b r) : ∃ g, f = g + 1 ∧ r = nI m ∧ sy m = zt_b b ∧ zt_T cx cy lo hi sy g (t.filter (zt_lt cx cy b m)) (!b) (lo m) ∧ zt_T cx cy lo hi sy g (t.filter (zt_ge cx cy b m)) (!b) (hi m) := by
  cases f with
  | zero =>
    have h' : m :: t = [] ∧ r = -1 := h
    exact absurd h'.1 (by simp)
  | succ f => exact ⟨f, rfl, h⟩
theorem zt_up {cx cy : Nat → Nat} {lo hi sy : Nat → Int32} : ∀ (f : Nat) (t : List Nat) (b : Bool) (r : Int32), zt_T cx cy lo hi sy f t b r → zt_T cx cy lo hi sy (f + 1) t b r := by
  intro f
  induction f with
  | zero =>
    intro t b r h
    obtain ⟨rfl, h2⟩ := h
    exact h2
  | succ f ih =>
    intro t b r h
    cases t with
    | nil => exact h
    | cons m t =>
      exact ⟨h.1, h.2.1, ih _ _ _ h.2.2.1, ih _ _ _ h.2.2.2⟩
theorem zt_ups {cx cy : Nat → Nat} {lo hi sy : Nat → Int32} {t : List Nat} {b : Bool} {r : Int32} {f : Nat} : ∀ (d : Nat), zt_T cx cy lo hi sy f t b r → zt_T cx cy lo hi sy (f + d) t b r := by
  intro d
  induction d with
  | zero => exact fun h => h
  | succ d ih => exact fun h => zt_up _ _ _ _ (ih h)
/-- only what the list names matters -/
theorem zt_fr {cx cy cx' cy' : Nat → Nat} {lo hi sy lo' hi' sy' : Nat → Int32} : ∀ (f : Nat) (t : List Nat) (b : Bool) (r : Int32), (∀ j, j ∈ t → cx' j = cx j ∧ cy' j = cy j ∧ lo' j = lo j ∧ hi' j = hi j ∧ sy' j = sy j) → zt_T cx cy lo hi sy f t b r → zt_T cx' cy' lo' hi' sy' f t b r := by
  intro f
  induction f with
  | zero => intro t b r _ h; exact h
  | succ f ih =>
    intro t b r hf h
    cases t with
    | nil => exact h
    | cons m t =>
      obtain ⟨h1, h2, h3, h4⟩ := h
      obtain ⟨m1, m2, m3, m4, m5⟩ := hf m (by simp)
      have e1 : t.filter (zt_lt cx' cy' b m) = t.filter (zt_lt cx cy b m) := List.filter_congr (fun j hj => by
        obtain ⟨j1, j2, _⟩ := hf j (by simp [hj])
        unfold zt_lt
        rw [m1, m2, j1, j2])
      have e2 : t.filter (zt_ge cx' cy' b m) = t.filter (zt_ge cx cy b m) := List.filter_congr (fun j hj => by
        obtain ⟨j1, j2, _⟩ := hf j (by simp [hj])
        unfold zt_ge zt_lt
        rw [m1, m2, j1, j2])
      refine ⟨h1, m5.trans h2, ?_, ?_⟩
      · rw [e1, m3]
        exact ih _ _ _ (fun j hj => hf j (List.mem_cons_of_mem _ (List.mem_filter.mp hj).1)) h3
      · rw [e2, m4]
        exact ih _ _ _ (fun j hj => hf j (List.mem_cons_of_mem _ (List.mem_filter.mp hj).1)) h4
/-- a leaf -/
theorem zt_leaf {cx cy : Nat → Nat} {lo hi sy : Nat → Int32} {k : Nat} {b : Bool} (f : Nat) (h1 : lo k = -1) (h2 : hi k = -1) (h3 : sy k = zt_b b) : zt_T cx cy lo hi sy (f + 1) [k] b (nI k) := by
  refine ⟨rfl, h3, ?_, ?_⟩
  · rw [h1]; exact zt_mkn
  · rw [h2]; exact zt_mkn
/-- what the way down of a new point k leaves: the tree of t ++ [k], all else as it was -/
def zt_D (cx cy : Nat → Nat) (lo hi sy lo' hi' sy' : Nat → Int32) (k f : Nat) (t : List Nat) (b : Bool) (r : Int32) : Prop :=
  zt_T cx cy lo' hi' sy' f (t ++ [k]) b r ∧ ∀ j, j ∉ t → j ≠ k → lo' j = lo j ∧ hi' j = hi j ∧ sy' j = sy j
theorem zt_fa {p : Nat → Bool} {t : List Nat} {k : Nat} (h : p k = true) : (t ++ [k]).filter p = t.filter p ++ [k] := by
  rw [List.filter_append]
  congr 1
  simp [h]
theorem zt_fb {p : Nat → Bool} {t : List Nat} {k : Nat} (h : p k = false) : (t ++ [k]).filter p = t.filter p := by
  rw [List.filter_append]
  simp [h]
/-- the low side takes k -/
theorem zt_lo {cx cy : Nat → Nat} {lo hi sy lo' hi' sy' : Nat → Int32} {k f m : Nat} {t : List Nat} {b : Bool} (hk : k ∉ m :: t) (hm : m ∉ t) (hlt : zt_lt cx cy b m k = true)
    (hs : sy m = zt_b b) (hT : zt_T cx cy lo hi sy f (t.filter (zt_ge cx cy b m)) (!b) (hi m))
    (hl : lo' m = lo m ∨ True) (hmm : hi' m = hi m ∧ sy' m = sy m)
    (hD : zt_T cx cy lo' hi' sy' (f + 1) (t.filter (zt_lt cx cy b m) ++ [k]) (!b) (lo' m))
    (hF : ∀ j, j ∉ m :: t.filter (zt_lt cx cy b m) → j ≠ k → lo' j = lo j ∧ hi' j = hi j ∧ sy' j = sy j) :
    zt_D cx cy lo hi sy lo' hi' sy' k (f + 2) (m :: t) b (nI m) := by
  refine ⟨⟨rfl, hmm.2.trans hs, ?_, ?_⟩, fun j hj hjk => hF j (fun z => hj ?_) hjk⟩
  · show zt_T cx cy lo' hi' sy' (f + 1) ((t ++ [k]).filter (zt_lt cx cy b m)) (!b) (lo' m)
    rw [zt_fa hlt]; exact hD
  · show zt_T cx cy lo' hi' sy' (f + 1) ((t ++ [k]).filter (zt_ge cx cy b m)) (!b) (hi' m)
    rw [zt_fb (by unfold zt_ge; rw [hlt]; rfl), hmm.1]
    refine zt_up _ _ _ _ (zt_fr _ _ _ _ (fun j hj => ?_) hT)
    have hj2 := List.mem_filter.mp hj
    refine ⟨rfl, rfl, hF j (fun z => ?_) (fun z => hk (by rw [← z]; simp [hj2.1]))⟩
    rcases List.mem_cons.mp z with e | e
    · exact hm (by rw [← e]; exact hj2.1)
    · have h1 := (List.mem_filter.mp e).2
      have h2 := hj2.2
      unfold zt_ge at h2
      rw [h1] at h2
      exact absurd h2 (by decide)
  · rcases List.mem_cons.mp z with e | e
    · simp [e]
    · simp [(List.mem_filter.mp e).1]
/-- the high side takes k -/
theorem zt_hi {cx cy : Nat → Nat} {lo hi sy lo' hi' sy' : Nat → Int32} {k f m : Nat} {t : List Nat} {b : Bool} (hk : k ∉ m :: t) (hm : m ∉ t) (hlt : zt_lt cx cy b m k = false)
    (hs : sy m = zt_b b) (hT : zt_T cx cy lo hi sy f (t.filter (zt_lt cx cy b m)) (!b) (lo m))
    (hmm : lo' m = lo m ∧ sy' m = sy m)
    (hD : zt_T cx cy lo' hi' sy' (f + 1) (t.filter (zt_ge cx cy b m) ++ [k]) (!b) (hi' m))
    (hF : ∀ j, j ∉ m :: t.filter (zt_ge cx cy b m) → j ≠ k → lo' j = lo j ∧ hi' j = hi j ∧ sy' j = sy j) :
    zt_D cx cy lo hi sy lo' hi' sy' k (f + 2) (m :: t) b (nI m) := by
  refine ⟨⟨rfl, hmm.2.trans hs, ?_, ?_⟩, fun j hj hjk => hF j (fun z => hj ?_) hjk⟩
  · show zt_T cx cy lo' hi' sy' (f + 1) ((t ++ [k]).filter (zt_lt cx cy b m)) (!b) (lo' m)
    rw [zt_fb hlt, hmm.1]
    refine zt_up _ _ _ _ (zt_fr _ _ _ _ (fun j hj => ?_) hT)
    have hj2 := List.mem_filter.mp hj
    refine ⟨rfl, rfl, hF j (fun z => ?_) (fun z => hk (by rw [← z]; simp [hj2.1]))⟩
    rcases List.mem_cons.mp z with e | e
    · exact hm (by rw [← e]; exact hj2.1)
    · have h1 := (List.mem_filter.mp e).2
      have h2 := hj2.2
      unfold zt_ge at h1
      rw [h2] at h1
      exact absurd h1 (by decide)
  · show zt_T cx cy lo' hi' sy' (f + 1) ((t ++ [k]).filter (zt_ge cx cy b m)) (!b) (hi' m)
    rw [zt_fa (by unfold zt_ge; rw [hlt]; rfl)]; exact hD
  · rcases List.mem_cons.mp z with e | e
    · simp [e]
    · simp [(List.mem_filter.mp e).1]
/-- a step down a side whose list isn't empty: what came of the side below -/
theorem zt_lo2 {cx cy : Nat → Nat} {lo hi sy lo' hi' sy' : Nat → Int32} {k f m : Nat} {t : List Nat} {b : Bool} (hk : k ∉ m :: t) (hm : m ∉ t) (hlt : zt_lt cx cy b m k = true)
    (hs : sy m = zt_b b) (hT : zt_T cx cy lo hi sy f (t.filter (zt_ge cx cy b m)) (!b) (hi m))
    (hD : zt_D cx cy lo hi sy lo' hi' sy' k (f + 1) (t.filter (zt_lt cx cy b m)) (!b) (lo m)) :
    zt_D cx cy lo hi sy lo' hi' sy' k (f + 2) (m :: t) b (nI m) := by
  obtain ⟨h1, h2, h3⟩ := hD.2 m (fun z => hm (List.mem_filter.mp z).1) (fun z => hk (by rw [z]; simp))
  exact zt_lo hk hm hlt hs hT (Or.inr trivial) ⟨h2, h3⟩ (by rw [h1]; exact hD.1) (fun j hj hjk => hD.2 j (fun z => hj (List.mem_cons_of_mem _ z)) hjk)
theorem zt_hi2 {cx cy : Nat → Nat} {lo hi sy lo' hi' sy' : Nat → Int32} {k f m : Nat} {t : List Nat} {b : Bool} (hk : k ∉ m :: t) (hm : m ∉ t) (hlt : zt_lt cx cy b m k = false)
    (hs : sy m = zt_b b) (hT : zt_T cx cy lo hi sy f (t.filter (zt_lt cx cy b m)) (!b) (lo m))
    (hD : zt_D cx cy lo hi sy lo' hi' sy' k (f + 1) (t.filter (zt_ge cx cy b m)) (!b) (hi m)) :
    zt_D cx cy lo hi sy lo' hi' sy' k (f + 2) (m :: t) b (nI m) := by
  obtain ⟨h1, h2, h3⟩ := hD.2 m (fun z => hm (List.mem_filter.mp z).1) (fun z => hk (by rw [z]; simp))
  exact zt_hi hk hm hlt hs hT ⟨h1, h3⟩ (by rw [h2]; exact hD.1) (fun j hj hjk => hD.2 j (fun z => hj (List.mem_cons_of_mem _ z)) hjk)
/-- where k is hung -/
theorem zt_lo1 {cx cy : Nat → Nat} {lo hi sy : Nat → Int32} {k f m : Nat} {t : List Nat} {b : Bool} (hk : k ∉ m :: t) (hm : m ∉ t) (hlt : zt_lt cx cy b m k = true)
    (hs : sy m = zt_b b) (hT : zt_T cx cy lo hi sy f (t.filter (zt_ge cx cy b m)) (!b) (hi m)) (he : t.filter (zt_lt cx cy b m) = []) (hk1 : lo k = -1) (hk2 : hi k = -1) :
    zt_D cx cy lo hi sy (upd lo m (nI k)) hi (upd sy k (zt_b (!b))) k (f + 2) (m :: t) b (nI m) := by
  have hkm : k ≠ m := fun z => hk (by rw [z]; simp)
  refine zt_lo hk hm hlt hs hT (Or.inr trivial) ⟨rfl, pk_un hkm.symm⟩ ?_ (fun j hj hjk => ?_)
  · rw [he, pk_us]
    exact zt_leaf f (by rw [pk_un hkm]; exact hk1) hk2 pk_us
  · exact ⟨pk_un (fun z => hj (by rw [z]; simp)), rfl, pk_un hjk⟩
theorem zt_hi1 {cx cy : Nat → Nat} {lo hi sy : Nat → Int32} {k f m : Nat} {t : List Nat} {b : Bool} (hk : k ∉ m :: t) (hm : m ∉ t) (hlt : zt_lt cx cy b m k = false)
    (hs : sy m = zt_b b) (hT : zt_T cx cy lo hi sy f (t.filter (zt_lt cx cy b m)) (!b) (lo m)) (he : t.filter (zt_ge cx cy b m) = []) (hk1 : lo k = -1) (hk2 : hi k = -1) :
    zt_D cx cy lo hi sy lo (upd hi m (nI k)) (upd sy k (zt_b (!b))) k (f + 2) (m :: t) b (nI m) := by
  have hkm : k ≠ m := fun z => hk (by rw [z]; simp)
  refine zt_hi hk hm hlt hs hT ⟨rfl, pk_un hkm.symm⟩ ?_ (fun j hj hjk => ?_)
  · rw [he, pk_us]
    exact zt_leaf f hk1 (by rw [pk_un hkm]; exact hk2) pk_us
  · exact ⟨rfl, pk_un (fun z => hj (by rw [z]; simp)), pk_un hjk⟩
/-- the two sides together -/
theorem zt_ln (cx cy : Nat → Nat) (b : Bool) (m : Nat) (t : List Nat) : (t.filter (zt_lt cx cy b m)).length + (t.filter (zt_ge cx cy b m)).length = t.length := by
  induction t with
  | nil => rfl
  | cons k t ih =>
    rw [List.filter_cons, List.filter_cons, List.length_cons]
    cases h : zt_lt cx cy b m k
    · have h2 : zt_ge cx cy b m k = true := by unfold zt_ge; rw [h]; rfl
      rw [h2, if_neg (by decide), if_pos rfl, List.length_cons]; omega
    · have h2 : zt_ge cx cy b m k = false := by unfold zt_ge; rw [h]; rfl
      rw [h2, if_pos rfl, if_neg (by decide), List.length_cons]; omega
theorem zt_mm (cx cy : Nat → Nat) (b : Bool) (m : Nat) {t : List Nat} {k : Nat} (h : k ∈ t) : k ∈ t.filter (zt_lt cx cy b m) ∨ k ∈ t.filter (zt_ge cx cy b m) := by
  cases h2 : zt_lt cx cy b m k
  · exact Or.inr (List.mem_filter.mpr ⟨h, by unfold zt_ge; rw [h2]; rfl⟩)
  · exact Or.inl (List.mem_filter.mpr ⟨h, h2⟩)
/-- a list that is more than its tree's fuel allows isn't -/
theorem zt_ne {cx cy : Nat → Nat} {lo hi sy : Nat → Int32} {f : Nat} {t : List Nat} {b : Bool} {r : Int32} (h : zt_T cx cy lo hi sy f t b r) (hr : r = -1) (hb : ∀ j, j ∈ t → j < 28) : t = [] := by
  cases t with
  | nil => rfl
  | cons m t =>
    obtain ⟨g, _, h2, _⟩ := zt_hd h
    exact absurd (h2.symm.trans hr) (zn_n1 (by have := hb m (by simp); omega))
