/-! ===== the sorted array: room made from the end, one taken out ===== -/
def zl_J (a : Nat → Int32) (A B : List Nat) : Prop := zl_A a 0 A ∧ zl_A a (A.length + 1) B
theorem zl_Jm {a : Nat → Int32} {A B : List Nat} {m : Nat} (h : zl_J a (A ++ [m]) B) : a A.length = nI m := by
  have h1 := ((zl_Aap A 0 [m]).mp h.1).2.1
  rwa [Nat.zero_add] at h1
theorem zl_Js {a : Nat → Int32} {A B : List Nat} {m : Nat} (h : zl_J a (A ++ [m]) B) : zl_J (upd a (A.length + 1) (nI m)) A (m :: B) := by
  have h1 := ((zl_Aap A 0 [m]).mp h.1).1
  have h2 := h.2
  rw [List.length_append, List.length_singleton] at h2
  refine ⟨zl_Aup A 0 (Or.inr (by omega)) h1, pk_us, zl_Aup B _ (Or.inl (by omega)) h2⟩
theorem zl_J0 {a : Nat → Int32} {S : List Nat} (h : zl_A a 0 S) : zl_J a S [] := ⟨h, trivial⟩
theorem zl_Je {a : Nat → Int32} {A B : List Nat} {k : Nat} (h : zl_J a A B) : zl_A (upd a A.length (nI k)) 0 (A ++ k :: B) := by
  refine (zl_Aap A 0 (k :: B)).mpr ⟨zl_Aup A 0 (Or.inr (by omega)) h.1, ?_, ?_⟩
  · rw [Nat.zero_add]; exact pk_us
  · rw [Nat.zero_add]; exact zl_Aup B _ (Or.inl (by omega)) h.2
theorem zl_noT {k m : Nat} (h : m ≠ k) : zl_no k m = true := by unfold zl_no; simp [h]
theorem zl_noF (k : Nat) : zl_no k k = false := by unfold zl_no; simp
theorem zl_nf {k : Nat} {t : List Nat} (h : k ∉ t) : t.filter (zl_no k) = t :=
  List.filter_eq_self.mpr (fun j hj => zl_noT (fun e => h (by rw [← e]; exact hj)))
def zl_G (a : Nat → Int32) (k : Nat) (A B : List Nat) : Prop := zl_A a 0 (A.filter (zl_no k)) ∧ zl_A a A.length B
theorem zl_Gl (k : Nat) (A : List Nat) : (A.filter (zl_no k)).length ≤ A.length := List.length_filter_le _ _
theorem zl_Gt {a : Nat → Int32} {k m : Nat} {A B : List Nat} (h : zl_G a k A (m :: B)) (hm : m ≠ k) : zl_G (upd a (A.filter (zl_no k)).length (nI m)) k (A ++ [m]) B ∧ ((A ++ [m]).filter (zl_no k)).length = (A.filter (zl_no k)).length + 1 := by
  have e : (A ++ [m]).filter (zl_no k) = A.filter (zl_no k) ++ [m] := zt_fa (zl_noT hm)
  have hl := zl_Gl k A
  refine ⟨⟨?_, ?_⟩, by rw [e, List.length_append, List.length_singleton]⟩
  · rw [e]
    refine (zl_Aap _ 0 [m]).mpr ⟨zl_Aup _ 0 (Or.inr (by omega)) h.1, ?_, trivial⟩
    rw [Nat.zero_add]; exact pk_us
  · rw [List.length_append, List.length_singleton]
    exact zl_Aup B _ (Or.inl (by omega)) h.2.2
theorem zl_Gf {a : Nat → Int32} {k : Nat} {A B : List Nat} (h : zl_G a k A (k :: B)) : zl_G a k (A ++ [k]) B ∧ ((A ++ [k]).filter (zl_no k)).length = (A.filter (zl_no k)).length := by
  have e : (A ++ [k]).filter (zl_no k) = A.filter (zl_no k) := zt_fb (zl_noF k)
  refine ⟨⟨by rw [e]; exact h.1, ?_⟩, by rw [e]⟩
  rw [List.length_append, List.length_singleton]
  exact h.2.2
/-! ===== a chain with one taken out ===== -/
def zl_E (nx nx' : Nat → Int32) (k : Nat) (l : List Nat) (h : Int32) : Prop := zl_C nx' (l.filter (zl_no k)) h ∧ ∀ j, j ∉ l → nx' j = nx j
theorem zl_E1 {nx : Nat → Int32} {k m : Nat} {t : List Nat} {h : Int32} (hn : (m :: k :: t).Nodup) (hc : zl_C nx (m :: k :: t) h) : zl_E nx (upd nx m (nx k)) k (m :: k :: t) h := by
  obtain ⟨n1, n2⟩ := List.nodup_cons.mp hn
  obtain ⟨n3, n4⟩ := List.nodup_cons.mp n2
  have hmk : m ≠ k := fun e => n1 (by rw [e]; simp)
  refine ⟨?_, fun j hj => pk_un (fun e => hj (by rw [e]; simp))⟩
  rw [List.filter_cons, if_pos (zl_noT hmk), List.filter_cons, if_neg (by rw [zl_noF]; decide), zl_nf n3]
  refine ⟨hc.1, ?_⟩
  rw [pk_us]
  exact zl_Cf t _ (fun j hj => pk_un (fun e => n1 (by rw [← e]; simp [hj]))) hc.2.2
theorem zl_E2 {nx nx' : Nat → Int32} {k m p : Nat} {t : List Nat} {h : Int32} (hn : (m :: p :: t).Nodup) (hmk : m ≠ k) (hpk : p ≠ k) (hc : zl_C nx (m :: p :: t) h) (hE : zl_E nx nx' k (p :: t) (nx m)) : zl_E nx nx' k (m :: p :: t) h := by
  obtain ⟨n1, n2⟩ := List.nodup_cons.mp hn
  refine ⟨?_, fun j hj => hE.2 j (fun z => hj (List.mem_cons_of_mem _ z))⟩
  rw [List.filter_cons, if_pos (zl_noT hmk)]
  refine ⟨hc.1, ?_⟩
  rw [hE.2 m n1]
  exact hE.1
/-! ===== the rows' relation, one in, one out ===== -/
theorem zr_Rin {al al' : Nat → Bool} {cy : Nat → Nat} {rh rn : Nat → Int32} {k : Nat} (h : zr_R al cy rh rn) (hF : zr_F al al' k) (ha : al k = false) (hk : k < 28) (hy : cy k < 64) :
    zr_R al' cy (upd rh (cy k) (nI k)) (upd rn k (rh (cy k))) := by
  intro y hy2
  obtain ⟨R, h1, h2⟩ := h y hy2
  have hn : k ∉ R := fun z => by
    have h3 : (al k && decide (cy k = y)) = true := ((h1.2 k).mp z).2
    rw [ha] at h3
    exact absurd h3 (by simp)
  by_cases e : y = cy k
  · subst e
    refine ⟨k :: R, zl_ins (A := []) h1 hk (by rw [ha]; rfl) (fun j _ => ?_), ?_⟩
    · rw [zr_Fi hF ha j]
      by_cases e2 : j = k
      · subst e2; simp
      · simp [e2]
    · rw [pk_us]
      refine ⟨rfl, ?_⟩
      rw [pk_us]
      exact zl_Cf R _ (fun j hj => pk_un (fun e2 => hn (by rw [← e2]; exact hj))) h2
  · refine ⟨R, zl_cg h1 (fun j _ => ?_), ?_⟩
    · by_cases e2 : j = k
      · subst e2; rw [ha, decide_eq_false (fun z => e z.symm)]; simp
      · rw [hF.1 j e2]
    · rw [pk_un e]
      exact zl_Cf R _ (fun j hj => pk_un (fun e2 => hn (by rw [← e2]; exact hj))) h2
/-- the chain of k's row has lost k, the others are as they were -/
theorem zr_Rout {al al' : Nat → Bool} {cy : Nat → Nat} {rh rn rh' rn' : Nat → Int32} {k : Nat} {R : List Nat} (h : zr_R al cy rh rn) (hF : zr_F al al' k) (ha : al k = true) (hy : cy k < 64)
    (hR : zl_M R (fun j => al j && decide (cy j = cy k))) (hE : zl_E rn rn' k R (rh' (cy k))) (hh : ∀ y, y < 64 → y ≠ cy k → rh' y = rh y) : zr_R al' cy rh' rn' := by
  intro y hy2
  by_cases e : y = cy k
  · subst e
    refine ⟨R.filter (zl_no k), zl_del hR k (fun j _ => ?_), hE.1⟩
    rw [zr_Fo hF ha j]
    cases al j <;> cases decide (cy j = cy k) <;> simp
  · obtain ⟨Q, h1, h2⟩ := h y hy2
    refine ⟨Q, zl_cg h1 (fun j _ => ?_), ?_⟩
    · by_cases e2 : j = k
      · subst e2; rw [decide_eq_false (fun z => e z.symm)]; simp
      · rw [hF.1 j e2]
    · rw [hh y hy2 e]
      refine zl_Cf Q _ (fun j hj => hE.2 j (fun z => ?_)) h2
      have h3 := (Bool.and_eq_true _ _).mp ((h1.2 j).mp hj).2
      have h4 := (Bool.and_eq_true _ _).mp ((hR.2 j).mp z).2
      exact e ((of_decide_eq_true h3.2).symm.trans (of_decide_eq_true h4.2))
/-! ===== the sorted relation, one in, one out ===== -/
theorem zr_Oin {al al' : Nat → Bool} {cx : Nat → Nat} {A B : List Nat} {k : Nat} {a : Nat → Int32} (hM : zl_M (A ++ B) al) (hp : (A ++ B).Pairwise (fun a b => cx a ≤ cx b)) (hF : zr_F al al' k) (ha : al k = false) (hk : k < 28)
    (hA : ∀ j, j ∈ A → cx j ≤ cx k) (hB : ∀ j, j ∈ B → cx k ≤ cx j) (hJ : zl_J a A B) : zr_O al' cx (nI ((A ++ B).length + 1)) (upd a A.length (nI k)) := by
  refine ⟨A ++ k :: B, zl_ins hM hk ha (fun j _ => zr_Fi hF ha j), ?_, ?_, zl_Je hJ⟩
  · obtain ⟨p1, p2, p3⟩ := List.pairwise_append.mp hp
    refine List.pairwise_append.mpr ⟨p1, List.pairwise_cons.mpr ⟨hB, p2⟩, fun x hx y hy => ?_⟩
    rcases List.mem_cons.mp hy with e | e
    · rw [e]; exact hA x hx
    · exact p3 x hx y e
  · rw [List.length_append, List.length_append, List.length_cons]
    exact congrArg nI (by omega)
theorem zr_Oout {al al' : Nat → Bool} {cx : Nat → Nat} {S : List Nat} {k : Nat} {a : Nat → Int32} (hM : zl_M S al) (hp : S.Pairwise (fun a b => cx a ≤ cx b)) (hF : zr_F al al' k) (ha : al k = true) (hG : zl_G a k S []) : zr_O al' cx (nI (S.filter (zl_no k)).length) a :=
  ⟨S.filter (zl_no k), zl_del hM k (fun j _ => zr_Fo hF ha j), List.Pairwise.filter _ hp, rfl, hG.1⟩
