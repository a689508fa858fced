/-! ===== the reference, method by method, against the picture ===== -/
section
variable {al : Nat → Bool} {cx cy : Nat → Nat} {v : Nat → Int32} {post : Int32 → Prop}
theorem zy_isPlace {x : Int32} (ht : ∀ p, p < 4096 → x = nI p → post 1) (hf : (∀ p, p < 4096 → ¬ x = nI p) → post 0) : wpY_isPlace post v x := by
  unfold wpY_isPlace
  rcases zp_ix x 4096 (by omega) with ⟨p, hp, e⟩ | ⟨h0, hn⟩ | ⟨m, h1, h2, e, hn⟩
  · subst e
    exact br_f (nI_pos (by omega)) (br_f (nI_nlt (a := 4095) (by omega) (by omega)) (ht p hp rfl))
  · exact br_t h0 (hf hn)
  · subst e
    exact br_f (nI_pos h2) (br_t (nI_lt (a := 4095) (by omega) (by omega)) (hf hn))
theorem zy_isPlaceN {p : Nat} (hp : p < 4096) (h : post 1) : wpY_isPlace post v (nI p) := zy_isPlace (fun _ _ _ => h) (fun hn => absurd rfl (hn p hp))
theorem zy_isN (hV : zr_V al cx cy v) (hb : zr_b cx cy) {k : Nat} (hk : k < 28) (ht : al k = true → post 1) (hf : al k = false → post 0) : wpY_is post v (nI k) := by
  unfold wpY_is
  refine br_f (nI_pos (by omega)) (br_f (zn_28f hk) ⟨vp_in_nI hk (by omega), ?_⟩)
  rw [nI_clamp (show k < 2 ^ 31 by omega)]
  cases ha : al k
  · exact br_t (zr_Vf hV hk ha) (hf ha)
  · refine br_f ?_ (ht ha)
    rw [zr_Vt hV hk ha]
    have := zp_pl hb k
    exact nI_ne0 (by omega) (by omega)
theorem zy_is (hV : zr_V al cx cy v) (hb : zr_b cx cy) {x : Int32} (ht : ∀ k, k < 28 → x = nI k → al k = true → post 1) (hf : (∀ k, k < 28 → x = nI k → al k = false) → post 0) : wpY_is post v x := by
  rcases zp_ix x 28 (by omega) with ⟨k, hk, e⟩ | ⟨h0, hn⟩ | ⟨m, h1, h2, e, hn⟩
  · subst e
    refine zy_isN hV hb hk (fun ha => ht k hk rfl ha) (fun ha => hf (fun j hj e => ?_))
    rw [← (nI_eq (by omega) (by omega)).mp e]
    exact ha
  · exact br_t h0 (hf (fun k hk e => absurd e (hn k hk)))
  · subst e
    exact br_f (nI_pos h2) (br_t (nI_le (a := 28) h1 h2) (hf (fun k hk e => absurd e (hn k hk))))
theorem zy_x (hV : zr_V al cx cy v) (hb : zr_b cx cy) {k : Nat} (hk : k < 28) (ha : al k = true) (h : post (nI (cx k))) : wpY_x post v (nI k) := by
  refine ⟨vp_in_nI hk (by omega), by decide, ?_⟩
  rw [nI_clamp (show k < 2 ^ 31 by omega), zr_Vt hV hk ha, nI_pred, zn_x (zp_pl hb k), zp_px hb k]
  exact h
theorem zy_y (hV : zr_V al cx cy v) (hb : zr_b cx cy) {k : Nat} (hk : k < 28) (ha : al k = true) (h : post (nI (cy k))) : wpY_y post v (nI k) := by
  refine ⟨vp_in_nI hk (by omega), by decide, ?_⟩
  rw [nI_clamp (show k < 2 ^ 31 by omega), zr_Vt hV hk ha, nI_pred, zn_y (zp_pl hb k), zp_py hb k]
  exact h
theorem zy_far (hV : zr_V al cx cy v) (hb : zr_b cx cy) {k p : Nat} (hk : k < 28) (ha : al k = true) (hp : p < 4096) (h : post (nI (zp_f cx cy p k))) : wpY_far post v (nI k) (nI p) := by
  unfold wpY_far
  refine zy_x hV hb hk ha ⟨by decide, nm_r (congrArg (fun z => nI (cx k) - z) (zn_x hp)) ?_⟩
  refine zy_y hV hb hk ha ⟨by decide, nm_r (congrArg (fun z => nI (cy k) - z) (zn_y hp)) ?_⟩
  show post ((nI (cx k) - nI (p % 64)) * (nI (cx k) - nI (p % 64)) + (nI (cy k) - nI (p / 64)) * (nI (cy k) - nI (p / 64)))
  rw [zn_qI, zn_qc]
  exact h
theorem zy_points (hV : zr_V al cx cy v) (hb : zr_b cx cy) (h : ∀ r, zs_S r al → post r) : wpY_points post v := by
  unfold wpY_points
  refine loop_0 (fun n i s => wY_points_4 post v n s (nI i)) (fun i s => zs_S s (zs_U al i)) 28 0 (zs_u0 al) (fun n s hs => ?_) (fun n i s hi hs k => ?_)
  · exact br_t zn_28t (h s (zs_u28 hs))
  · refine br_f (zn_28f hi) (zy_isN hV hb hi (fun ha => ?_) (fun ha => ?_))
    · exact br_f zn_z1 (nm_e (nm_r (nI_1 i) (k _ (zs_ut hs hi ha))))
    · exact br_t rfl (nm_r (nI_1 i) (k _ (zs_uf hs ha)))
theorem zy_i6 {J : Int32 → Int32 → Prop} {x2 x3 x4 : Int32} {i : Nat} (h : J x4 (nI (i + 1))) : wY_inside_106 post J x2 x3 x4 (nI i) v := br_t rfl (nm_r (nI_1 i) h)
theorem zy_insG (hV : zr_V al cx cy v) (hb : zr_b cx cy) {e lo hi : Nat} (he : e < 8) (hlo : lo < 4096) (hhi : hi < 4096) (h : ∀ r, zs_S r (fun k => al k && zp_in lo hi (cx k) (cy k)) → post r) : wpY_inside post v (nI e) (nI lo) (nI hi) := by
  unfold wpY_inside
  refine br_f (nI_pos (by omega)) (br_f (nI_nlt (a := 7) (by omega) (by omega)) (zy_isPlaceN hlo (br_f zn_z1 (zy_isPlaceN hhi (br_f zn_z1 ?_)))))
  refine loop_0 (fun n i s => wY_inside_34 post (nI lo) (nI hi) v n s (nI i)) (fun i s => zs_S s (zs_U (fun k => al k && zp_in lo hi (cx k) (cy k)) i)) 28 0 (zs_u0 _) (fun n s hs => ?_) (fun n i s hi2 hs k => ?_)
  · exact br_t zn_28t (h s (zs_u28 hs))
  · have hbi := hb i
    have hno : (al i && zp_in lo hi (cx i) (cy i)) = false → wY_inside_106 post (wY_inside_34 post (nI lo) (nI hi) v n) (nI lo) (nI hi) s (nI i) v := fun z => zy_i6 (k _ (zs_uf hs z))
    have hnz : al i = true → ¬ (lo % 64 ≤ cx i ∧ cx i ≤ hi % 64 ∧ lo / 64 ≤ cy i ∧ cy i ≤ hi / 64) → (al i && zp_in lo hi (cx i) (cy i)) = false := fun _ hz => by
      cases hq : zp_in lo hi (cx i) (cy i)
      · exact Bool.and_false _
      · exact absurd ((zp_iff _ _ _ _).mp hq) hz
    refine br_f (zn_28f hi2) (zy_isN hV hb hi2 (fun ha => br_f zn_z1 ?_) (fun ha => br_t rfl (hno (by rw [ha]; rfl))))
    refine zy_x hV hb hi2 ha ⟨by decide, ?_⟩
    refine pk_lt (cx i) (lo % 64) (fun z => hno (hnz ha (by omega))) (fun z1 => ?_) rfl (zn_x hlo)
    refine zy_x hV hb hi2 ha ⟨by decide, ?_⟩
    refine pk_lt (hi % 64) (cx i) (fun z => hno (hnz ha (by omega))) (fun z2 => ?_) (zn_x hhi) rfl
    refine zy_y hV hb hi2 ha ⟨by decide, ?_⟩
    refine pk_lt (cy i) (lo / 64) (fun z => hno (hnz ha (by omega))) (fun z3 => ?_) rfl (zn_y hlo)
    refine zy_y hV hb hi2 ha ⟨by decide, ?_⟩
    refine pk_lt (hi / 64) (cy i) (fun z => hno (hnz ha (by omega))) (fun z4 => ?_) (zn_y hhi) rfl
    refine br_f zn_z1 (nm_e (nm_r (nI_1 i) (k _ (zs_ut hs hi2 ?_))))
    show (al i && zp_in lo hi (cx i) (cy i)) = true
    rw [ha, (zp_iff lo hi (cx i) (cy i)).mpr ⟨z1, z2, z3, z4⟩]
    rfl
def zp_bad (e lo hi : Int32) : Prop := (∀ j, j < 8 → ¬ e = nI j) ∨ (∀ p, p < 4096 → ¬ lo = nI p) ∨ (∀ p, p < 4096 → ¬ hi = nI p)
theorem zy_insB {e lo hi : Int32} (hbad : zp_bad e lo hi) (h : post (-1)) : wpY_inside post v e lo hi := by
  unfold wpY_inside
  rcases zp_ix e 8 (by omega) with ⟨j, hj, e1⟩ | ⟨h0, hn⟩ | ⟨m, h1, h2, e1, hn⟩
  · subst e1
    refine br_f (nI_pos (by omega)) (br_f (nI_nlt (a := 7) (by omega) (by omega)) (zy_isPlace (fun p hp e2 => br_f zn_z1 (zy_isPlace (fun q hq e3 => ?_) (fun _ => br_t rfl h))) (fun _ => br_t rfl h)))
    rcases hbad with z | z | z
    · exact absurd rfl (z j hj)
    · exact absurd e2 (z p hp)
    · exact absurd e3 (z q hq)
  · exact br_t h0 h
  · subst e1
    exact br_f (nI_pos h2) (br_t (nI_lt (a := 7) (by omega) h2) h)
end
