/-- both sides hold the same two rows -/
def i_Rel (_ : Nat) (u : SX) (v : SY) : Prop := u = v
theorem i_up {k : Nat} {u : SX} {v : SY} (h : i_Rel k u v) : i_Rel (k + 3) u v := h
theorem i_vc0 : wpX_init (fun u => wpY_init (fun v => i_Rel 0 u v)) := rfl
theorem i_vc_filter {k : Nat} {u : SX} {v : SY} (I : i_Rel k u v) (hk : k + 3 ≤ 1536) (v1 : Int32) (v2 : Int32) : wpX_filter (fun r u' => wpY_filter (fun r' v' => r' = r ∧ i_Rel (k + 3) u' v') v v1 v2) u v1 v2 := by
  cases I
  obtain ⟨p, c⟩ := u
  unfold wpX_filter wpY_filter wpX_isColumn
  dsimp only
  rcases pf_col v1 7 (by decide) with h0 | ⟨n0, h8, _, n7⟩ | ⟨j, hj, ej, n0, n8, _, h7⟩
  · exact br_t h0 (br_t rfl (br_t h0 ⟨rfl, rfl⟩))
  · exact br_f n0 (br_t h8 (br_t rfl (br_f n0 (br_f n7 ⟨rfl, rfl⟩))))
  · subst ej
    have hi : vp_in (nI j) 8 := vp_in_nI hj (by decide)
    have ec : (nI j).toNatClampNeg = j := nI_clamp (by omega)
    rw [ec]
    refine br_f n0 (br_f n8 (br_f (by decide) ?_))
    refine pf_X p c hj ?_
    refine ⟨hi, nm_e ?_⟩
    refine br_f n0 (br_t h7 ⟨hi, nm_e ?_⟩)
    refine pf_Y _ _ hj ?_
    rw [pf_PU]
    exact ⟨rfl, rfl⟩
theorem i_vc_unfilter {k : Nat} {u : SX} {v : SY} (I : i_Rel k u v) (hk : k + 3 ≤ 1536) (v1 : Int32) (v2 : Int32) : wpX_unfilter (fun r u' => wpY_unfilter (fun r' v' => r' = r ∧ i_Rel (k + 3) u' v') v v1 v2) u v1 v2 := by
  cases I
  obtain ⟨p, c⟩ := u
  unfold wpX_unfilter wpY_unfilter wpX_isColumn
  dsimp only
  rcases pf_col v1 7 (by decide) with h0 | ⟨n0, h8, _, n7⟩ | ⟨j, hj, ej, n0, n8, _, h7⟩
  · exact br_t h0 (br_t rfl (br_t h0 ⟨rfl, rfl⟩))
  · exact br_f n0 (br_t h8 (br_t rfl (br_f n0 (br_f n7 ⟨rfl, rfl⟩))))
  · subst ej
    have hi : vp_in (nI j) 8 := vp_in_nI hj (by decide)
    have ec : (nI j).toNatClampNeg = j := nI_clamp (by omega)
    rw [ec]
    refine br_f n0 (br_f n8 (br_f (by decide) ?_))
    refine pf_X p c hj ?_
    refine nm_e ⟨hi, nm_e ?_⟩
    refine br_f n0 (br_t h7 ?_)
    refine pf_Y p c hj ?_
    refine ⟨hi, nm_e ⟨bp_b _, ?_⟩⟩
    exact congrArg (fun z => (p, upd c j (vp_nar .byte z))) (pf_cut _)
theorem pf_row : ∀ d j : Nat, j + d = 8 → ∀ (s : Int32) (p c : Nat → Int32), ∃ (r : Int32) (u : (Nat → Int32) × (Nat → Int32)), (∀ post : Int32 → SX → Prop, post r u → wX_nextRow_4 post (d + 1) s (nI j) p c) ∧ (∀ post : Int32 → SY → Prop, post r u → wY_nextRow_4 post (d + 1) s (nI j) p c) := by
  intro d
  induction d with
  | zero =>
    intro j hj s p c
    have h : (8 : Int32) ≤ nI j := by rw [← pf_8]; exact nI_le (by omega) (by omega)
    exact ⟨s, (p, c), fun _ hp => br_t h hp, fun _ hp => br_t h hp⟩
  | succ d ih =>
    intro j hj s p c
    have h : ¬ (8 : Int32) ≤ nI j := by rw [← pf_8]; exact nI_ge (by omega) (by omega)
    have hi : vp_in (nI j) 8 := vp_in_nI (by omega) (by omega)
    have ec : (nI j).toNatClampNeg = j := nI_clamp (by omega)
    obtain ⟨r, u, hX, hY⟩ := ih (j + 1) (by omega) (s + (c j &&& 255)) (upd p j (vp_nar .byte (c j))) c
    refine ⟨r, u, fun post hp => br_f h ⟨hi, hi, fun p1 ep => ⟨hi, fun s1 es y ey => ?_⟩⟩, fun post hp => br_f h ⟨hi, hi, fun p1 ep s1 es y ey => ?_⟩⟩
    · rw [ep, es, ey, ec, nI_1]; exact hX post hp
    · rw [ep, es, ey, ec, nI_1]; exact hY post hp
theorem i_vc_nextRow {k : Nat} {u : SX} {v : SY} (I : i_Rel k u v) (hk : k + 3 ≤ 1536) : wpX_nextRow (fun r u' => wpY_nextRow (fun r' v' => r' = r ∧ i_Rel (k + 3) u' v') v) u := by
  cases I
  obtain ⟨p, c⟩ := u
  obtain ⟨r, u, hX, hY⟩ := pf_row 8 0 rfl 0 p c
  exact ⟨_, hX _ ⟨_, hY _ ⟨rfl, rfl⟩⟩⟩
theorem i_vc_peek {k : Nat} {u : SX} {v : SY} (I : i_Rel k u v) (hk : k + 3 ≤ 1536) (v1 : Int32) : wpX_peek (fun r => wpY_peek (fun r' => r' = r ∧ i_Rel (k + 3) u v) v v1) u v1 := by
  cases I
  obtain ⟨p, c⟩ := u
  rcases pf_col v1 15 (by decide) with h0 | ⟨n0, _, n16, n15⟩ | ⟨j, hj, ej, n0, _, h16, h15⟩
  · exact br_t h0 (br_t h0 ⟨rfl, rfl⟩)
  · exact br_f n0 (br_f n16 (br_f n0 (br_f n15 ⟨rfl, rfl⟩)))
  · by_cases h8 : (8 : Int32) ≤ v1
    · have hi : vp_in (v1 - 8) 8 := by
        subst ej
        have h : nI 8 ≤ nI j := h8
        rw [nI_leI (by decide) (by omega)] at h
        rw [← pf_8, pk_sub h]
        exact vp_in_nI (by omega) (by decide)
      exact br_f n0 (br_t h16 (br_t h8 ⟨hi, br_f n0 (br_t h15 (br_t h8 ⟨hi, rfl, rfl⟩))⟩))
    · have hi : vp_in v1 8 := by
        subst ej
        have h : ¬ nI 8 ≤ nI j := h8
        rw [nI_leI (by decide) (by omega)] at h
        exact vp_in_nI (by omega) (by decide)
      exact br_f n0 (br_t h16 (br_f h8 ⟨hi, br_f n0 (br_t h15 (br_f h8 ⟨hi, rfl, rfl⟩))⟩))
