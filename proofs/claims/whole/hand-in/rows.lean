section
theorem pk_us {f : Nat → Int32} {k : Nat} {x : Int32} : upd f k x k = x := if_pos rfl
theorem pk_un {f : Nat → Int32} {k j : Nat} {x : Int32} (h : j ≠ k) : upd f k x j = f j := if_neg h
theorem pk_sub {a b : Nat} (h : b ≤ a) : nI a - nI b = nI (a - b) := by
  obtain ⟨c, rfl⟩ : ∃ c, a = c + b := ⟨a - b, by omega⟩
  rw [← nI_add, Int32.add_sub_cancel, Nat.add_sub_cancel]
theorem pk_mul (a b : Nat) : nI a * nI b = nI (a * b) := (Int32.ofNat_mul a b).symm
theorem pk_sub_toInt {a b : Nat} (ha : a < 2 ^ 30) (hb : b < 2 ^ 30) : (nI a - nI b).toInt = (a : Int) - b := by
  rw [Int32.toInt_sub, nI_toInt (by omega), nI_toInt (by omega)]
  exact Int.bmod_eq_of_le (by omega) (by omega)
theorem pk_sneg {a b : Nat} (hb : b < 2 ^ 30) (h : a < b) : nI a - nI b < 0 := by
  rw [Int32.lt_iff_toInt_lt, pk_sub_toInt (by omega) hb, show (0 : Int32).toInt = 0 from by decide]
  omega
theorem pk_le {x y : Int32} {A B : Prop} (a b : Nat) (f : a ≤ b → A) (g : b < a → B) (hx : x = nI a := by rfl) (hy : y = nI b := by rfl) (ha : a < 2 ^ 31 := by omega) (hb : b < 2 ^ 31 := by omega) : (x ≤ y → A) ∧ (¬ x ≤ y → B) := by
  subst hx hy
  rw [nI_leI ha hb]
  exact ⟨f, fun z => g (by omega)⟩
theorem pk_lt {x y : Int32} {A B : Prop} (a b : Nat) (f : a < b → A) (g : b ≤ a → B) (hx : x = nI a := by rfl) (hy : y = nI b := by rfl) (ha : a < 2 ^ 31 := by omega) (hb : b < 2 ^ 31 := by omega) : (x < y → A) ∧ (¬ x < y → B) := by
  subst hx hy
  rw [nI_ltI ha hb]
  exact ⟨f, fun z => g (by omega)⟩
theorem pk_in {x : Int32} (n N : Nat) (h : n < N) (hx : x = nI n := by rfl) (hN : N < 2 ^ 31 := by omega) : vp_in x N := by
  subst hx
  exact vp_in_nI h hN
theorem pk_cl {x : Int32} (n : Nat) (hx : x = nI n := by rfl) (h : n < 2 ^ 31 := by omega) : x.toNatClampNeg = n := by
  subst hx
  exact nI_clamp h
theorem pk_and (x : Int32) {m : Int32} (k : Nat) (hm : m.toBitVec.toNat = 2 ^ k - 1) : x &&& m = nI (x.toBitVec.toNat % 2 ^ k) := by
  apply Int32.toBitVec_inj.mp
  apply BitVec.eq_of_toNat_eq
  rw [Int32.toBitVec_and, BitVec.toNat_and, hm, Nat.and_two_pow_sub_one_eq_mod]
  show _ = (BitVec.ofNat 32 _).toNat
  rw [BitVec.toNat_ofNat]
  exact (Nat.mod_eq_of_lt (Nat.lt_of_le_of_lt (Nat.mod_le _ _) x.toBitVec.isLt)).symm
theorem pk_vb (z : Int32) : vp_nar .byte z.toInt8.toInt32 = z.toInt8.toInt32 := by rw [vp_nar_byte]; simp
theorem bp_b (x : Int32) : x.toInt8.toInt32 &&& 255 = x &&& 255 := by
  apply Int32.toBitVec_inj.mp
  rw [Int32.toBitVec_and, Int32.toBitVec_and, Int8.toBitVec_toInt32, Int32.toBitVec_toInt8]
  apply BitVec.eq_of_getLsbD_eq
  intro i hi
  rw [BitVec.getLsbD_and, BitVec.getLsbD_and]
  have hm : ∀ i < 32, 8 ≤ i → (255 : Int32).toBitVec.getLsbD i = false := by decide
  rcases Nat.lt_or_ge i 8 with z | z
  · rw [BitVec.getLsbD_signExtend, BitVec.getLsbD_signExtend, if_pos z, if_pos hi]
    simp only [z, hi, decide_true, Bool.true_and]
  · rw [hm i hi z]; simp
/-- a byte cut of the low byte is the byte cut of the int -/
theorem pf_cut (y : Int32) : (y &&& 255).toInt8.toInt32 = y.toInt8.toInt32 := by
  apply congrArg Int8.toInt32
  apply Int8.toBitVec_inj.mp
  rw [Int32.toBitVec_toInt8, Int32.toBitVec_toInt8, Int32.toBitVec_and]
  apply BitVec.eq_of_getLsbD_eq
  intro i hi
  have hm : ∀ i < 8, (255 : Int32).toBitVec.getLsbD i = true := by decide
  have h32 : i < 32 := by omega
  rw [BitVec.getLsbD_signExtend, BitVec.getLsbD_signExtend, if_pos h32, if_pos h32, BitVec.getLsbD_and, hm i hi, Bool.and_true]
/-- a cell read unsigned -/
def pf_b (x : Int32) : Nat := x.toBitVec.toNat % 2 ^ 8
theorem pf_bE (x : Int32) : x &&& 255 = nI (pf_b x) := pk_and x 8 (by decide)
theorem pf_bL (x : Int32) : pf_b x < 256 := Nat.mod_lt _ (by decide)
/-- the left neighbour's value, 0 at column 0 -/
def pf_l (c : Nat → Int32) (j : Nat) : Nat := if j = 0 then 0 else pf_b (c (j - 1))
theorem pf_lL (c : Nat → Int32) (j : Nat) : pf_l c j < 256 := by
  unfold pf_l
  split
  · decide
  · exact pf_bL _
theorem pf_lU (c : Nat → Int32) (j : Nat) (z : Int32) : pf_l (upd c j z) j = pf_l c j := by
  unfold pf_l
  split
  · rfl
  · rw [pk_un (by omega)]
/-- the absolute difference -/
def pf_d (p q : Nat) : Nat := if p ≤ q then q - p else p - q
theorem pf_dL {p q n : Nat} (hp : p < n) (hq : q < n) : pf_d p q < n := by
  unfold pf_d
  split <;> omega
theorem pf_dle {p q : Nat} (h : p ≤ q) : pf_d p q = q - p := if_pos h
theorem pf_dgt {p q : Nat} (h : q < p) : pf_d p q = p - q := if_neg (by omega)
/-- a difference of two small numbers, made positive -/
theorem pf_abs {W : Int32 → Prop} {x : Int32} {p q : Nat} (hx : x = nI p - nI q) (hp : p < 2 ^ 30) (hq : q < 2 ^ 30) (h : W (nI (pf_d p q))) : (0 ≤ x → W x) ∧ (¬ 0 ≤ x → ∀ y : Int32, y = -x → W y) := by
  subst hx
  rcases Nat.lt_or_ge p q with z | z
  · have n : ¬ (0 : Int32) ≤ nI p - nI q := Int32.not_le.mpr (pk_sneg hq z)
    refine br_f n fun y ey => ?_
    rw [ey, Int32.neg_sub, pk_sub (by omega), ← pf_dle (by omega)]
    exact h
  · have e : nI p - nI q = nI (pf_d p q) := by
      rw [pk_sub z]
      rcases Nat.lt_or_ge q p with w | w
      · rw [pf_dgt w]
      · rw [pf_dle w]; exact congrArg nI (by omega)
    rw [e]
    exact br_t (nI_pos' (Nat.lt_trans (pf_dL hp hq) (by decide))) h
/-- the sum's difference from twice the third, as the reference takes it -/
theorem pf_pc (a b c : Nat) : nI a + nI b - nI c - nI c = nI (a + b) - nI (2 * c) := by
  rw [nI_add, show 2 * c = c + c from by omega, ← nI_add c c]
  generalize nI (a + b) = s
  generalize nI c = t
  grind
/-- the predictor of three numbers -/
def pf_n (a b c : Nat) : Nat := if pf_d b c ≤ pf_d a c ∧ pf_d b c ≤ pf_d (a + b) (2 * c) then a else if pf_d a c ≤ pf_d (a + b) (2 * c) then b else c
/-- the predictor of column j over the rows p (before) and c (current) -/
def pf_P (p c : Nat → Int32) (j : Nat) : Int32 := nI (pf_n (pf_l c j) (pf_b (p j)) (pf_l p j))
theorem pf_PU (p c : Nat → Int32) (j : Nat) (z : Int32) : pf_P p (upd c j z) j = pf_P p c j := by
  unfold pf_P
  rw [pf_lU]
/-- the three tests, in their order -/
theorem pf_cmp {post : Int32 → Prop} (a b c : Nat) {d1 d2 d3 : Nat} (h1 : d1 < 2 ^ 30) (h2 : d2 < 2 ^ 30) (h3 : d3 < 2 ^ 30) (h : post (nI (if d1 ≤ d2 ∧ d1 ≤ d3 then a else if d2 ≤ d3 then b else c))) :
    (nI d2 < nI d1 → ((nI d3 < nI d2 → post (nI c)) ∧ (¬ nI d3 < nI d2 → post (nI b)))) ∧ (¬ nI d2 < nI d1 → ((nI d3 < nI d1 → ((nI d3 < nI d2 → post (nI c)) ∧ (¬ nI d3 < nI d2 → post (nI b)))) ∧ (¬ nI d3 < nI d1 → post (nI a)))) := by
  have K : ¬ (d1 ≤ d2 ∧ d1 ≤ d3) → ((nI d3 < nI d2 → post (nI c)) ∧ (¬ nI d3 < nI d2 → post (nI b))) := by
    intro n
    rw [if_neg n] at h
    refine pk_lt d3 d2 (fun z => ?_) (fun z => ?_)
    · rw [if_neg (by omega)] at h; exact h
    · rw [if_pos z] at h; exact h
  refine pk_lt d2 d1 (fun z => K (by omega)) (fun z => pk_lt d3 d1 (fun w => K (by omega)) (fun w => ?_))
  rw [if_pos ⟨z, w⟩] at h
  exact h
theorem pf_8 : nI 8 = 8 := by decide +kernel
theorem pf_7 : nI 7 = 7 := by decide +kernel
theorem pf_16 : nI 16 = 16 := by decide +kernel
theorem pf_15 : nI 15 = 15 := by decide +kernel
/-- the three neighbours, read alike on both sides -/
theorem pf_walk {W : Int32 → Int32 → Int32 → Prop} (p c : Nat → Int32) {j : Nat} (hj : j < 8) (h : W (nI (pf_l c j)) (nI (pf_b (p j))) (nI (pf_l p j))) :
    (nI j ≤ 0 → (vp_in (nI j) 8 ∧ ∀ y : Int32, y = p (nI j).toNatClampNeg &&& 255 → ((nI j ≤ 0 → W 0 y 0) ∧ (¬ nI j ≤ 0 → (vp_in (nI j - 1) 8 ∧ W 0 y (p (nI j - 1).toNatClampNeg &&& 255)))))) ∧ (¬ nI j ≤ 0 → (vp_in (nI j - 1) 8 ∧ (vp_in (nI j) 8 ∧ ∀ y : Int32, y = p (nI j).toNatClampNeg &&& 255 → ((nI j ≤ 0 → W (c (nI j - 1).toNatClampNeg &&& 255) y 0) ∧ (¬ nI j ≤ 0 → (vp_in (nI j - 1) 8 ∧ W (c (nI j - 1).toNatClampNeg &&& 255) y (p (nI j - 1).toNatClampNeg &&& 255))))))) := by
  have hi : vp_in (nI j) 8 := vp_in_nI hj (by decide)
  have ej : (nI j).toNatClampNeg = j := nI_clamp (by omega)
  rw [ej, pf_bE (p j)]
  cases j with
  | zero =>
    have h0 : nI 0 ≤ 0 := by decide +kernel
    exact br_t h0 ⟨hi, nm_e (br_t h0 h)⟩
  | succ i =>
    have h0 : ¬ nI (i + 1) ≤ 0 := nI_nle (by omega) (by omega)
    have hm : vp_in (nI i) 8 := vp_in_nI (by omega) (by decide)
    have ei : (nI i).toNatClampNeg = i := nI_clamp (by omega)
    rw [nI_pred, ei, pf_bE (p i), pf_bE (c i)]
    exact br_f h0 ⟨hm, hi, nm_e (br_f h0 ⟨hm, h⟩)⟩
/-- a column, or refused on one side of it or the other -/
theorem pf_col (x : Int32) (n : Nat) (hn : n < 1000) : x < 0 ∨ (¬ x < 0 ∧ nI (n + 1) ≤ x ∧ ¬ x < nI (n + 1) ∧ ¬ x ≤ nI n) ∨ ∃ j : Nat, j < n + 1 ∧ x = nI j ∧ ¬ x < 0 ∧ ¬ nI (n + 1) ≤ x ∧ x < nI (n + 1) ∧ x ≤ nI n := by
  by_cases h : x < 0
  · exact Or.inl h
  · obtain ⟨j, hj, rfl⟩ := nI_of h
    rw [nI_leI (by omega) hj, nI_leI hj (by omega), nI_ltI hj (by omega)]
    by_cases w : j < n + 1
    · exact Or.inr (Or.inr ⟨j, w, rfl, h, by omega, w, by omega⟩)
    · exact Or.inr (Or.inl ⟨h, by omega, by omega, by omega⟩)
end
section
theorem pf_Xd {post : Int32 → Prop} {p q : Nat} (hp : p < 2 ^ 30) (hq : q < 2 ^ 30) (h : post (nI (pf_d p q))) : wpX_distance post (nI p) (nI q) := by
  unfold wpX_distance
  refine pk_le p q (fun z => ?_) (fun z => ?_)
  · rw [pk_sub z, ← pf_dle z]; exact h
  · rw [pk_sub (by omega), ← pf_dgt z]; exact h
theorem pf_Xn {post : Int32 → Prop} {a b c : Nat} (ha : a < 256) (hb : b < 256) (hc : c < 256) (h : post (nI (pf_n a b c))) : wpX_nearest post (nI a) (nI b) (nI c) := by
  have e2 : (2 : Int32) * nI c = nI (2 * c) := pk_mul 2 c
  unfold wpX_nearest
  rw [nI_add, e2]
  refine pf_Xd (by omega) (by omega) ?_
  refine pf_Xd (by omega) (by omega) ?_
  refine pf_Xd (by omega) (by omega) ?_
  have h1 : pf_d b c < 2 ^ 30 := pf_dL (by omega) (by omega)
  have h2 : pf_d a c < 2 ^ 30 := pf_dL (by omega) (by omega)
  have h3 : pf_d (a + b) (2 * c) < 2 ^ 30 := pf_dL (by omega) (by omega)
  exact pf_cmp a b c h1 h2 h3 h
theorem pf_X {post : Int32 → Prop} (p c : Nat → Int32) {j : Nat} (hj : j < 8) (h : post (pf_P p c j)) : wpX_predictor post (p, c) (nI j) :=
  pf_walk (W := fun x y z => wpX_nearest (fun r => post r) x y z) p c hj (pf_Xn (pf_lL c j) (pf_bL (p j)) (pf_lL p j) h)
theorem pf_Yn {post : Int32 → Prop} (p w : Nat → Int32) {a b c : Nat} (ha : a < 256) (hb : b < 256) (hc : c < 256) (h : post (nI (pf_n a b c))) : wY_predict_52 post (nI a) (nI b) (nI c) p w := by
  have h1 : pf_d b c < 2 ^ 30 := pf_dL (by omega) (by omega)
  have h2 : pf_d a c < 2 ^ 30 := pf_dL (by omega) (by omega)
  have h3 : pf_d (a + b) (2 * c) < 2 ^ 30 := pf_dL (by omega) (by omega)
  intro x ex
  refine pf_abs (W := fun d => wY_predict_70 post (nI a) (nI b) (nI c) d p w) ex (by omega) (by omega) ?_
  intro y ey
  refine pf_abs (W := fun d => wY_predict_86 post (nI a) (nI b) (nI c) (nI (pf_d b c)) d p w) ey (by omega) (by omega) ?_
  intro z ez
  rw [pf_pc] at ez
  refine pf_abs (W := fun d => wY_predict_107 post (nI a) (nI b) (nI c) (nI (pf_d b c)) (nI (pf_d a c)) d p w) ez (by omega) (by omega) ?_
  exact pf_cmp a b c h1 h2 h3 h
theorem pf_Y {post : Int32 → Prop} (p c : Nat → Int32) {j : Nat} (hj : j < 8) (h : post (pf_P p c j)) : wpY_predict post (p, c) (nI j) :=
  pf_walk (W := fun x y z => wY_predict_52 post x y z p c) p c hj (pf_Yn p c (pf_lL c j) (pf_bL (p j)) (pf_lL p j) h)
end
section
/-- both sides hold the same two rows -/
def i_Rel (_ : Nat) (u : SX) (v : SY) : Prop := u = v
theorem i_up {k : Nat} {u : SX} {v : SY} (h : i_Rel k u v) : i_Rel (k + 3) u v := h
theorem i_vc0 : wpX_init (fun u => wpY_init (fun v => i_Rel 0 u v)) := rfl
theorem i_vc_filter {k : Nat} {u : SX} {v : SY} (I : i_Rel k u v) (hk : k + 3 ≤ 1536) (v1 : Int32) (v2 : Int32) : wpX_filter (fun r u' => wpY_filter (fun r' v' => r' = r ∧ i_Rel (k + 3) u' v') v v1 v2) u v1 v2 := by
  cases I
  obtain ⟨p, c⟩ := u
  unfold wpX_filter wpY_filter wpX_isColumn
  dsimp only
  rcases pf_col v1 7 (by decide) with h0 | ⟨n0, h8, _, n7⟩ | ⟨j, hj, ej, n0, n8, _, h7⟩
  · exact br_t h0 (br_t rfl (br_t h0 ⟨rfl, rfl⟩))
  · exact br_f n0 (br_t h8 (br_t rfl (br_f n0 (br_f n7 ⟨rfl, rfl⟩))))
  · subst ej
    have hi : vp_in (nI j) 8 := vp_in_nI hj (by decide)
    have ec : (nI j).toNatClampNeg = j := nI_clamp (by omega)
    rw [ec]
    refine br_f n0 (br_f n8 (br_f (by decide) ?_))
    refine pf_X p c hj ?_
    refine ⟨hi, nm_e ?_⟩
    refine br_f n0 (br_t h7 ⟨hi, nm_e ?_⟩)
    refine pf_Y _ _ hj ?_
    rw [pf_PU]
    exact ⟨rfl, rfl⟩
theorem i_vc_unfilter {k : Nat} {u : SX} {v : SY} (I : i_Rel k u v) (hk : k + 3 ≤ 1536) (v1 : Int32) (v2 : Int32) : wpX_unfilter (fun r u' => wpY_unfilter (fun r' v' => r' = r ∧ i_Rel (k + 3) u' v') v v1 v2) u v1 v2 := by
  cases I
  obtain ⟨p, c⟩ := u
  unfold wpX_unfilter wpY_unfilter wpX_isColumn
  dsimp only
  rcases pf_col v1 7 (by decide) with h0 | ⟨n0, h8, _, n7⟩ | ⟨j, hj, ej, n0, n8, _, h7⟩
  · exact br_t h0 (br_t rfl (br_t h0 ⟨rfl, rfl⟩))
  · exact br_f n0 (br_t h8 (br_t rfl (br_f n0 (br_f n7 ⟨rfl, rfl⟩))))
  · subst ej
    have hi : vp_in (nI j) 8 := vp_in_nI hj (by decide)
    have ec : (nI j).toNatClampNeg = j := nI_clamp (by omega)
    rw [ec]
    refine br_f n0 (br_f n8 (br_f (by decide) ?_))
    refine pf_X p c hj ?_
    refine nm_e ⟨hi, nm_e ?_⟩
    refine br_f n0 (br_t h7 ?_)
    refine pf_Y p c hj ?_
    refine ⟨hi, nm_e ⟨bp_b _, ?_⟩⟩
    exact congrArg (fun z => (p, upd c j (vp_nar .byte z))) (pf_cut _)
theorem pf_row : ∀ d j : Nat, j + d = 8 → ∀ (s : Int32) (p c : Nat → Int32), ∃ (r : Int32) (u : (Nat → Int32) × (Nat → Int32)), (∀ post : Int32 → SX → Prop, post r u → wX_nextRow_4 post (d + 1) s (nI j) p c) ∧ (∀ post : Int32 → SY → Prop, post r u → wY_nextRow_4 post (d + 1) s (nI j) p c) := by
  intro d
  induction d with
  | zero =>
    intro j hj s p c
    have h : (8 : Int32) ≤ nI j := by rw [← pf_8]; exact nI_le (by omega) (by omega)
    exact ⟨s, (p, c), fun _ hp => br_t h hp, fun _ hp => br_t h hp⟩
  | succ d ih =>
    intro j hj s p c
    have h : ¬ (8 : Int32) ≤ nI j := by rw [← pf_8]; exact nI_ge (by omega) (by omega)
    have hi : vp_in (nI j) 8 := vp_in_nI (by omega) (by omega)
    have ec : (nI j).toNatClampNeg = j := nI_clamp (by omega)
    obtain ⟨r, u, hX, hY⟩ := ih (j + 1) (by omega) (s + (c j &&& 255)) (upd p j (vp_nar .byte (c j))) c
    refine ⟨r, u, fun post hp => br_f h ⟨hi, hi, fun p1 ep => ⟨hi, fun s1 es y ey => ?_⟩⟩, fun post hp => br_f h ⟨hi, hi, fun p1 ep s1 es y ey => ?_⟩⟩
    · rw [ep, es, ey, ec, nI_1]; exact hX post hp
    · rw [ep, es, ey, ec, nI_1]; exact hY post hp
theorem i_vc_nextRow {k : Nat} {u : SX} {v : SY} (I : i_Rel k u v) (hk : k + 3 ≤ 1536) : wpX_nextRow (fun r u' => wpY_nextRow (fun r' v' => r' = r ∧ i_Rel (k + 3) u' v') v) u := by
  cases I
  obtain ⟨p, c⟩ := u
  obtain ⟨r, u, hX, hY⟩ := pf_row 8 0 rfl 0 p c
  exact ⟨_, hX _ ⟨_, hY _ ⟨rfl, rfl⟩⟩⟩
theorem i_vc_peek {k : Nat} {u : SX} {v : SY} (I : i_Rel k u v) (hk : k + 3 ≤ 1536) (v1 : Int32) : wpX_peek (fun r => wpY_peek (fun r' => r' = r ∧ i_Rel (k + 3) u v) v v1) u v1 := by
  cases I
  obtain ⟨p, c⟩ := u
  rcases pf_col v1 15 (by decide) with h0 | ⟨n0, _, n16, n15⟩ | ⟨j, hj, ej, n0, _, h16, h15⟩
  · exact br_t h0 (br_t h0 ⟨rfl, rfl⟩)
  · exact br_f n0 (br_f n16 (br_f n0 (br_f n15 ⟨rfl, rfl⟩)))
  · by_cases h8 : (8 : Int32) ≤ v1
    · have hi : vp_in (v1 - 8) 8 := by
        subst ej
        have h : nI 8 ≤ nI j := h8
        rw [nI_leI (by decide) (by omega)] at h
        rw [← pf_8, pk_sub h]
        exact vp_in_nI (by omega) (by decide)
      exact br_f n0 (br_t h16 (br_t h8 ⟨hi, br_f n0 (br_t h15 (br_t h8 ⟨hi, rfl, rfl⟩))⟩))
    · have hi : vp_in v1 8 := by
        subst ej
        have h : ¬ nI 8 ≤ nI j := h8
        rw [nI_leI (by decide) (by omega)] at h
        exact vp_in_nI (by omega) (by decide)
      exact br_f n0 (br_t h16 (br_f h8 ⟨hi, br_f n0 (br_t h15 (br_f h8 ⟨hi, rfl, rfl⟩))⟩))
end
