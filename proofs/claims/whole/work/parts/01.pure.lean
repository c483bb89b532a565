theorem pk_us {f : Nat → Int32} {k : Nat} {x : Int32} : upd f k x k = x := if_pos rfl
theorem pk_un {f : Nat → Int32} {k j : Nat} {x : Int32} (h : j ≠ k) : upd f k x j = f j := if_neg h
theorem pk_sub {a b : Nat} (h : b ≤ a) : nI a - nI b = nI (a - b) := by
  obtain ⟨c, rfl⟩ : ∃ c, a = c + b := ⟨a - b, by omega⟩
  rw [← nI_add, Int32.add_sub_cancel, Nat.add_sub_cancel]
theorem pk_mul (a b : Nat) : nI a * nI b = nI (a * b) := (Int32.ofNat_mul a b).symm
theorem pk_sub_toInt {a b : Nat} (ha : a < 2 ^ 30) (hb : b < 2 ^ 30) : (nI a - nI b).toInt = (a : Int) - b := by
  rw [Int32.toInt_sub, nI_toInt (by omega), nI_toInt (by omega)]
  exact Int.bmod_eq_of_le (by omega) (by omega)
theorem pk_sneg {a b : Nat} (hb : b < 2 ^ 30) (h : a < b) : nI a - nI b < 0 := by
  rw [Int32.lt_iff_toInt_lt, pk_sub_toInt (by omega) hb, show (0 : Int32).toInt = 0 from by decide]
  omega
theorem pk_le {x y : Int32} {A B : Prop} (a b : Nat) (f : a ≤ b → A) (g : b < a → B) (hx : x = nI a := by rfl) (hy : y = nI b := by rfl) (ha : a < 2 ^ 31 := by omega) (hb : b < 2 ^ 31 := by omega) : (x ≤ y → A) ∧ (¬ x ≤ y → B) := by
  subst hx hy
  rw [nI_leI ha hb]
  exact ⟨f, fun z => g (by omega)⟩
theorem pk_lt {x y : Int32} {A B : Prop} (a b : Nat) (f : a < b → A) (g : b ≤ a → B) (hx : x = nI a := by rfl) (hy : y = nI b := by rfl) (ha : a < 2 ^ 31 := by omega) (hb : b < 2 ^ 31 := by omega) : (x < y → A) ∧ (¬ x < y → B) := by
  subst hx hy
  rw [nI_ltI ha hb]
  exact ⟨f, fun z => g (by omega)⟩
theorem pk_in {x : Int32} (n N : Nat) (h : n < N) (hx : x = nI n := by rfl) (hN : N < 2 ^ 31 := by omega) : vp_in x N := by
  subst hx
  exact vp_in_nI h hN
theorem pk_cl {x : Int32} (n : Nat) (hx : x = nI n := by rfl) (h : n < 2 ^ 31 := by omega) : x.toNatClampNeg = n := by
  subst hx
  exact nI_clamp h
theorem pk_and (x : Int32) {m : Int32} (k : Nat) (hm : m.toBitVec.toNat = 2 ^ k - 1) : x &&& m = nI (x.toBitVec.toNat % 2 ^ k) := by
  apply Int32.toBitVec_inj.mp
  apply BitVec.eq_of_toNat_eq
  rw [Int32.toBitVec_and, BitVec.toNat_and, hm, Nat.and_two_pow_sub_one_eq_mod]
  show _ = (BitVec.ofNat 32 _).toNat
  rw [BitVec.toNat_ofNat]
  exact (Nat.mod_eq_of_lt (Nat.lt_of_le_of_lt (Nat.mod_le _ _) x.toBitVec.isLt)).symm
theorem pk_vb (z : Int32) : vp_nar .byte z.toInt8.toInt32 = z.toInt8.toInt32 := by rw [vp_nar_byte]; simp
theorem bp_b (x : Int32) : x.toInt8.toInt32 &&& 255 = x &&& 255 := by
  apply Int32.toBitVec_inj.mp
  rw [Int32.toBitVec_and, Int32.toBitVec_and, Int8.toBitVec_toInt32, Int32.toBitVec_toInt8]
  apply BitVec.eq_of_getLsbD_eq
  intro i hi
  rw [BitVec.getLsbD_and, BitVec.getLsbD_and]
  have hm : ∀ i < 32, 8 ≤ i → (255 : Int32).toBitVec.getLsbD i = false := by decide
  rcases Nat.lt_or_ge i 8 with z | z
  · rw [BitVec.getLsbD_signExtend, BitVec.getLsbD_signExtend, if_pos z, if_pos hi]
    simp only [z, hi, decide_true, Bool.true_and]
  · rw [hm i hi z]; simp
/-- a byte cut of the low byte is the byte cut of the int -/
theorem pf_cut (y : Int32) : (y &&& 255).toInt8.toInt32 = y.toInt8.toInt32 := by
  apply congrArg Int8.toInt32
  apply Int8.toBitVec_inj.mp
  rw [Int32.toBitVec_toInt8, Int32.toBitVec_toInt8, Int32.toBitVec_and]
  apply BitVec.eq_of_getLsbD_eq
  intro i hi
  have hm : ∀ i < 8, (255 : Int32).toBitVec.getLsbD i = true := by decide
  have h32 : i < 32 := by omega
  rw [BitVec.getLsbD_signExtend, BitVec.getLsbD_signExtend, if_pos h32, if_pos h32, BitVec.getLsbD_and, hm i hi, Bool.and_true]
/-- a cell read unsigned -/
def pf_b (x : Int32) : Nat := x.toBitVec.toNat % 2 ^ 8
theorem pf_bE (x : Int32) : x &&& 255 = nI (pf_b x) := pk_and x 8 (by decide)
theorem pf_bL (x : Int32) : pf_b x < 256 := Nat.mod_lt _ (by decide)
/-- the left neighbour's value, 0 at column 0 -/
def pf_l (c : Nat → Int32) (j : Nat) : Nat := if j = 0 then 0 else pf_b (c (j - 1))
theorem pf_lL (c : Nat → Int32) (j : Nat) : pf_l c j < 256 := by
  unfold pf_l
  split
  · decide
  · exact pf_bL _
theorem pf_lU (c : Nat → Int32) (j : Nat) (z : Int32) : pf_l (upd c j z) j = pf_l c j := by
  unfold pf_l
  split
  · rfl
  · rw [pk_un (by omega)]
/-- the absolute difference -/
def pf_d (p q : Nat) : Nat := if p ≤ q then q - p else p - q
theorem pf_dL {p q n : Nat} (hp : p < n) (hq : q < n) : pf_d p q < n := by
  unfold pf_d
  split <;> omega
theorem pf_dle {p q : Nat} (h : p ≤ q) : pf_d p q = q - p := if_pos h
theorem pf_dgt {p q : Nat} (h : q < p) : pf_d p q = p - q := if_neg (by omega)
/-- a difference of two small numbers, made positive -/
theorem pf_abs {W : Int32 → Prop} {x : Int32} {p q : Nat} (hx : x = nI p - nI q) (hp : p < 2 ^ 30) (hq : q < 2 ^ 30) (h : W (nI (pf_d p q))) : (0 ≤ x → W x) ∧ (¬ 0 ≤ x → ∀ y : Int32, y = -x → W y) := by
  subst hx
  rcases Nat.lt_or_ge p q with z | z
  · have n : ¬ (0 : Int32) ≤ nI p - nI q := Int32.not_le.mpr (pk_sneg hq z)
    refine br_f n fun y ey => ?_
    rw [ey, Int32.neg_sub, pk_sub (by omega), ← pf_dle (by omega)]
    exact h
  · have e : nI p - nI q = nI (pf_d p q) := by
      rw [pk_sub z]
      rcases Nat.lt_or_ge q p with w | w
      · rw [pf_dgt w]
      · rw [pf_dle w]; exact congrArg nI (by omega)
    rw [e]
    exact br_t (nI_pos' (Nat.lt_trans (pf_dL hp hq) (by decide))) h
/-- the sum's difference from twice the third, as the reference takes it -/
theorem pf_pc (a b c : Nat) : nI a + nI b - nI c - nI c = nI (a + b) - nI (2 * c) := by
  rw [nI_add, show 2 * c = c + c from by omega, ← nI_add c c]
  generalize nI (a + b) = s
  generalize nI c = t
  grind
/-- the predictor of three numbers -/
def pf_n (a b c : Nat) : Nat := if pf_d b c ≤ pf_d a c ∧ pf_d b c ≤ pf_d (a + b) (2 * c) then a else if pf_d a c ≤ pf_d (a + b) (2 * c) then b else c
/-- the predictor of column j over the rows p (before) and c (current) -/
def pf_P (p c : Nat → Int32) (j : Nat) : Int32 := nI (pf_n (pf_l c j) (pf_b (p j)) (pf_l p j))
theorem pf_PU (p c : Nat → Int32) (j : Nat) (z : Int32) : pf_P p (upd c j z) j = pf_P p c j := by
  unfold pf_P
  rw [pf_lU]
/-- the three tests, in their order -/
theorem pf_cmp {post : Int32 → Prop} (a b c : Nat) {d1 d2 d3 : Nat} (h1 : d1 < 2 ^ 30) (h2 : d2 < 2 ^ 30) (h3 : d3 < 2 ^ 30) (h : post (nI (if d1 ≤ d2 ∧ d1 ≤ d3 then a else if d2 ≤ d3 then b else c))) :
    (nI d2 < nI d1 → ((nI d3 < nI d2 → post (nI c)) ∧ (¬ nI d3 < nI d2 → post (nI b)))) ∧ (¬ nI d2 < nI d1 → ((nI d3 < nI d1 → ((nI d3 < nI d2 → post (nI c)) ∧ (¬ nI d3 < nI d2 → post (nI b)))) ∧ (¬ nI d3 < nI d1 → post (nI a)))) := by
  have K : ¬ (d1 ≤ d2 ∧ d1 ≤ d3) → ((nI d3 < nI d2 → post (nI c)) ∧ (¬ nI d3 < nI d2 → post (nI b))) := by
    intro n
    rw [if_neg n] at h
    refine pk_lt d3 d2 (fun z => ?_) (fun z => ?_)
    · rw [if_neg (by omega)] at h; exact h
    · rw [if_pos z] at h; exact h
  refine pk_lt d2 d1 (fun z => K (by omega)) (fun z => pk_lt d3 d1 (fun w => K (by omega)) (fun w => ?_))
  rw [if_pos ⟨z, w⟩] at h
  exact h
theorem pf_8 : nI 8 = 8 := by decide +kernel
theorem pf_7 : nI 7 = 7 := by decide +kernel
theorem pf_16 : nI 16 = 16 := by decide +kernel
theorem pf_15 : nI 15 = 15 := by decide +kernel
/-- the three neighbours, read alike on both sides -/
theorem pf_walk {W : Int32 → Int32 → Int32 → Prop} (p c : Nat → Int32) {j : Nat} (hj : j < 8) (h : W (nI (pf_l c j)) (nI (pf_b (p j))) (nI (pf_l p j))) :
    (nI j ≤ 0 → (vp_in (nI j) 8 ∧ ∀ y : Int32, y = p (nI j).toNatClampNeg &&& 255 → ((nI j ≤ 0 → W 0 y 0) ∧ (¬ nI j ≤ 0 → (vp_in (nI j - 1) 8 ∧ W 0 y (p (nI j - 1).toNatClampNeg &&& 255)))))) ∧ (¬ nI j ≤ 0 → (vp_in (nI j - 1) 8 ∧ (vp_in (nI j) 8 ∧ ∀ y : Int32, y = p (nI j).toNatClampNeg &&& 255 → ((nI j ≤ 0 → W (c (nI j - 1).toNatClampNeg &&& 255) y 0) ∧ (¬ nI j ≤ 0 → (vp_in (nI j - 1) 8 ∧ W (c (nI j - 1).toNatClampNeg &&& 255) y (p (nI j - 1).toNatClampNeg &&& 255))))))) := by
  have hi : vp_in (nI j) 8 := vp_in_nI hj (by decide)
  have ej : (nI j).toNatClampNeg = j := nI_clamp (by omega)
  rw [ej, pf_bE (p j)]
  cases j with
  | zero =>
    have h0 : nI 0 ≤ 0 := by decide +kernel
    exact br_t h0 ⟨hi, nm_e (br_t h0 h)⟩
  | succ i =>
    have h0 : ¬ nI (i + 1) ≤ 0 := nI_nle (by omega) (by omega)
    have hm : vp_in (nI i) 8 := vp_in_nI (by omega) (by decide)
    have ei : (nI i).toNatClampNeg = i := nI_clamp (by omega)
    rw [nI_pred, ei, pf_bE (p i), pf_bE (c i)]
    exact br_f h0 ⟨hm, hi, nm_e (br_f h0 ⟨hm, h⟩)⟩
/-- a column, or refused on one side of it or the other -/
theorem pf_col (x : Int32) (n : Nat) (hn : n < 1000) : x < 0 ∨ (¬ x < 0 ∧ nI (n + 1) ≤ x ∧ ¬ x < nI (n + 1) ∧ ¬ x ≤ nI n) ∨ ∃ j : Nat, j < n + 1 ∧ x = nI j ∧ ¬ x < 0 ∧ ¬ nI (n + 1) ≤ x ∧ x < nI (n + 1) ∧ x ≤ nI n := by
  by_cases h : x < 0
  · exact Or.inl h
  · obtain ⟨j, hj, rfl⟩ := nI_of h
    rw [nI_leI (by omega) hj, nI_leI hj (by omega), nI_ltI hj (by omega)]
    by_cases w : j < n + 1
    · exact Or.inr (Or.inr ⟨j, w, rfl, h, by omega, w, by omega⟩)
    · exact Or.inr (Or.inl ⟨h, by omega, by omega, by omega⟩)
