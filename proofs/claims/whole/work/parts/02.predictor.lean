theorem pf_Xd {post : Int32 → Prop} {p q : Nat} (hp : p < 2 ^ 30) (hq : q < 2 ^ 30) (h : post (nI (pf_d p q))) : wpX_distance post (nI p) (nI q) := by
  unfold wpX_distance
  refine pk_le p q (fun z => ?_) (fun z => ?_)
  · rw [pk_sub z, ← pf_dle z]; exact h
  · rw [pk_sub (by omega), ← pf_dgt z]; exact h
theorem pf_Xn {post : Int32 → Prop} {a b c : Nat} (ha : a < 256) (hb : b < 256) (hc : c < 256) (h : post (nI (pf_n a b c))) : wpX_nearest post (nI a) (nI b) (nI c) := by
  have e2 : (2 : Int32) * nI c = nI (2 * c) := pk_mul 2 c
  unfold wpX_nearest
  rw [nI_add, e2]
  refine pf_Xd (by omega) (by omega) ?_
  refine pf_Xd (by omega) (by omega) ?_
  refine pf_Xd (by omega) (by omega) ?_
  have h1 : pf_d b c < 2 ^ 30 := pf_dL (by omega) (by omega)
  have h2 : pf_d a c < 2 ^ 30 := pf_dL (by omega) (by omega)
  have h3 : pf_d (a + b) (2 * c) < 2 ^ 30 := pf_dL (by omega) (by omega)
  exact pf_cmp a b c h1 h2 h3 h
theorem pf_X {post : Int32 → Prop} (p c : Nat → Int32) {j : Nat} (hj : j < 8) (h : post (pf_P p c j)) : wpX_predictor post (p, c) (nI j) :=
  pf_walk (W := fun x y z => wpX_nearest (fun r => post r) x y z) p c hj (pf_Xn (pf_lL c j) (pf_bL (p j)) (pf_lL p j) h)
theorem pf_Yn {post : Int32 → Prop} (p w : Nat → Int32) {a b c : Nat} (ha : a < 256) (hb : b < 256) (hc : c < 256) (h : post (nI (pf_n a b c))) : wY_predict_52 post (nI a) (nI b) (nI c) p w := by
  have h1 : pf_d b c < 2 ^ 30 := pf_dL (by omega) (by omega)
  have h2 : pf_d a c < 2 ^ 30 := pf_dL (by omega) (by omega)
  have h3 : pf_d (a + b) (2 * c) < 2 ^ 30 := pf_dL (by omega) (by omega)
  intro x ex
  refine pf_abs (W := fun d => wY_predict_70 post (nI a) (nI b) (nI c) d p w) ex (by omega) (by omega) ?_
  intro y ey
  refine pf_abs (W := fun d => wY_predict_86 post (nI a) (nI b) (nI c) (nI (pf_d b c)) d p w) ey (by omega) (by omega) ?_
  intro z ez
  rw [pf_pc] at ez
  refine pf_abs (W := fun d => wY_predict_107 post (nI a) (nI b) (nI c) (nI (pf_d b c)) (nI (pf_d a c)) d p w) ez (by omega) (by omega) ?_
  exact pf_cmp a b c h1 h2 h3 h
theorem pf_Y {post : Int32 → Prop} (p c : Nat → Int32) {j : Nat} (hj : j < 8) (h : post (pf_P p c j)) : wpY_predict post (p, c) (nI j) :=
  pf_walk (W := fun x y z => wY_predict_52 post x y z p c) p c hj (pf_Yn p c (pf_lL c j) (pf_bL (p j)) (pf_lL p j) h)
