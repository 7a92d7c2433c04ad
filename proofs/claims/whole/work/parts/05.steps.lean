/-! a group gathered bit by bit -/
theorem wh_gv0 (B : Nat → Bool) : ∀ j, j < 32 → bt 0 j = (decide (j < 0) && B j) := fun j _ => by
  rw [b_0, decide_eq_false (Nat.not_lt_zero j), Bool.false_and]
theorem wh_gvT {v : Int32} {B : Nat → Bool} {t : Nat} (ht : t < 31) (h : ∀ j, j < 32 → bt v j = (decide (j < t) && B j)) (hb : B t = true) : ∀ j, j < 32 → bt (v ||| ((1 : Int32) <<< (nI t &&& 31))) j = (decide (j < t + 1) && B j) := by
  intro j hj
  rw [b_or, h j hj, wh_one t (by omega) j hj]
  by_cases e : j = t
  · rw [e, hb]
    simp
  · rw [decide_eq_false e, Bool.or_false, decide_eq_decide.mpr (show j < t ↔ j < t + 1 by omega)]
theorem wh_gvF {v : Int32} {B : Nat → Bool} {t : Nat} (h : ∀ j, j < 32 → bt v j = (decide (j < t) && B j)) (hb : B t = false) : ∀ j, j < 32 → bt v j = (decide (j < t + 1) && B j) := by
  intro j hj
  rw [h j hj]
  by_cases e : j = t
  · rw [e, hb, Bool.and_false, Bool.and_false]
  · rw [decide_eq_decide.mpr (show j < t ↔ j < t + 1 by omega)]
theorem wh_gvE {v x : Int32} {B : Nat → Bool} (h : ∀ j, j < 32 → bt v j = (decide (j < 31) && B j)) (hx : bt x 31 = false ∧ ∀ i, i < 31 → bt x i = B i) : v = x := b_ext fun j hj => by
  rw [h j hj]
  by_cases e : j < 31
  · rw [decide_eq_true e, Bool.true_and, hx.2 j e]
  · have e2 : j = 31 := by omega
    rw [e2, hx.1]
    rfl
/-! the walk's step -/
theorem wh_cF {st : Nat → Bool} {g : Nat} (h : st g = false) : nI (g - wh_S st g) + 1 = nI (g + 1 - wh_S st (g + 1)) := by
  have := wh_Sle st g
  rw [nI_1, wh_Sf h]
  exact congrArg nI (by omega)
theorem wh_cT {st : Nat → Bool} {g : Nat} (h : st g = true) : (1 : Int32) = nI (g + 1 - wh_S st (g + 1)) := by
  rw [wh_St h, show g + 1 - g = 1 by omega]
  rfl
theorem wh_uF {st : Nat → Bool} {g : Nat} (h : st g = false) : wh_w (wh_W st g) = wh_w (wh_W st (g + 1)) := by rw [wh_Wf h]
theorem wh_uT {st : Nat → Bool} {g : Nat} (h : st g = true) : wh_w (wh_W st g) + 1 = wh_w (wh_W st (g + 1)) := by
  rw [wh_Wt h, wh_w1]
  rfl
theorem wh_hA {v : Nat → Int32} {l ix : Nat} (hi : ix < 2 ^ 31) : ∀ g, g < 16 → (wh_w (wh_W (wh_st v l) (g + 1)) = nI ix → wh_A (wh_st v l) (wh_wd v l) ix (g + 1) = wh_wd v l g (g + 1 - wh_S (wh_st v l) (g + 1))) ∧ (¬ wh_w (wh_W (wh_st v l) (g + 1)) = nI ix → wh_A (wh_st v l) (wh_wd v l) ix (g + 1) = wh_A (wh_st v l) (wh_wd v l) ix g) := by
  intro g hg
  have h := wh_Wle (wh_st v l) (g + 1)
  rw [wh_wi (by omega) hi]
  exact ⟨wh_At, wh_Af⟩
theorem wh_hB {v : Nat → Int32} {l : Nat} : ∀ g, g < 16 → (wh_w (wh_W (wh_st v l) (g + 1)) = -1 → (0 : Int32) = wh_wd v l g (g + 1 - wh_S (wh_st v l) (g + 1))) ∧ (¬ wh_w (wh_W (wh_st v l) (g + 1)) = -1 → (0 : Int32) = 0) := by
  intro g hg
  have h := wh_Wle (wh_st v l) (g + 1)
  have h1 := wh_Wp (st := wh_st v l) (wh_st0 v l) g
  exact ⟨fun z => absurd z (wh_wn h1 (by omega)), fun _ => rfl⟩
