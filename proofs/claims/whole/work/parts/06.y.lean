/-! the reference's small methods -/
theorem wy_res_t {post : Int32 → Prop} {v : SY} {i : Nat} (h8 : 8 ≤ i) (h12 : i < 12) (hp : post 1) : wpY_isResult post v (nI i) := by
  obtain ⟨c, m, n, va, re, rl, tm⟩ := v
  unfold wpY_isResult
  exact br_f (by rw [wh_lt8 (by omega)]; omega) (br_f (by rw [wh_le12 (by omega)]; omega) hp)
theorem wy_res_f {post : Int32 → Prop} {v : SY} {id : Int32} (h : id < 8 ∨ 12 ≤ id) (hp : post 0) : wpY_isResult post v id := by
  obtain ⟨c, m, n, va, re, rl, tm⟩ := v
  unfold wpY_isResult
  by_cases q : id < 8
  · exact br_t q hp
  · exact br_f q (br_t (h.resolve_left q) hp)
theorem wy_ok_t {post : Int32 → Prop} {c n : Int32} {m i : Nat} {va re rl tm : Nat → Int32} (hm : m ≤ 8) (h : wh_ok m i) (hp : post 1) : wpY_valid post (c, nI m, n, va, re, rl, tm) (nI i) := by
  have hi := wh_ok12 hm h
  unfold wh_ok at h
  unfold wpY_valid
  refine br_f (nI_pos (by omega)) ?_
  by_cases q : i < m
  · exact br_t (nI_lt q (by omega)) hp
  · refine br_f (nI_nlt (by omega) (by omega)) ?_
    unfold wY_valid_12
    exact br_f (by rw [wh_lt8 (by omega)]; omega) (br_f (by rw [wh_le12 (by omega)]; omega) hp)
theorem wy_ok_f {post : Int32 → Prop} {c n : Int32} {m : Nat} {id : Int32} {va re rl tm : Nat → Int32} (h : id < 0 ∨ ∃ j, j < 2 ^ 31 ∧ id = nI j ∧ m ≤ j ∧ ¬ (8 ≤ j ∧ j < 12)) (hp : post 0) : wpY_valid post (c, nI m, n, va, re, rl, tm) id := by
  unfold wpY_valid wY_valid_12
  rcases h with h | ⟨j, hj, rfl, h1, h2⟩
  · exact br_t h (br_t (Int32.lt_trans h (by decide)) hp)
  · refine br_f (nI_pos hj) (br_f (nI_nlt h1 hj) ?_)
    by_cases q : j < 8
    · exact br_t (nI_lt (b := 8) q (by decide)) hp
    · exact br_f (by rw [wh_lt8 hj]; exact q) (br_t (nI_le (a := 12) (by omega) hj) hp)
theorem wy_len {post : Int32 → Prop} {c m n i : Nat} {L : Nat → Nat} {rl va re tm : Nat → Int32} {cc mm : Int32} (hN : wh_N c m n L rl) (hi : wh_ok m i) (hp : post (nI (wh_Len n L i))) : wpY_len post (cc, mm, nI n, va, re, rl, tm) (nI i) := by
  obtain ⟨h1, h2, h3, h4, h5⟩ := hN
  have h12 := wh_ok12 h2 hi
  unfold wpY_len
  rcases Nat.lt_or_ge i 8 with h8 | h8
  · rw [wh_Lv h8] at hp
    exact br_f (by rw [wh_le8 (by omega)]; omega) hp
  · rw [wh_Lr h8, ← (h5 (i - 8) (by omega)).1] at hp
    refine br_t ((wh_le8 (by omega)).mpr h8) ?_
    rw [wh_s8 h8, nI_clamp (by omega)]
    exact ⟨vp_in_nI (by omega) (by omega), hp⟩
theorem wy_bit {post : Int32 → Prop} {c m n i r : Nat} {L : Nat → Nat} {rl va re tm : Nat → Int32} {cc : Int32} (hN : wh_N c m n L rl) (hR : wh_Re re) (hi : wh_ok m i) (hr : r < 2 ^ 31) (hp : post (wh_z (wh_B n L va re i r))) : wpY_bit post (cc, nI m, nI n, va, re, rl, tm) (nI i) (nI r) := by
  have h12 := wh_ok12 hN.2.1 hi
  have hl := wh_Lle hN hi
  unfold wpY_bit
  refine wy_ok_t hN.2.1 hi (br_f (by decide) (wy_len hN hi (br_f (nI_pos hr) ?_)))
  by_cases q : r < wh_Len n L i
  · have hr' : r < 496 := by omega
    refine br_t (nI_lt q (by omega)) ?_
    rcases Nat.lt_or_ge i 8 with h8 | h8
    · refine br_f (by rw [wh_le8 (by omega)]; omega) ⟨vp_in_nI hr' (by decide), ?_⟩
      rw [wh_Lv h8] at q
      rw [wh_Bv h8, decide_eq_true q, Bool.true_and] at hp
      rw [nI_clamp hr]
      by_cases e : va r = nI i
      · rw [decide_eq_true e] at hp
        exact br_t e hp
      · rw [decide_eq_false e] at hp
        exact br_f e hp
    · refine br_t ((wh_le8 (by omega)).mpr h8) ?_
      rw [wh_Lr h8] at q
      rw [wh_Br h8, decide_eq_true q, Bool.true_and] at hp
      rw [wh_b496 h8, nI_add, nI_clamp (by omega)]
      refine ⟨vp_in_nI (by omega) (by decide), ?_⟩
      rcases hR ((i - 8) * 496 + r) with e | e
      · rw [e, show decide ((0 : Int32) = 1) = false from by decide] at hp
        rw [e]
        exact ⟨rfl, hp⟩
      · rw [e, show decide ((1 : Int32) = 1) = true from by decide] at hp
        rw [e]
        exact ⟨rfl, hp⟩
  · rw [wh_Bge (by omega)] at hp
    exact br_f (nI_nlt (by omega) hr) hp
theorem wy_bitN {post : Int32 → Prop} {c m n i : Nat} {r : Int32} {L : Nat → Nat} {rl va re tm : Nat → Int32} {cc : Int32} (hN : wh_N c m n L rl) (hi : wh_ok m i) (hr : r < 0) (hp : post 0) : wpY_bit post (cc, nI m, nI n, va, re, rl, tm) (nI i) r := by
  unfold wpY_bit
  exact wy_ok_t hN.2.1 hi (br_f (by decide) (wy_len hN hi (br_t hr hp)))
theorem wy_bitI {post : Int32 → Prop} {m : Nat} {id r : Int32} {rl va re tm : Nat → Int32} {cc nn : Int32} (h : id < 0 ∨ ∃ j, j < 2 ^ 31 ∧ id = nI j ∧ m ≤ j ∧ ¬ (8 ≤ j ∧ j < 12)) (hp : post 0) : wpY_bit post (cc, nI m, nn, va, re, rl, tm) id r := by
  unfold wpY_bit
  exact wy_ok_f h (br_t rfl hp)
theorem wy_gvL {post : Int32 → Prop} {c m n i g : Nat} {L : Nat → Nat} {gb rl va re tm : Nat → Int32} {cc : Int32} (hN : wh_N c m n L rl) (hR : wh_Re re) (hG : wh_Gb m n L gb va re) (hi : wh_ok m i) (hg : g < 16) (hp : post (gb (i * 16 + g))) : ∀ (d t : Nat) (x : Int32), t + d = 31 → (∀ j, j < 32 → bt x j = (decide (j < t) && wh_B n L va re i (31 * g + j))) → wY_groupValue_5 post (nI i) (nI g) cc (nI m) (nI n) va re rl tm (d + 1) x (nI t) := by
  intro d
  induction d with
  | zero =>
    intro t x ht hx
    have e : t = 31 := by omega
    subst e
    have ex : x = gb (i * 16 + g) := wh_gvE (B := fun j => wh_B n L va re i (31 * g + j)) hx (hG i hi g hg)
    rw [← ex] at hp
    exact br_t (nI_le (a := 31) (Nat.le_refl _) (by decide)) hp
  | succ d ih =>
    intro t x ht hx
    refine br_f (nI_ge (b := 31) (by omega) (by decide)) ?_
    rw [wh_m31 g, nI_add (31 * g) t]
    refine wy_bit hN hR hi (by omega) ?_
    cases hb : wh_B n L va re i (31 * g + t) with
    | false => exact br_t rfl (nm_r (nI_1 t) (ih (t + 1) x (by omega) (wh_gvF (B := fun j => wh_B n L va re i (31 * g + j)) hx hb)))
    | true => exact br_f (by decide) (nm_e (nm_r (nI_1 t) (ih (t + 1) _ (by omega) (wh_gvT (B := fun j => wh_B n L va re i (31 * g + j)) (by omega) hx hb))))
theorem wy_gv {post : Int32 → Prop} {c m n i g : Nat} {L : Nat → Nat} {gb rl va re tm : Nat → Int32} {cc : Int32} (hN : wh_N c m n L rl) (hR : wh_Re re) (hG : wh_Gb m n L gb va re) (hi : wh_ok m i) (hg : g < 16) (hp : post (gb (i * 16 + g))) : wpY_groupValue post (cc, nI m, nI n, va, re, rl, tm) (nI i) (nI g) := by
  unfold wpY_groupValue
  exact ⟨32, wy_gvL hN hR hG hi hg hp 31 0 0 rfl (wh_gv0 _)⟩
