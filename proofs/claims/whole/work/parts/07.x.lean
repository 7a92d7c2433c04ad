/-! the class's small methods -/
theorem wx_res_t {post : Int32 → Prop} {i : Nat} (h8 : 8 ≤ i) (h12 : i < 12) (hp : post 1) : wpX_isResultId post (nI i) := by
  unfold wpX_isResultId
  exact br_f (by rw [wh_lt8 (by omega)]; omega) (br_f (by rw [wh_le12 (by omega)]; omega) hp)
theorem wx_res_f {post : Int32 → Prop} {id : Int32} (h : id < 8 ∨ 12 ≤ id) (hp : post 0) : wpX_isResultId post id := by
  unfold wpX_isResultId
  by_cases q : id < 8
  · exact br_t q hp
  · exact br_f q (br_t (h.resolve_left q) hp)
theorem wx_val_t {post : Int32 → Prop} {c n : Int32} {m i : Nat} {gb rl : Nat → Int32} (hm : m ≤ 8) (h : i < m) (hp : post 1) : wpX_isValueId post (c, nI m, n, gb, rl) (nI i) := by
  unfold wpX_isValueId
  exact br_f (nI_pos (by omega)) (br_f (nI_ge h (by omega)) hp)
theorem wx_val_f {post : Int32 → Prop} {c n : Int32} {m : Nat} {id : Int32} {gb rl : Nat → Int32} (h : id < 0 ∨ ∃ j, j < 2 ^ 31 ∧ id = nI j ∧ m ≤ j) (hp : post 0) : wpX_isValueId post (c, nI m, n, gb, rl) id := by
  unfold wpX_isValueId
  rcases h with h | ⟨j, hj, rfl, h1⟩
  · exact br_t h hp
  · exact br_f (nI_pos hj) (br_t (nI_le h1 hj) hp)
theorem wx_ok_t {post : Int32 → Prop} {c n : Int32} {m i : Nat} {gb rl : Nat → Int32} (hm : m ≤ 8) (h : wh_ok m i) (hp : post 1) : wpX_isValidId post (c, nI m, n, gb, rl) (nI i) := by
  have hi := wh_ok12 hm h
  unfold wh_ok at h
  unfold wpX_isValidId
  by_cases q : i < m
  · exact wx_val_t hm q (br_f (by decide) hp)
  · exact wx_val_f (Or.inr ⟨i, by omega, rfl, by omega⟩) (br_t rfl (wx_res_t (by omega) hi (br_f (by decide) hp)))
theorem wx_ok_f {post : Int32 → Prop} {c n : Int32} {m : Nat} {id : Int32} {gb rl : Nat → Int32} (h : id < 0 ∨ ∃ j, j < 2 ^ 31 ∧ id = nI j ∧ m ≤ j ∧ ¬ (8 ≤ j ∧ j < 12)) (hp : post 0) : wpX_isValidId post (c, nI m, n, gb, rl) id := by
  unfold wpX_isValidId
  have hr : id < 8 ∨ 12 ≤ id := by
    rcases h with h | ⟨j, hj, rfl, h1, h2⟩
    · exact Or.inl (Int32.lt_trans h (by decide))
    · rw [wh_lt8 hj, wh_le12 hj]
      omega
  have hv : id < 0 ∨ ∃ j, j < 2 ^ 31 ∧ id = nI j ∧ m ≤ j := by
    rcases h with h | ⟨j, hj, e, h1, h2⟩
    · exact Or.inl h
    · exact Or.inr ⟨j, hj, e, h1⟩
  exact wx_val_f hv (br_t rfl (wx_res_f hr (br_t rfl hp)))
theorem wx_len {post : Int32 → Prop} {c m n i : Nat} {L : Nat → Nat} {gb rl : Nat → Int32} {cc mm : Int32} (hN : wh_N c m n L rl) (hi : wh_ok m i) (hp : post (nI (wh_Len n L i))) : wpX_lengthOf post (cc, mm, nI n, gb, rl) (nI i) := by
  obtain ⟨h1, h2, h3, h4, h5⟩ := hN
  have h12 := wh_ok12 h2 hi
  unfold wpX_lengthOf
  rcases Nat.lt_or_ge i 8 with h8 | h8
  · rw [wh_Lv h8] at hp
    exact wx_res_f (Or.inl (nI_lt (b := 8) h8 (by decide))) (br_t rfl hp)
  · rw [wh_Lr h8, ← (h5 (i - 8) (by omega)).1] at hp
    refine wx_res_t h8 h12 (br_f (by decide) ?_)
    rw [wh_s8 h8, nI_clamp (by omega)]
    exact ⟨vp_in_nI (by omega) (by omega), hp⟩
theorem wx_bit0 {post : Int32 → Prop} {i r : Nat} {gb rl : Nat → Int32} {cc mm nn : Int32} (hi : i < 12) (hr : r < 496) (hp : post (wh_z (bt (gb (i * 16 + r / 31)) (r % 31)))) : wpX_bitAt post (cc, mm, nn, gb, rl) (nI i) (nI r) := by
  unfold wpX_bitAt
  dsimp only
  rw [wh_r31 (show r < 2 ^ 31 by omega), wh_x16 (show r < 2 ^ 31 by omega), nI_clamp (show i * 16 + r / 31 < 2 ^ 31 by omega)]
  refine ⟨by decide, vp_in_nI (by omega) (by decide), nm_e ⟨by decide, ?_⟩⟩
  rw [wh_tst _ (r % 31) (by omega)]
  cases h : bt (gb (i * 16 + r / 31)) (r % 31)
  · rw [h] at hp
    exact br_f (by decide) hp
  · rw [h] at hp
    exact br_t (by decide) hp
theorem wx_bit {post : Int32 → Prop} {m n i r : Nat} {L : Nat → Nat} {gb rl va re : Nat → Int32} {cc mm nn : Int32} (hG : wh_Gb m n L gb va re) (hm : m ≤ 8) (hi : wh_ok m i) (hr : r < 496) (hp : post (wh_z (wh_B n L va re i r))) : wpX_bitAt post (cc, mm, nn, gb, rl) (nI i) (nI r) := by
  rw [← wh_rd hG hi hr] at hp
  exact wx_bit0 (wh_ok12 hm hi) hr hp
theorem wx_mask {post : Int32 → Prop} {l g : Nat} (hl : l ≤ 496) (hg : g < 16) (hp : post (wh_ma l g)) : wpX_groupMask post (nI l) (nI g) := by
  unfold wpX_groupMask
  rw [wh_31m g]
  by_cases h1 : l ≤ 31 * g
  · have e : wh_ma l g = 0 := if_pos h1
    rw [e] at hp
    refine nm_e (br_f ?_ hp)
    rw [Int32.lt_iff_toInt_lt, pk_sub_toInt (by omega) (by omega), show (0 : Int32).toInt = 0 from by decide]
    omega
  · refine nm_r (pk_sub (show g * 31 ≤ l by omega)) ?_
    refine br_t (nI_lt (a := 0) (show 0 < l - g * 31 by omega) (by omega)) ?_
    by_cases h2 : 31 * g + 31 ≤ l
    · have e : wh_ma l g = 2147483647 := (if_neg h1).trans (if_pos h2)
      rw [e] at hp
      exact br_f (nI_nlt (b := 31) (by omega) (by omega)) hp
    · have e : wh_ma l g = ((1 : Int32) <<< (nI (l - 31 * g) &&& 31)) - 1 := (if_neg h1).trans (if_neg h2)
      rw [e, show l - 31 * g = l - g * 31 by omega] at hp
      exact br_t (nI_lt (b := 31) (by omega) (by decide)) hp
theorem wx_cg {post : Int32 → Prop} {o : Nat} {x y : Int32} (h1 : 1 ≤ o) (h6 : o ≤ 6) (hp : post (wh_oI o x y)) : wpX_combineGroups post (nI o) x y := by
  unfold wpX_combineGroups
  refine br_f (nI_nlt (b := 1) h1 (by omega)) ?_
  by_cases h : o = 6
  · subst h
    exact br_t (by decide) hp
  · refine br_f (nI_nlt (a := 5) (by omega) (by decide)) ?_
    have h5 : o = 1 ∨ o = 2 ∨ o = 3 ∨ o = 4 ∨ o = 5 := by omega
    rcases h5 with e | e | e | e | e
    · subst e
      exact br_t (by decide) hp
    · subst e
      exact br_f (by decide) (br_t (by decide) hp)
    · subst e
      exact br_f (by decide) (br_f (by decide) (br_t (by decide) hp))
    · subst e
      exact br_f (by decide) (br_f (by decide) (br_f (by decide) (br_t (by decide) hp)))
    · subst e
      exact br_f (by decide) (br_f (by decide) (br_f (by decide) (br_f (by decide) (br_t (by decide) hp))))
theorem wx_gc {post : Int32 → Prop} {l : Nat} (hl : l ≤ 496) (hp : post (nI ((l + 30) / 31))) : wpX_groupCount post (nI l) := by
  unfold wpX_groupCount
  rw [wh_gcX hl]
  exact ⟨by decide, hp⟩
theorem wh_kn {v : Nat → Int32} {L g : Nat} (h : ¬ wh_k v L g = 2) : 31 * g + 31 ≤ L ∧ (v g = 0 ∨ v g = 2147483647) := by
  by_cases hf : 31 * g + 31 ≤ L
  · refine ⟨hf, ?_⟩
    by_cases h0 : v g = 0
    · exact Or.inl h0
    · by_cases h1 : v g = 2147483647
      · exact Or.inr h1
      · exact absurd (wh_k2 h0 h1) h
  · exact absurd (wh_kp hf) h
theorem wx_fg {post : Int32 → Prop} {i l g : Nat} {gb rl : Nat → Int32} {cc mm nn : Int32} (hi : i < 12) (hg : g < 16) (hl : l ≤ 496) (h2 : wh_k (wh_v gb i) l g = 2 → post 0) (h1 : ¬ wh_k (wh_v gb i) l g = 2 → post 1) : wpX_isFillGroup post (cc, mm, nn, gb, rl) (nI i) (nI l) (nI g) := by
  unfold wpX_isFillGroup
  dsimp only
  have e : (nI g + 1) * 31 = nI (31 * g + 31) := by
    rw [nI_1]
    exact (pk_mul (g + 1) 31).trans (congrArg nI (by omega))
  rw [wh_i16, nI_clamp (show i * 16 + g < 2 ^ 31 by omega), e]
  refine ⟨vp_in_nI (by omega) (by decide), nm_e ?_⟩
  refine pk_lt l (31 * g + 31) (fun h => ?_) (fun h => ?_)
  · exact br_t rfl (h2 (wh_kp (by omega)))
  · refine br_f (by decide) ?_
    by_cases z0 : gb (i * 16 + g) = 0
    · refine br_t z0 (h1 ?_)
      rw [wh_k0 (v := wh_v gb i) h z0]
      decide
    · refine br_f z0 ?_
      by_cases z1 : gb (i * 16 + g) = 2147483647
      · refine br_t z1 (h1 ?_)
        rw [wh_k1 (v := wh_v gb i) h z1]
        decide
      · exact br_f z1 (h2 (wh_k2 (v := wh_v gb i) z0 z1))
theorem wx_sw {post : Int32 → Prop} {i l g : Nat} {gb rl : Nat → Int32} {cc mm nn : Int32} (hi : i < 12) (hg : g < 16) (hl : l ≤ 496) (hf : wh_st (wh_v gb i) l g = false → post 0) (ht : wh_st (wh_v gb i) l g = true → post 1) : wpX_startsWord post (cc, mm, nn, gb, rl) (nI i) (nI l) (nI g) := by
  unfold wpX_startsWord
  dsimp only
  cases g with
  | zero => exact br_t nI_0 (ht (wh_st0 _ _))
  | succ t =>
    refine br_f (nI_ne0 (by omega) (by omega)) (wx_fg hi hg hl (fun k => br_t rfl (ht (wh_st_t (Or.inl k)))) (fun k => br_f (by decide) (nm_r (wh_i16 i (t + 1)) ?_)))
    have e : nI (i * 16 + (t + 1)) - 1 = nI (i * 16 + t) := nI_pred (i * 16 + t)
    rw [e, nI_clamp (show i * 16 + (t + 1) < 2 ^ 31 by omega), nI_clamp (show i * 16 + t < 2 ^ 31 by omega)]
    refine ⟨vp_in_nI (by omega) (by decide), vp_in_nI (by omega) (by decide), ?_⟩
    obtain ⟨k1, k2⟩ := wh_kn k
    obtain ⟨a, b⟩ := wh_sx k1 k2
    exact br_c (fun z => hf (a z)) (fun z => ht (b z))
theorem wx_wf {post : Int32 → Prop} {i l s : Nat} {gb rl : Nat → Int32} {cc mm nn : Int32} (hi : i < 12) (hl : l ≤ 496) (hs : s < (l + 30) / 31) (h2 : wh_k (wh_v gb i) l s = 2 → post (wh_v gb i s)) (h1 : ¬ wh_k (wh_v gb i) l s = 2 → ∀ e, s < e → e ≤ (l + 30) / 31 → (∀ t, s < t → t < e → wh_st (wh_v gb i) l t = false) → (e = (l + 30) / 31 ∨ wh_st (wh_v gb i) l e = true) → post (wh_wd (wh_v gb i) l s (e - s))) : wpX_wordFrom post (cc, mm, nn, gb, rl) (nI i) (nI l) (nI s) := by
  have hG : (l + 30) / 31 ≤ 16 := by omega
  unfold wpX_wordFrom
  dsimp only
  rw [wh_i16, nI_clamp (show i * 16 + s < 2 ^ 31 by omega)]
  refine ⟨vp_in_nI (by omega) (by decide), nm_e (wx_fg hi (by omega) hl (fun k => br_t rfl (h2 k)) (fun k => br_f (by decide) (wx_gc hl (nm_r (nI_1 s) ?_))))⟩
  have t61 : ∀ e, s < e → e ≤ (l + 30) / 31 → (∀ t, s < t → t < e → wh_st (wh_v gb i) l t = false) → (e = (l + 30) / 31 ∨ wh_st (wh_v gb i) l e = true) → wX_wordFrom_61 post (nI s) (gb (i * 16 + s)) (nI e) cc mm nn gb rl := by
    intro e e1 e2 e3 e4
    have q := h1 k e e1 e2 e3 e4
    unfold wX_wordFrom_61 wX_wordFrom_72
    rw [pk_sub (show s ≤ e by omega)]
    rcases wh_k012 (wh_v gb i) l s with z | z | z
    · rw [wh_wd0 _ z] at q
      refine br_t (wh_k0' (v := wh_v gb i) z) ?_
      rw [show ((-2147483648 : Int32) ||| 0) = -2147483648 from by decide]
      exact q
    · rw [wh_wd1 _ z] at q
      have z1 : gb (i * 16 + s) = 2147483647 := wh_k1' (v := wh_v gb i) z
      refine br_f (by rw [z1]; decide) ?_
      rw [show ((-2147483648 : Int32) ||| 1073741824) = -1073741824 from by decide]
      exact q
    · exact absurd z k
  have loop : ∀ d e, e + d = (l + 30) / 31 → s < e → (∀ t, s < t → t < e → wh_st (wh_v gb i) l t = false) → wX_wordFrom_37 post (nI i) (nI l) (nI s) (gb (i * 16 + s)) (nI ((l + 30) / 31)) cc mm nn gb rl (d + 1) (nI e) := by
    intro d
    induction d with
    | zero =>
      intro e e1 e2 e3
      exact br_t (nI_le (by omega) (by omega)) (t61 e e2 (by omega) e3 (Or.inl (by omega)))
    | succ d ih =>
      intro e e1 e2 e3
      refine br_f (nI_ge (by omega) (by omega)) (wx_sw hi (by omega) hl (fun z => br_t rfl (nm_r (nI_1 e) (ih (e + 1) (by omega) (by omega) (fun t a b => ?_)))) (fun z => br_f (by decide) (t61 e e2 (by omega) e3 (Or.inr z))))
      by_cases q : t = e
      · rw [q]
        exact z
      · exact e3 t a (by omega)
  exact ⟨_, loop ((l + 30) / 31 - (s + 1)) (s + 1) (by omega) (by omega) (fun t a b => absurd a (by omega))⟩
theorem wx_sg {post : Int32 → Prop} {m g : Nat} {lo hi : Int32} {gb rl : Nat → Int32} {cc nn : Int32} (hm : m ≤ 8) (hg : g < 16) (hp : post (wh_sg gb g lo hi m)) : wpX_selectGroup post (cc, nI m, nn, gb, rl) (nI g) lo hi := by
  have loop : ∀ d t, t + d = m → wX_selectGroup_6 post (nI g) lo hi cc (nI m) nn gb rl (d + 1) (wh_sg gb g lo hi t) (nI t) := by
    intro d
    induction d with
    | zero =>
      intro t e
      have e2 : t = m := by omega
      rw [e2]
      exact br_t (nI_le (Nat.le_refl m) (by omega)) hp
    | succ d ih =>
      intro t e
      have q := ih (t + 1) (by omega)
      refine br_f (nI_ge (by omega) (by omega)) ?_
      by_cases a : nI t < lo
      · rw [wh_sgf (fun z => Int32.not_le.mpr a z.1)] at q
        exact br_t a (nm_r (nI_1 t) q)
      · refine br_f a ?_
        by_cases b : hi < nI t
        · rw [wh_sgf (fun z => Int32.not_le.mpr b z.2)] at q
          exact br_t b (nm_r (nI_1 t) q)
        · rw [wh_sgt ⟨Int32.not_lt.mp a, Int32.not_lt.mp b⟩] at q
          refine br_f b ?_
          rw [wh_i16, nI_clamp (show t * 16 + g < 2 ^ 31 by omega)]
          exact ⟨vp_in_nI (by omega) (by decide), nm_e (nm_r (nI_1 t) q)⟩
  unfold wpX_selectGroup
  exact ⟨m + 1, loop m 0 (by omega)⟩
