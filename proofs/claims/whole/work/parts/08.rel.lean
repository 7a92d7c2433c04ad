/-- the relation: the same numbers, the same lengths, and each group of the class holds the reference's bits -/
def i_Rel (k : Nat) (u : SX) (v : SY) : Prop :=
  match u with
  | (cap, vc, rc, gb, rl) => match v with
    | (ycap, yvc, yn, va, re, yrl, tm) => ∃ (c m n : Nat) (L : Nat → Nat), cap = nI c ∧ vc = nI m ∧ rc = nI n ∧ ycap = nI c ∧ yvc = nI m ∧ yn = nI n ∧ yrl = rl ∧ wh_R c m n L gb rl va re
theorem i_up {k : Nat} {u : SX} {v : SY} (h : i_Rel k u v) : i_Rel (k + 5) u v := h
theorem wh_mkR {k c m n : Nat} {L : Nat → Nat} {gb rl va re tm : Nat → Int32} (h : wh_R c m n L gb rl va re) : i_Rel k (nI c, nI m, nI n, gb, rl) (nI c, nI m, nI n, va, re, rl, tm) := ⟨c, m, n, L, rfl, rfl, rfl, rfl, rfl, rfl, rfl, h⟩
theorem wh_start (c m : Nat) (h1 : 1 ≤ m) (h2 : m ≤ 8) (h3 : c ≤ 496) : wh_R c m 0 (fun _ => 0) (fun _ => 0) (fun _ => 0) (fun _ => 0) (fun _ => 0) := by
  refine ⟨⟨h1, h2, Nat.zero_le c, h3, fun j _ => ⟨rfl, Nat.zero_le c⟩⟩, fun r hr => absurd hr (Nat.not_lt_zero r), fun k => Or.inl rfl, fun id _ g _ => ⟨b_0 31, fun i _ => ?_⟩⟩
  rw [wh_Bge (by unfold wh_Len; split <;> exact Nat.zero_le _)]
  exact b_0 i
/-! a number brought between two bounds -/
theorem wh_cl (x : Int32) (N : Nat) (h1 : 1 ≤ N) (hN : N < 2 ^ 31) : ∃ k, 1 ≤ k ∧ k ≤ N ∧ ((x < 1 ∧ k = 1) ∨ (¬ x < 1 ∧ nI N < x ∧ k = N) ∨ (¬ x < 1 ∧ ¬ nI N < x ∧ x = nI k)) := by
  rcases wh_decC (k := N) x hN with h | ⟨h, h2⟩ | ⟨j, a, b, e⟩
  · exact ⟨1, by omega, h1, Or.inl ⟨h, rfl⟩⟩
  · exact ⟨N, h1, by omega, Or.inr (Or.inl ⟨h, h2, rfl⟩)⟩
  · refine ⟨j, a, b, Or.inr (Or.inr ⟨?_, ?_, e⟩)⟩
    · rw [e]
      exact nI_nlt (b := 1) a (by omega)
    · rw [e]
      exact nI_nlt b hN
theorem wx_cl {post : Int32 → Prop} {x : Int32} {N k : Nat} (h1 : 1 ≤ N) (hN : N < 2 ^ 31) (h : (x < 1 ∧ k = 1) ∨ (¬ x < 1 ∧ nI N < x ∧ k = N) ∨ (¬ x < 1 ∧ ¬ nI N < x ∧ x = nI k)) (hp : post (nI k)) : wpX_clamp post x 1 (nI N) := by
  unfold wpX_clamp
  rcases h with ⟨a, e⟩ | ⟨a, b, e⟩ | ⟨a, b, e⟩
  · subst e
    exact br_f (Int32.not_le.mpr a) hp
  · subst e
    exact br_t (Int32.not_lt.mp a) (br_f (Int32.not_le.mpr b) hp)
  · subst e
    exact br_t (Int32.not_lt.mp a) (br_t (Int32.not_lt.mp b) hp)
theorem i_vc0 (k0 : Int32) (k1 : Int32) : wpX_init (fun u => wpY_init (fun v => i_Rel 2 u v) k0 k1) k0 k1 := by
  obtain ⟨g, g1, g2, g3⟩ := wh_cl k0 16 (by decide) (by decide)
  obtain ⟨m, m1, m2, m3⟩ := wh_cl k1 8 (by decide) (by decide)
  unfold wpX_init
  refine wx_cl (N := 16) (by decide) (by decide) g3 (nm_r (wh_m31 g) (wx_cl (N := 8) (by decide) (by decide) m3 ?_))
  have fin : wY_init_79 (fun v => i_Rel 2 (nI (31 * g), nI m, 0, (fun _ => 0), (fun _ => 0)) v) (nI g) (nI m) 0 0 0 (fun _ => 0) (fun _ => 0) (fun _ => 0) (fun _ => 0) := by
    unfold wY_init_79
    exact nm_r (wh_m31 g) (wh_mkR (wh_start (31 * g) m m1 m2 (by omega)))
  have f56 : wY_init_56 (fun v => i_Rel 2 (nI (31 * g), nI m, 0, (fun _ => 0), (fun _ => 0)) v) k1 (nI g) 0 0 0 (fun _ => 0) (fun _ => 0) (fun _ => 0) (fun _ => 0) := by
    unfold wY_init_56 wY_init_68
    rcases m3 with ⟨a, e⟩ | ⟨a, b, e⟩ | ⟨a, b, e⟩
    · subst e
      exact br_f (Int32.not_le.mpr a) (br_t (by decide) fin)
    · subst e
      exact br_t (Int32.not_lt.mp a) (br_f (Int32.not_le.mpr b) fin)
    · subst e
      exact br_t (Int32.not_lt.mp a) (br_t (Int32.not_lt.mp b) fin)
  unfold wpY_init wY_init_47
  rcases g3 with ⟨a, e⟩ | ⟨a, b, e⟩ | ⟨a, b, e⟩
  · subst e
    exact br_f (Int32.not_le.mpr a) (br_t (by decide) f56)
  · subst e
    exact br_t (Int32.not_lt.mp a) (br_f (Int32.not_le.mpr b) f56)
  · subst e
    exact br_t (Int32.not_lt.mp a) (br_t (Int32.not_lt.mp b) f56)
theorem i_vc_getRowCount {k : Nat} {u : SX} {v : SY} (I : i_Rel k u v) (hk : k + 5 ≤ 2562) : wpX_getRowCount (fun r => wpY_getRowCount (fun r' => r' = r ∧ i_Rel (k + 5) u v) v) u := by
  have J := I
  obtain ⟨cap, vc, rc, gb, rl⟩ := u
  obtain ⟨ycap, yvc, yn, va, re, yrl, tm⟩ := v
  obtain ⟨c, m, n, L, rfl, rfl, rfl, rfl, rfl, rfl, rfl, hN, hV, hR, hG⟩ := I
  exact ⟨rfl, J⟩
theorem i_vc_getCapacity {k : Nat} {u : SX} {v : SY} (I : i_Rel k u v) (hk : k + 5 ≤ 2562) : wpX_getCapacity (fun r => wpY_getCapacity (fun r' => r' = r ∧ i_Rel (k + 5) u v) v) u := by
  have J := I
  obtain ⟨cap, vc, rc, gb, rl⟩ := u
  obtain ⟨ycap, yvc, yn, va, re, yrl, tm⟩ := v
  obtain ⟨c, m, n, L, rfl, rfl, rfl, rfl, rfl, rfl, rfl, hN, hV, hR, hG⟩ := I
  exact ⟨rfl, J⟩
theorem i_vc_getValueCount {k : Nat} {u : SX} {v : SY} (I : i_Rel k u v) (hk : k + 5 ≤ 2562) : wpX_getValueCount (fun r => wpY_getValueCount (fun r' => r' = r ∧ i_Rel (k + 5) u v) v) u := by
  have J := I
  obtain ⟨cap, vc, rc, gb, rl⟩ := u
  obtain ⟨ycap, yvc, yn, va, re, yrl, tm⟩ := v
  obtain ⟨c, m, n, L, rfl, rfl, rfl, rfl, rfl, rfl, rfl, hN, hV, hR, hG⟩ := I
  exact ⟨rfl, J⟩
theorem i_vc_getLength {k : Nat} {u : SX} {v : SY} (I : i_Rel k u v) (hk : k + 5 ≤ 2562) (v1 : Int32) : wpX_getLength (fun r => wpY_getLength (fun r' => r' = r ∧ i_Rel (k + 5) u v) v v1) u v1 := by
  have J := I
  obtain ⟨cap, vc, rc, gb, rl⟩ := u
  obtain ⟨ycap, yvc, yn, va, re, yrl, tm⟩ := v
  obtain ⟨c, m, n, L, rfl, rfl, rfl, rfl, rfl, rfl, rfl, hN, hV, hR, hG⟩ := I
  unfold wpX_getLength wpY_getLength
  rcases wh_dec m v1 with ⟨i, rfl, hi⟩ | bad
  · exact wx_ok_t hN.2.1 hi (br_f (by decide) (wx_len hN hi (wy_ok_t hN.2.1 hi (br_f (by decide) (wy_len hN hi ⟨rfl, J⟩)))))
  · exact wx_ok_f bad (br_t rfl (wy_ok_f bad (br_t rfl ⟨rfl, J⟩)))
theorem i_vc_testBit {k : Nat} {u : SX} {v : SY} (I : i_Rel k u v) (hk : k + 5 ≤ 2562) (v1 : Int32) (v2 : Int32) : wpX_testBit (fun r => wpY_testBit (fun r' => r' = r ∧ i_Rel (k + 5) u v) v v1 v2) u v1 v2 := by
  have J := I
  obtain ⟨cap, vc, rc, gb, rl⟩ := u
  obtain ⟨ycap, yvc, yn, va, re, yrl, tm⟩ := v
  obtain ⟨c, m, n, L, rfl, rfl, rfl, rfl, rfl, rfl, rfl, hN, hV, hR, hG⟩ := I
  unfold wpX_testBit wpY_testBit
  rcases wh_dec m v1 with ⟨i, rfl, hi⟩ | bad
  · refine wx_ok_t hN.2.1 hi (br_f (by decide) ?_)
    by_cases z : v2 < 0
    · exact br_t z (wy_bitN hN hi z ⟨rfl, rfl, J⟩)
    · obtain ⟨r, hr, rfl⟩ := nI_of z
      have hl := wh_Lle hN hi
      refine br_f z (wx_len hN hi ?_)
      refine pk_lt r (wh_Len n L i) (fun q => ?_) (fun q => ?_)
      · exact wx_bit hG hN.2.1 hi (by omega) ⟨wh_nb _, wy_bit hN hR hi hr ⟨wh_nb _, rfl, J⟩⟩
      · refine wy_bit hN hR hi hr ?_
        rw [wh_Bge q]
        exact ⟨rfl, rfl, J⟩
  · exact wx_ok_f bad (br_t rfl (wy_bitI bad ⟨rfl, rfl, J⟩))
theorem wh_cnt {c m n i : Nat} {L : Nat → Nat} {gb rl va re tm : Nat → Int32} (hN : wh_N c m n L rl) (hR : wh_Re re) (hG : wh_Gb m n L gb va re) (hi : wh_ok m i) : ∀ (d t : Nat) (x : Int32), t + d = wh_Len n L i → ∃ z, (∀ post : Int32 → Prop, post z → wX_countBits_21 post (nI i) (nI (wh_Len n L i)) (nI c) (nI m) (nI n) gb rl (d + 1) x (nI t)) ∧ (∀ post : Int32 → Prop, post z → wY_countBits_21 post (nI i) (nI (wh_Len n L i)) (nI c) (nI m) (nI n) va re rl tm (d + 1) x (nI t)) := by
  have hl := wh_Lle hN hi
  intro d
  induction d with
  | zero =>
    intro t x e
    have h : nI (wh_Len n L i) ≤ nI t := nI_le (by omega) (by omega)
    exact ⟨x, fun post hp => br_t h hp, fun post hp => br_t h hp⟩
  | succ d ih =>
    intro t x e
    have h : ¬ nI (wh_Len n L i) ≤ nI t := nI_ge (by omega) (by omega)
    cases hb : wh_B n L va re i t with
    | false =>
      obtain ⟨z, hX, hY⟩ := ih (t + 1) x (by omega)
      refine ⟨z, fun post hp => br_f h (wx_bit hG hN.2.1 hi (by omega) ?_), fun post hp => br_f h (wy_bit hN hR hi (by omega) ?_)⟩
      · rw [hb]
        exact br_t rfl (nm_r (nI_1 t) (hX post hp))
      · rw [hb]
        exact br_t rfl (nm_r (nI_1 t) (hY post hp))
    | true =>
      obtain ⟨z, hX, hY⟩ := ih (t + 1) (x + 1) (by omega)
      refine ⟨z, fun post hp => br_f h (wx_bit hG hN.2.1 hi (by omega) ?_), fun post hp => br_f h (wy_bit hN hR hi (by omega) ?_)⟩
      · rw [hb]
        exact br_f (by decide) (nm_e (nm_r (nI_1 t) (hX post hp)))
      · rw [hb]
        exact br_f (by decide) (nm_e (nm_r (nI_1 t) (hY post hp)))
theorem i_vc_countBits {k : Nat} {u : SX} {v : SY} (I : i_Rel k u v) (hk : k + 5 ≤ 2562) (v1 : Int32) : wpX_countBits (fun r => wpY_countBits (fun r' => r' = r ∧ i_Rel (k + 5) u v) v v1) u v1 := by
  have J := I
  obtain ⟨cap, vc, rc, gb, rl⟩ := u
  obtain ⟨ycap, yvc, yn, va, re, yrl, tm⟩ := v
  obtain ⟨c, m, n, L, rfl, rfl, rfl, rfl, rfl, rfl, rfl, hN, hV, hR, hG⟩ := I
  unfold wpX_countBits wpY_countBits
  rcases wh_dec m v1 with ⟨i, rfl, hi⟩ | bad
  · obtain ⟨z, hX, hY⟩ := wh_cnt (tm := tm) hN hR hG hi (wh_Len n L i) 0 0 (by omega)
    exact wx_ok_t hN.2.1 hi (br_f (by decide) (wx_len hN hi ⟨_, hX _ (wy_ok_t hN.2.1 hi (br_f (by decide) (wy_len hN hi ⟨_, hY _ ⟨rfl, J⟩⟩)))⟩))
  · exact wx_ok_f bad (br_t rfl (wy_ok_f bad (br_t rfl ⟨rfl, J⟩)))
theorem wh_nxt {c m n i : Nat} {L : Nat → Nat} {gb rl va re tm : Nat → Int32} (hN : wh_N c m n L rl) (hR : wh_Re re) (hG : wh_Gb m n L gb va re) (hi : wh_ok m i) : ∀ (d t : Nat), t + d = wh_Len n L i → ∃ z, (∀ post : Int32 → Prop, post z → wX_nextSetRow_27 post (nI i) (nI (wh_Len n L i)) (nI c) (nI m) (nI n) gb rl (d + 1) (nI t)) ∧ (∀ post : Int32 → Prop, post z → wY_nextSetRow_31 post (nI i) (nI (wh_Len n L i)) (nI c) (nI m) (nI n) va re rl tm (d + 1) (nI t)) := by
  have hl := wh_Lle hN hi
  intro d
  induction d with
  | zero =>
    intro t e
    have h : nI (wh_Len n L i) ≤ nI t := nI_le (by omega) (by omega)
    exact ⟨-1, fun post hp => br_t h hp, fun post hp => br_t h hp⟩
  | succ d ih =>
    intro t e
    have h : ¬ nI (wh_Len n L i) ≤ nI t := nI_ge (by omega) (by omega)
    cases hb : wh_B n L va re i t with
    | false =>
      obtain ⟨z, hX, hY⟩ := ih (t + 1) (by omega)
      refine ⟨z, fun post hp => br_f h (wx_bit hG hN.2.1 hi (by omega) ?_), fun post hp => br_f h (wy_bit hN hR hi (by omega) ?_)⟩
      · rw [hb]
        exact br_t rfl (nm_r (nI_1 t) (hX post hp))
      · rw [hb]
        exact br_t rfl (nm_r (nI_1 t) (hY post hp))
    | true =>
      refine ⟨nI t, fun post hp => br_f h (wx_bit hG hN.2.1 hi (by omega) ?_), fun post hp => br_f h (wy_bit hN hR hi (by omega) ?_)⟩
      · rw [hb]
        exact br_f (by decide) hp
      · rw [hb]
        exact br_f (by decide) hp
theorem i_vc_nextSetRow {k : Nat} {u : SX} {v : SY} (I : i_Rel k u v) (hk : k + 5 ≤ 2562) (v1 : Int32) (v2 : Int32) : wpX_nextSetRow (fun r => wpY_nextSetRow (fun r' => r' = r ∧ i_Rel (k + 5) u v) v v1 v2) u v1 v2 := by
  have J := I
  obtain ⟨cap, vc, rc, gb, rl⟩ := u
  obtain ⟨ycap, yvc, yn, va, re, yrl, tm⟩ := v
  obtain ⟨c, m, n, L, rfl, rfl, rfl, rfl, rfl, rfl, rfl, hN, hV, hR, hG⟩ := I
  unfold wpX_nextSetRow wpY_nextSetRow
  rcases wh_dec m v1 with ⟨i, rfl, hi⟩ | bad
  · refine wx_ok_t hN.2.1 hi (br_f (by decide) (wx_len hN hi ?_))
    have hl := wh_Lle hN hi
    by_cases z : v2 < 0
    · have z' : ¬ 0 ≤ v2 := Int32.not_le.mpr z
      obtain ⟨a, hX, hY⟩ := wh_nxt (tm := tm) hN hR hG hi (wh_Len n L i) 0 (by omega)
      exact br_f z' ⟨_, hX _ (wy_ok_t hN.2.1 hi (br_f (by decide) (wy_len hN hi (br_f z' ⟨_, hY _ ⟨rfl, J⟩⟩))))⟩
    · obtain ⟨t, ht, rfl⟩ := nI_of z
      have z' : 0 ≤ nI t := nI_pos' ht
      by_cases q : t ≤ wh_Len n L i
      · obtain ⟨a, hX, hY⟩ := wh_nxt (tm := tm) hN hR hG hi (wh_Len n L i - t) t (by omega)
        exact br_t z' ⟨_, hX _ (wy_ok_t hN.2.1 hi (br_f (by decide) (wy_len hN hi (br_t z' ⟨_, hY _ ⟨rfl, J⟩⟩))))⟩
      · have h : nI (wh_Len n L i) ≤ nI t := nI_le (by omega) ht
        exact br_t z' ⟨1, br_t h (wy_ok_t hN.2.1 hi (br_f (by decide) (wy_len hN hi (br_t z' ⟨1, br_t h ⟨rfl, J⟩⟩))))⟩
  · exact wx_ok_f bad (br_t rfl (wy_ok_f bad (br_t rfl ⟨rfl, J⟩)))
