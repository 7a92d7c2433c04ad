/-! the walk over the groups -/
theorem wy_102 {post : Int32 → Prop} {J : Int32 → Int32 → Int32 → Int32 → Int32 → Prop} {v : Nat → Int32} {l g : Nat} {x1 idx x3 x4 x5 cc mm nn a0 a1 : Int32} {va re rl tm : Nat → Int32}
    (hA : (wh_w (wh_W (wh_st v l) (g + 1)) = idx → a1 = wh_wd v l g (g + 1 - wh_S (wh_st v l) (g + 1))) ∧ (¬ wh_w (wh_W (wh_st v l) (g + 1)) = idx → a1 = a0))
    (h : J (wh_w (wh_W (wh_st v l) (g + 1))) (wh_k v l g) (nI (g + 1 - wh_S (wh_st v l) (g + 1))) a1 (nI (g + 1))) :
    wY_walk_102 post J x1 idx x3 x4 x5 (wh_w (wh_W (wh_st v l) g)) (wh_pk v l g) (nI (g - wh_S (wh_st v l) g)) a0 (nI g) (v g) (wh_k v l g) cc mm nn va re rl tm := by
  have t166 : ∀ word : Int32, word = wh_wd v l g (g + 1 - wh_S (wh_st v l) (g + 1)) → wY_walk_166 post J x1 idx x3 x4 x5 (wh_w (wh_W (wh_st v l) (g + 1))) (wh_k v l g) (nI (g + 1 - wh_S (wh_st v l) (g + 1))) a0 (nI g) word cc mm nn va re rl tm := by
    intro word hw
    obtain ⟨a, b⟩ := hA
    unfold wY_walk_166
    refine br_c (fun z => nm_r (nI_1 g) ?_) (fun z => nm_r (nI_1 g) ?_)
    · rw [hw, ← a z]
      exact h
    · rw [← b z]
      exact h
  have t127 : wY_walk_127 post J x1 idx x3 x4 x5 (wh_w (wh_W (wh_st v l) (g + 1))) (nI (g + 1 - wh_S (wh_st v l) (g + 1))) a0 (nI g) (v g) (wh_k v l g) cc mm nn va re rl tm := by
    unfold wY_walk_127
    rcases wh_k012 v l g with k | k | k
    · exact br_f (by rw [k]; decide) (br_t k (nm_e (t166 _ (wh_wd0 _ k).symm)))
    · exact br_f (by rw [k]; decide) (br_f (by rw [k]; decide) (nm_e (t166 _ (wh_wd1 _ k).symm)))
    · exact br_t k (t166 _ (wh_wd2 _ k).symm)
  have t121 : wh_st v l g = true → wY_walk_121 post J x1 idx x3 x4 x5 (wh_w (wh_W (wh_st v l) g)) a0 (nI g) (v g) (wh_k v l g) cc mm nn va re rl tm := by
    intro hs
    unfold wY_walk_121
    refine nm_r (wh_uT hs) ?_
    have q := t127
    rw [← wh_cT hs] at q
    exact q
  unfold wY_walk_102
  by_cases k2 : wh_k v l g = 2
  · exact br_t k2 (t121 (wh_st_t (Or.inl k2)))
  · by_cases kp : wh_k v l g = wh_pk v l g
    · have hs := wh_st_f k2 kp
      refine br_f k2 (br_t kp (nm_r (wh_cF hs) ?_))
      rw [wh_uF hs]
      exact t127
    · exact br_f k2 (br_f kp (t121 (wh_st_t (Or.inr kp))))
theorem wy_walk {post : Int32 → Prop} {c m n i : Nat} {L : Nat → Nat} {gb rl va re tm : Nat → Int32} {cc idx wc : Int32} {A : Nat → Int32} (hN : wh_N c m n L rl) (hR : wh_Re re) (hG : wh_Gb m n L gb va re) (hi : wh_ok m i) (hA0 : A 0 = 0)
    (hA : ∀ g, g < 16 → (wh_w (wh_W (wh_st (wh_v gb i) (wh_Len n L i)) (g + 1)) = idx → A (g + 1) = wh_wd (wh_v gb i) (wh_Len n L i) g (g + 1 - wh_S (wh_st (wh_v gb i) (wh_Len n L i)) (g + 1))) ∧ (¬ wh_w (wh_W (wh_st (wh_v gb i) (wh_Len n L i)) (g + 1)) = idx → A (g + 1) = A g))
    (hp0 : wc = 0 → post (A ((wh_Len n L i + 30) / 31))) (hp1 : ¬ wc = 0 → post (nI (wh_W (wh_st (wh_v gb i) (wh_Len n L i)) ((wh_Len n L i + 30) / 31)))) : wpY_walk post (cc, nI m, nI n, va, re, rl, tm) (nI i) idx wc := by
  have hl := wh_Lle hN hi
  unfold wpY_walk
  refine wy_len hN hi ⟨by decide, nm_r (wh_gcY hl) ?_⟩
  generalize wh_Len n L i = l at hl hA hp0 hp1 ⊢
  have hG16 : (l + 30) / 31 ≤ 16 := by omega
  have loop : ∀ d g, g + d = (l + 30) / 31 → wY_walk_32 post (nI i) idx wc (nI l) (nI ((l + 30) / 31)) cc (nI m) (nI n) va re rl tm (d + 1) (wh_w (wh_W (wh_st (wh_v gb i) l) g)) (wh_pk (wh_v gb i) l g) (nI (g - wh_S (wh_st (wh_v gb i) l) g)) (A g) (nI g) := by
    intro d
    induction d with
    | zero =>
      intro g e
      have e2 : g = (l + 30) / 31 := by omega
      rw [e2]
      refine br_t (nI_le (Nat.le_refl _) (by omega)) (br_c hp0 (fun z => ?_))
      rw [wh_w1]
      exact hp1 z
    | succ d ih =>
      intro g e
      have T := wy_102 (post := post) (x1 := nI i) (x3 := wc) (x4 := nI l) (x5 := nI ((l + 30) / 31)) (cc := cc) (mm := nI m) (nn := nI n) (va := va) (re := re) (rl := rl) (tm := tm) (hA g (by omega)) (ih (g + 1) (by omega))
      refine br_f (nI_ge (by omega) (by omega)) (wy_gv hN hR hG hi (by omega) ?_)
      have e1 : 31 * nI g + 31 = nI (31 * g + 31) := by
        rw [wh_m31 g]
        exact nI_add (31 * g) 31
      rw [e1]
      refine pk_lt l (31 * g + 31) (fun q => ?_) (fun q => ?_)
      · have k : wh_k (wh_v gb i) l g = 2 := wh_kp (by omega)
        rw [k] at T
        unfold wY_walk_66 wY_walk_87
        exact br_t rfl (br_t rfl T)
      · unfold wY_walk_66 wY_walk_87
        refine br_f (by decide) ?_
        by_cases z0 : gb (i * 16 + g) = 0
        · rw [wh_k0 (v := wh_v gb i) q z0] at T
          exact br_t z0 T
        · refine br_f z0 (br_f (by decide) ?_)
          by_cases z1 : gb (i * 16 + g) = 2147483647
          · rw [wh_k1 (v := wh_v gb i) q z1] at T
            exact br_t z1 T
          · rw [wh_k2 (v := wh_v gb i) z0 z1] at T
            exact br_f z1 T
  have q := loop ((l + 30) / 31) 0 (by omega)
  rw [hA0] at q
  exact ⟨_, q⟩
theorem i_vc_getWordCount {k : Nat} {u : SX} {v : SY} (I : i_Rel k u v) (hk : k + 5 ≤ 2562) (v1 : Int32) : wpX_getWordCount (fun r => wpY_getWordCount (fun r' => r' = r ∧ i_Rel (k + 5) u v) v v1) u v1 := by
  have J := I
  obtain ⟨cap, vc, rc, gb, rl⟩ := u
  obtain ⟨ycap, yvc, yn, va, re, yrl, tm⟩ := v
  obtain ⟨c, m, n, L, rfl, rfl, rfl, rfl, rfl, rfl, rfl, hN, hV, hR, hG⟩ := I
  unfold wpX_getWordCount wpY_getWordCount
  rcases wh_dec m v1 with ⟨i, rfl, hi⟩ | bad
  · have hl := wh_Lle hN hi
    have h12 := wh_ok12 hN.2.1 hi
    have loop : ∀ (post : Int32 → Prop) (l : Nat), l ≤ 496 → post (nI (wh_W (wh_st (wh_v gb i) l) ((l + 30) / 31))) → ∀ d g, g + d = (l + 30) / 31 → wX_getWordCount_27 post (nI i) (nI l) (nI ((l + 30) / 31)) (nI c) (nI m) (nI n) gb yrl (d + 1) (nI (wh_W (wh_st (wh_v gb i) l) g)) (nI g) := by
      intro post l hl hp d
      have hG16 : (l + 30) / 31 ≤ 16 := by omega
      induction d with
      | zero =>
        intro g e
        have e2 : g = (l + 30) / 31 := by omega
        rw [e2]
        exact br_t (nI_le (Nat.le_refl _) (by omega)) hp
      | succ d ih =>
        intro g e
        have q := ih (g + 1) (by omega)
        refine br_f (nI_ge (by omega) (by omega)) (wx_sw h12 (by omega) hl (fun s => ?_) (fun s => ?_))
        · rw [wh_Wf s] at q
          exact br_t rfl (nm_r (nI_1 g) q)
        · rw [wh_Wt s] at q
          exact br_f (by decide) (nm_r (nI_1 _) (nm_r (nI_1 g) q))
    refine wx_ok_t hN.2.1 hi (br_f (by decide) (wx_len hN hi (wx_gc hl ⟨_, loop _ _ hl ?_ ((wh_Len n L i + 30) / 31) 0 (by omega)⟩)))
    exact wy_ok_t hN.2.1 hi (br_f (by decide) (wy_walk (A := fun _ => 0) hN hR hG hi rfl wh_hB (fun z => absurd z (by decide)) (fun _ => ⟨rfl, J⟩)))
  · exact wx_ok_f bad (br_t rfl (wy_ok_f bad (br_t rfl ⟨rfl, J⟩)))
theorem i_vc_getWord {k : Nat} {u : SX} {v : SY} (I : i_Rel k u v) (hk : k + 5 ≤ 2562) (v1 : Int32) (v2 : Int32) : wpX_getWord (fun r => wpY_getWord (fun r' => r' = r ∧ i_Rel (k + 5) u v) v v1 v2) u v1 v2 := by
  have J := I
  obtain ⟨cap, vc, rc, gb, rl⟩ := u
  obtain ⟨ycap, yvc, yn, va, re, yrl, tm⟩ := v
  obtain ⟨c, m, n, L, rfl, rfl, rfl, rfl, rfl, rfl, rfl, hN, hV, hR, hG⟩ := I
  unfold wpX_getWord wpY_getWord
  rcases wh_dec m v1 with ⟨i, rfl, hi⟩ | bad
  · have hl := wh_Lle hN hi
    have h12 := wh_ok12 hN.2.1 hi
    refine wx_ok_t hN.2.1 hi (br_f (by decide) ?_)
    by_cases z : v2 < 0
    · have z' : ¬ 0 ≤ v2 := Int32.not_le.mpr z
      exact br_f z' (wy_ok_t hN.2.1 hi (br_f (by decide) (br_f z' ⟨rfl, J⟩)))
    · obtain ⟨ix, hx, rfl⟩ := nI_of z
      have z' : 0 ≤ nI ix := nI_pos' hx
      have loop : ∀ (post : Int32 → Prop) (l : Nat), l ≤ 496 → post (wh_A (wh_st (wh_v gb i) l) (wh_wd (wh_v gb i) l) ix ((l + 30) / 31)) → ∀ d g, g + d = (l + 30) / 31 → wh_W (wh_st (wh_v gb i) l) g ≤ ix → wX_getWord_32 post (nI i) (nI ix) (nI l) (nI ((l + 30) / 31)) (nI c) (nI m) (nI n) gb yrl (d + 1) (nI (wh_W (wh_st (wh_v gb i) l) g)) (nI g) := by
        intro post l hl hp d
        have hG16 : (l + 30) / 31 ≤ 16 := by omega
        induction d with
        | zero =>
          intro g e hW
          have e2 : g = (l + 30) / 31 := by omega
          rw [e2] at hW ⊢
          rw [wh_none _ hW] at hp
          exact br_t (nI_le (Nat.le_refl _) (by omega)) hp
        | succ d ih =>
          intro g e hW
          have hWg := wh_Wle (wh_st (wh_v gb i) l) g
          refine br_f (nI_ge (by omega) (by omega)) (wx_sw h12 (by omega) hl (fun s => ?_) (fun s => ?_))
          · have q := ih (g + 1) (by omega)
            rw [wh_Wf s] at q
            exact br_t rfl (nm_r (nI_1 g) (q hW))
          · refine br_f (by decide) (pk_eq (wh_W (wh_st (wh_v gb i) l) g) ix (fun w => ?_) (fun w => ?_))
            · refine wx_wf h12 hl (by omega) (fun k2 => ?_) (fun k2 e' a b c' d' => ?_)
              · rw [wh_fin2 s w (by omega) k2] at hp
                exact hp
              · rw [wh_fin0 s w a c' b d' k2] at hp
                exact hp
            · have q := ih (g + 1) (by omega)
              rw [wh_Wt s] at q
              exact nm_r (nI_1 _) (nm_r (nI_1 g) (q (by omega)))
      refine br_t z' (wx_len hN hi (wx_gc hl ⟨_, loop _ _ hl ?_ ((wh_Len n L i + 30) / 31) 0 (by omega) (Nat.zero_le _)⟩))
      exact wy_ok_t hN.2.1 hi (br_f (by decide) (br_t z' (wy_walk (A := wh_A (wh_st (wh_v gb i) (wh_Len n L i)) (wh_wd (wh_v gb i) (wh_Len n L i)) ix) hN hR hG hi rfl (wh_hA hx) (fun _ => ⟨rfl, J⟩) (fun w => absurd rfl w))))
  · exact wx_ok_f bad (br_t rfl (wy_ok_f bad (br_t rfl ⟨rfl, J⟩)))
