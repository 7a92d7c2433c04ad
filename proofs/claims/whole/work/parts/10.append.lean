/-! the value of a row -/
theorem wx_vaL {post : Int32 → Prop} {m n r : Nat} {L : Nat → Nat} {gb rl va re : Nat → Int32} {cc nn : Int32} (hG : wh_Gb m n L gb va re) (hV : wh_Va m n va) (hm : m ≤ 8) (hr : r < n) (hn : n ≤ 496) (hp : post (va r)) : ∀ d t, t + d = m → (∀ v, v < t → ¬ va r = nI v) → wX_getValueAt_17 post (nI r) cc (nI m) nn gb rl (d + 1) (nI t) := by
  intro d
  induction d with
  | zero =>
    intro t e h
    have e2 : va r = -1 := by
      rcases hV r hr with q | ⟨v, hv, q⟩
      · exact q
      · exact absurd q (h v (by omega))
    rw [e2] at hp
    exact br_t (nI_le (by omega) (by omega)) hp
  | succ d ih =>
    intro t e h
    refine br_f (nI_ge (by omega) (by omega)) (wx_bit hG hm (Or.inl (by omega)) (by omega) ?_)
    rw [wh_Bv (show t < 8 by omega), decide_eq_true hr, Bool.true_and]
    by_cases q : va r = nI t
    · rw [decide_eq_true q]
      rw [q] at hp
      exact br_f (by decide) hp
    · rw [decide_eq_false q]
      refine br_t rfl (nm_r (nI_1 t) (ih (t + 1) (by omega) (fun v hv => ?_)))
      by_cases w : v = t
      · rw [w]
        exact q
      · exact h v (by omega)
theorem i_vc_getValueAt {k : Nat} {u : SX} {v : SY} (I : i_Rel k u v) (hk : k + 5 ≤ 2562) (v1 : Int32) : wpX_getValueAt (fun r => wpY_getValueAt (fun r' => r' = r ∧ i_Rel (k + 5) u v) v v1) u v1 := by
  have J := I
  obtain ⟨cap, vc, rc, gb, rl⟩ := u
  obtain ⟨ycap, yvc, yn, va, re, yrl, tm⟩ := v
  obtain ⟨c, m, n, L, rfl, rfl, rfl, rfl, rfl, rfl, rfl, hN, hV, hR, hG⟩ := I
  obtain ⟨h1, h2, h3, h4, h5⟩ := hN
  unfold wpX_getValueAt wpY_getValueAt
  by_cases z : v1 < 0
  · exact br_t z (br_t z ⟨rfl, J⟩)
  · obtain ⟨r, hr, rfl⟩ := nI_of z
    refine br_f z ?_
    refine pk_lt r n (fun q => ⟨m + 1, wx_vaL hG hV h2 q (by omega) ?_ m 0 (by omega) (fun v hv => absurd hv (Nat.not_lt_zero v))⟩) (fun q => br_f z (br_f (nI_nlt q hr) ⟨rfl, J⟩))
    refine br_f z (br_t (nI_lt q (by omega)) ⟨vp_in_nI (by omega) (by decide), ?_⟩)
    rw [nI_clamp hr]
    exact ⟨rfl, J⟩
/-! a register cleared -/
theorem i_vc_clearResult {k : Nat} {u : SX} {v : SY} (I : i_Rel k u v) (hk : k + 5 ≤ 2562) (v1 : Int32) : wpX_clearResult (fun r u' => wpY_clearResult (fun r' v' => r' = r ∧ i_Rel (k + 5) u' v') v v1) u v1 := by
  have J := I
  obtain ⟨cap, vc, rc, gb, rl⟩ := u
  obtain ⟨ycap, yvc, yn, va, re, yrl, tm⟩ := v
  obtain ⟨c, m, n, L, rfl, rfl, rfl, rfl, rfl, rfl, rfl, hN, hV, hR, hG⟩ := I
  unfold wpX_clearResult wpY_clearResult
  rcases wh_decR v1 with ⟨i, rfl, h8, h12⟩ | bad
  · have loop : ∀ (post : Int32 → SX → Prop), post 1 (nI c, nI m, nI n, wh_seg gb (i * 16) 16 (fun _ => 0), upd yrl (i - 8) 0) → ∀ d t, t + d = 16 → wX_clearResult_11 post (nI i) (nI c) (nI m) (nI n) (d + 1) (nI t) (wh_seg gb (i * 16) t (fun _ => 0)) yrl := by
      intro post hp d
      induction d with
      | zero =>
        intro t e
        have e2 : t = 16 := by omega
        subst e2
        refine br_t (by decide) ?_
        rw [wh_s8 h8, nI_clamp (show i - 8 < 2 ^ 31 by omega)]
        exact ⟨vp_in_nI (by omega) (by decide), nm_e hp⟩
      | succ d ih =>
        intro t e
        refine br_f (nI_ge (b := 16) (by omega) (by decide)) ?_
        rw [wh_i16, nI_clamp (show i * 16 + t < 2 ^ 31 by omega)]
        exact ⟨vp_in_nI (by omega) (by decide), nm_r (wh_segS gb (fun _ => 0) (i * 16) t) (nm_r (nI_1 t) (ih (t + 1) (by omega)))⟩
    have q := fun post hp => loop post hp 16 0 (by omega)
    rw [wh_seg0] at q
    refine wx_res_t h8 h12 (br_f (by decide) ⟨_, q _ (wy_res_t h8 h12 (br_f (by decide) ?_))⟩)
    rw [wh_s8 h8, nI_clamp (show i - 8 < 2 ^ 31 by omega)]
    refine ⟨vp_in_nI (by omega) (by decide), nm_e ⟨rfl, ?_⟩⟩
    refine wh_mkR (L := wh_uN L (i - 8) 0) ⟨wh_Nput hN (Nat.zero_le c), hV, hR, wh_put (l := 0) hG hN.2.1 h8 h12 (fun j hj => Nat.le_trans (hN.2.2.2.2 j hj).2 hN.2.2.2.1) (fun _ _ => rfl) (fun g hg => ⟨b_0 31, fun i' _ => ?_⟩)⟩
    rw [decide_eq_false (Nat.not_lt_zero _), Bool.false_and]
    exact b_0 i'
  · exact wx_res_f bad (br_t rfl (wy_res_f bad (br_t rfl ⟨rfl, J⟩)))
/-! rows appended -/
theorem wx_runL {post : Int32 → SX → Prop} {m n e v : Nat} {L : Nat → Nat} {rl va re : Nat → Int32} {cc mm nn : Int32} (hm : m ≤ 8) (hv : v < m) (he : e ≤ 496) (hva : ∀ r, n ≤ r → r < e → va r = nI v) (hp : ∀ gb', wh_Gb m e L gb' va re → post 1 (cc, mm, nI e, gb', rl)) : ∀ d t (gb : Nat → Int32), t + d = e → n ≤ t → wh_Gb m t L gb va re → wX_appendRun_53 post (nI v) (nI e) cc mm nn (d + 1) (nI t) gb rl := by
  intro d
  induction d with
  | zero =>
    intro t gb e1 e2 hG
    have e3 : t = e := by omega
    subst e3
    exact br_t (nI_le (Nat.le_refl _) (by omega)) (hp gb hG)
  | succ d ih =>
    intro t gb e1 e2 hG
    refine br_f (nI_ge (by omega) (by omega)) ?_
    rw [wh_r31 (show t < 2 ^ 31 by omega), wh_x16 (show t < 2 ^ 31 by omega), nI_clamp (show v * 16 + t / 31 < 2 ^ 31 by omega)]
    exact ⟨by decide, vp_in_nI (by omega) (by decide), by decide, vp_in_nI (by omega) (by decide), nm_e (nm_r (nI_1 t) (ih (t + 1) _ (by omega) (by omega) (wh_app hG hv hm (by omega) (hva t e2 (by omega)))))⟩
theorem wy_runL {post : Int32 → SY → Prop} {n j : Nat} {x : Int32} {va re rl tm : Nat → Int32} {cc mm : Int32} (hn : n + j ≤ 496) (hp : post 1 (cc, mm, nI (n + j), wh_seg va n j (fun _ => x), re, rl, tm)) : ∀ d t, t + d = j → wY_appendRun_41 post x (nI j) cc mm (nI n) (d + 1) (nI t) (wh_seg va n t (fun _ => x)) re rl tm := by
  intro d
  induction d with
  | zero =>
    intro t e
    have e2 : t = j := by omega
    subst e2
    exact br_t (nI_le (Nat.le_refl _) (by omega)) (nm_r (nI_add n t) hp)
  | succ d ih =>
    intro t e
    refine br_f (nI_ge (by omega) (by omega)) ?_
    rw [nI_add n t, nI_clamp (show n + t < 2 ^ 31 by omega)]
    exact ⟨vp_in_nI (by omega) (by decide), nm_r (wh_segS va (fun _ => x) n t) (nm_r (nI_1 t) (ih (t + 1) (by omega)))⟩
theorem wh_both {c m n : Nat} {L : Nat → Nat} {gb rl va re tm : Nat → Int32} (hRel : wh_R c m n L gb rl va re) (x w : Int32) :
    ((∀ P : Int32 → SX → Prop, P 0 (nI c, nI m, nI n, gb, rl) → wpX_appendRun P (nI c, nI m, nI n, gb, rl) x w) ∧ (∀ P : Int32 → SY → Prop, P 0 (nI c, nI m, nI n, va, re, rl, tm) → wpY_appendRun P (nI c, nI m, nI n, va, re, rl, tm) x w))
    ∨ ∃ (n' : Nat) (va' : Nat → Int32), (∀ P : Int32 → SX → Prop, (∀ gb', wh_R c m n' L gb' rl va' re → P 1 (nI c, nI m, nI n', gb', rl)) → wpX_appendRun P (nI c, nI m, nI n, gb, rl) x w) ∧ (∀ P : Int32 → SY → Prop, P 1 (nI c, nI m, nI n', va', re, rl, tm) → wpY_appendRun P (nI c, nI m, nI n, va, re, rl, tm) x w) := by
  obtain ⟨hN, hV, hR, hG⟩ := hRel
  obtain ⟨h1, h2, h3, h4, h5⟩ := hN
  have hcn : nI c - nI n = nI (c - n) := pk_sub h3
  by_cases bad : ¬ x = -1 ∧ (x < 0 ∨ (¬ x < 0 ∧ ¬ x < nI m))
  · refine Or.inl ⟨fun P hp => ?_, fun P hp => ?_⟩
    · unfold wpX_appendRun
      refine br_f bad.1 ?_
      unfold wpX_isValueId
      rcases bad.2 with q | ⟨q, q2⟩
      · exact br_t q (br_t rfl hp)
      · exact br_f q (br_t (Int32.not_lt.mp q2) (br_t rfl hp))
    · unfold wpY_appendRun
      refine br_f bad.1 ?_
      rcases bad.2 with q | ⟨q, q2⟩
      · exact br_t q hp
      · exact br_f q (br_f q2 hp)
  · have hx : x = -1 ∨ ∃ v, v < m ∧ x = nI v := by
      rcases wh_decV x h2 with q | q | q | q
      · exact Or.inl q
      · exact Or.inr q
      · exact absurd ⟨q.1, Or.inl q.2⟩ bad
      · exact absurd ⟨q.1, Or.inr q.2⟩ bad
    have toX : ∀ P : Int32 → SX → Prop, wX_appendRun_15 P x w (nI c) (nI m) (nI n) gb rl → wpX_appendRun P (nI c, nI m, nI n, gb, rl) x w := by
      intro P hp
      unfold wpX_appendRun
      rcases hx with e | ⟨v, hv, e⟩
      · exact br_t e hp
      · refine br_f (by rw [e]; exact fun z => wh_m1 (k := v) (by omega) z.symm) ?_
        rw [e] at hp ⊢
        exact wx_val_t h2 hv (br_f (by decide) hp)
    have toY : ∀ P : Int32 → SY → Prop, wY_appendRun_19 P x w (nI c) (nI m) (nI n) va re rl tm → wpY_appendRun P (nI c, nI m, nI n, va, re, rl, tm) x w := by
      intro P hp
      unfold wpY_appendRun
      rcases hx with e | ⟨v, hv, e⟩
      · exact br_t e hp
      · refine br_f (by rw [e]; exact fun z => wh_m1 (k := v) (by omega) z.symm) ?_
        rw [e] at hp ⊢
        exact br_f (nI_pos (by omega)) (br_t (nI_lt hv (by omega)) hp)
    rcases wh_decC (k := c - n) w (by omega) with q | ⟨q, q2⟩ | ⟨j, j1, j2, e⟩
    · refine Or.inl ⟨fun P hp => toX P ?_, fun P hp => toY P ?_⟩
      · unfold wX_appendRun_15
        exact br_t q hp
      · unfold wY_appendRun_19
        exact br_t q hp
    · rw [← hcn] at q2
      refine Or.inl ⟨fun P hp => toX P ?_, fun P hp => toY P ?_⟩
      · unfold wX_appendRun_15
        exact br_f q (br_f (Int32.not_le.mpr q2) hp)
      · unfold wY_appendRun_19
        exact br_f q (br_f (Int32.not_le.mpr q2) hp)
    · have w1 : ¬ w < 1 := by rw [e]; exact nI_nlt (b := 1) j1 (by omega)
      have w2 : w ≤ nI c - nI n := by rw [e, hcn]; exact nI_le j2 (by omega)
      have vaI : ∀ r, n ≤ r → r < n + j → wh_seg va n j (fun _ => x) r = x := by
        intro r a b
        obtain ⟨t, rfl⟩ : ∃ t, r = n + t := ⟨r - n, by omega⟩
        exact wh_segI (by omega)
      have vaO : ∀ r, r < n → wh_seg va n j (fun _ => x) r = va r := fun r a => wh_segO (by omega)
      have mk : ∀ gb', wh_Gb m (n + j) L gb' (wh_seg va n j (fun _ => x)) re → wh_R c m (n + j) L gb' rl (wh_seg va n j (fun _ => x)) re := by
        intro gb' hG'
        refine ⟨⟨h1, h2, by omega, h4, h5⟩, fun r hr => ?_, hR, hG'⟩
        by_cases a : r < n
        · rw [vaO r a]
          exact hV r a
        · rw [vaI r (by omega) hr]
          exact hx
      have hG0 : wh_Gb m n L gb (wh_seg va n j (fun _ => x)) re := wh_vaE hG vaO
      refine Or.inr ⟨n + j, wh_seg va n j (fun _ => x), fun P hp => toX P ?_, fun P hp => toY P ?_⟩
      · unfold wX_appendRun_15
        refine br_f w1 (br_t w2 ?_)
        rw [e]
        refine nm_r (nI_add n j) ?_
        rcases hx with e3 | ⟨v, hv, e3⟩
        · refine br_t e3 (hp gb (mk gb (wh_appN hG0 h2 (by omega) (fun r a b => ?_))))
          rw [vaI r a b]
          exact e3
        · refine br_f (by rw [e3]; exact fun z => wh_m1 (k := v) (by omega) z.symm) ⟨j + 1, ?_⟩
          have L1 := wx_runL (post := P) (cc := nI c) (mm := nI m) (nn := nI n) (rl := rl) (n := n) h2 hv (show n + j ≤ 496 by omega) (fun r a b => (vaI r a b).trans e3) (fun gb' g => hp gb' (mk gb' g)) j n gb rfl (Nat.le_refl n) hG0
          rw [← e3] at L1
          exact L1
      · unfold wY_appendRun_19
        refine br_f w1 (br_t w2 ⟨j + 1, ?_⟩)
        have L1 := wy_runL (post := P) (cc := nI c) (mm := nI m) (n := n) (j := j) (x := x) (va := va) (re := re) (rl := rl) (tm := tm) (by omega) hp j 0 (by omega)
        rw [wh_seg0, ← e] at L1
        exact L1
theorem i_vc_appendRun {k : Nat} {u : SX} {v : SY} (I : i_Rel k u v) (hk : k + 5 ≤ 2562) (v1 : Int32) (v2 : Int32) : wpX_appendRun (fun r u' => wpY_appendRun (fun r' v' => r' = r ∧ i_Rel (k + 5) u' v') v v1 v2) u v1 v2 := by
  have J := I
  obtain ⟨cap, vc, rc, gb, rl⟩ := u
  obtain ⟨ycap, yvc, yn, va, re, yrl, tm⟩ := v
  obtain ⟨c, m, n, L, rfl, rfl, rfl, rfl, rfl, rfl, rfl, hRel⟩ := I
  rcases wh_both (tm := tm) hRel v1 v2 with ⟨hX, hY⟩ | ⟨n', va', hX, hY⟩
  · exact hX _ (hY _ ⟨rfl, J⟩)
  · exact hX _ (fun gb' hR' => hY _ ⟨rfl, wh_mkR hR'⟩)
theorem i_vc_appendRow {k : Nat} {u : SX} {v : SY} (I : i_Rel k u v) (hk : k + 5 ≤ 2562) (v1 : Int32) : wpX_appendRow (fun r u' => wpY_appendRow (fun r' v' => r' = r ∧ i_Rel (k + 5) u' v') v v1) u v1 := by
  have J := I
  obtain ⟨cap, vc, rc, gb, rl⟩ := u
  obtain ⟨ycap, yvc, yn, va, re, yrl, tm⟩ := v
  obtain ⟨c, m, n, L, rfl, rfl, rfl, rfl, rfl, rfl, rfl, hRel⟩ := I
  unfold wpX_appendRow wpY_appendRow
  rcases wh_both (tm := tm) hRel v1 1 with ⟨hX, hY⟩ | ⟨n', va', hX, hY⟩
  · exact hX _ ⟨rfl, hY _ ⟨rfl, rfl, J⟩⟩
  · exact hX _ (fun gb' hR' => ⟨rfl, hY _ ⟨rfl, rfl, wh_mkR hR'⟩⟩)
