/-! a range selected -/
theorem wh_sl1 {lo hi x : Int32} (h : x = -1) : wh_sl lo hi x = false := by
  unfold wh_sl
  rw [decide_eq_true h]
  rfl
theorem wh_sl2 {lo hi x : Int32} (h : x < lo) : wh_sl lo hi x = false := by
  unfold wh_sl
  rw [decide_eq_false (Int32.not_le.mpr h), Bool.false_and, Bool.and_false]
theorem wh_sl3 {lo hi x : Int32} (h : hi < x) : wh_sl lo hi x = false := by
  unfold wh_sl
  rw [decide_eq_false (Int32.not_le.mpr h), Bool.and_false, Bool.and_false]
theorem wh_sl4 {lo hi x : Int32} (h1 : ¬ x = -1) (h2 : ¬ x < lo) (h3 : ¬ hi < x) : wh_sl lo hi x = true := by
  unfold wh_sl
  rw [decide_eq_false h1, decide_eq_true (Int32.not_lt.mp h2), decide_eq_true (Int32.not_lt.mp h3)]
  rfl
theorem wx_selL {post : Int32 → SX → Prop} {m d n : Nat} {lo hi cc : Int32} {gb rl : Nat → Int32} (hm : m ≤ 8) (h8 : 8 ≤ d) (h12 : d < 12) (hp : post 1 (cc, nI m, nI n, wh_seg gb (d * 16) 16 (fun g => wh_sg gb g lo hi m), upd rl (d - 8) (nI n))) : ∀ e t, t + e = 16 → wX_selectRange_12 post (nI d) lo hi cc (nI m) (nI n) (e + 1) (nI t) (wh_seg gb (d * 16) t (fun g => wh_sg gb g lo hi m)) rl := by
  intro e
  induction e with
  | zero =>
    intro t e1
    have e2 : t = 16 := by omega
    subst e2
    refine br_t (by decide) ?_
    rw [wh_s8 h8, nI_clamp (show d - 8 < 2 ^ 31 by omega)]
    exact ⟨vp_in_nI (by omega) (by decide), nm_e hp⟩
  | succ e ih =>
    intro t e1
    refine br_f (nI_ge (b := 16) (by omega) (by decide)) (wx_sg hm (by omega) ?_)
    rw [wh_i16, nI_clamp (show d * 16 + t < 2 ^ 31 by omega)]
    rw [wh_sgE (gb := gb) m (fun v hv => wh_segO (show ¬ (d * 16 ≤ v * 16 + t ∧ v * 16 + t < d * 16 + t) by omega))]
    exact ⟨vp_in_nI (by omega) (by decide), nm_r (wh_segS gb (fun g => wh_sg gb g lo hi m) (d * 16) t) (nm_r (nI_1 t) (ih (t + 1) (by omega)))⟩
theorem wy_selL {post : Int32 → SY → Prop} {d n : Nat} {lo hi cc mm : Int32} {va re rl tm : Nat → Int32} (hn : n ≤ 496) (h8 : 8 ≤ d) (h12 : d < 12) (hp : post 1 (cc, mm, nI n, va, wh_seg re ((d - 8) * 496) n (fun r => wh_z (wh_sl lo hi (va r))), upd rl (d - 8) (nI n), tm)) : ∀ e t, t + e = n → wY_selectRange_23 post (nI d) lo hi (nI ((d - 8) * 496)) cc mm (nI n) (e + 1) (nI t) va (wh_seg re ((d - 8) * 496) t (fun r => wh_z (wh_sl lo hi (va r)))) rl tm := by
  intro e
  induction e with
  | zero =>
    intro t e1
    have e2 : t = n := by omega
    subst e2
    refine br_t (nI_le (Nat.le_refl _) (by omega)) ?_
    rw [wh_s8 h8, nI_clamp (show d - 8 < 2 ^ 31 by omega)]
    exact ⟨vp_in_nI (by omega) (by decide), nm_e hp⟩
  | succ e ih =>
    intro t e1
    refine br_f (nI_ge (by omega) (by omega)) ?_
    rw [nI_add ((d - 8) * 496) t, nI_clamp (show (d - 8) * 496 + t < 2 ^ 31 by omega), nI_clamp (show t < 2 ^ 31 by omega)]
    have wr : ∀ b : Bool, b = wh_sl lo hi (va t) → (vp_in (nI ((d - 8) * 496 + t)) 1984 ∧ ∀ a : Nat → Int32, a = upd (wh_seg re ((d - 8) * 496) t (fun r => wh_z (wh_sl lo hi (va r)))) ((d - 8) * 496 + t) (vp_nar .boolean (wh_z b)) → ∀ x : Int32, x = nI t + 1 → wY_selectRange_23 post (nI d) lo hi (nI ((d - 8) * 496)) cc mm (nI n) (e + 1) x va a rl tm) := by
      intro b hb
      rw [wh_vb, hb]
      exact ⟨vp_in_nI (by omega) (by decide), nm_r (wh_segS re (fun r => wh_z (wh_sl lo hi (va r))) ((d - 8) * 496) t) (nm_r (nI_1 t) (ih (t + 1) (by omega)))⟩
    refine ⟨vp_in_nI (by omega) (by decide), nm_e ?_⟩
    by_cases z1 : va t = -1
    · exact br_t z1 (wr false (wh_sl1 z1).symm)
    · refine br_f z1 ?_
      by_cases z2 : va t < lo
      · exact br_t z2 (wr false (wh_sl2 z2).symm)
      · refine br_f z2 ?_
        by_cases z3 : hi < va t
        · exact br_t z3 (wr false (wh_sl3 z3).symm)
        · exact br_f z3 (wr true (wh_sl4 z1 z2 z3).symm)
theorem i_vc_selectRange {k : Nat} {u : SX} {v : SY} (I : i_Rel k u v) (hk : k + 5 ≤ 2562) (v1 : Int32) (v2 : Int32) (v3 : Int32) : wpX_selectRange (fun r u' => wpY_selectRange (fun r' v' => r' = r ∧ i_Rel (k + 5) u' v') v v1 v2 v3) u v1 v2 v3 := by
  have J := I
  obtain ⟨cap, vc, rc, gb, rl⟩ := u
  obtain ⟨ycap, yvc, yn, va, re, yrl, tm⟩ := v
  obtain ⟨c, m, n, L, rfl, rfl, rfl, rfl, rfl, rfl, rfl, hN, hV, hR, hG⟩ := I
  have hN' := hN
  obtain ⟨h1, h2, h3, h4, h5⟩ := hN'
  unfold wpX_selectRange wpY_selectRange
  rcases wh_decR v1 with ⟨d, rfl, h8, h12⟩ | bad
  · refine wx_res_t h8 h12 (br_f (by decide) ⟨17, ?_⟩)
    have L1 := fun post hp => wx_selL (post := post) (lo := v2) (hi := v3) (cc := nI c) (gb := gb) (rl := yrl) (n := n) h2 h8 h12 hp 16 0 (by omega)
    rw [wh_seg0] at L1
    refine L1 _ (wy_res_t h8 h12 (br_f (by decide) (nm_r (wh_b496 h8) ⟨n + 1, ?_⟩)))
    have L2 := fun post hp => wy_selL (post := post) (lo := v2) (hi := v3) (cc := nI c) (mm := nI m) (va := va) (re := re) (rl := yrl) (tm := tm) (n := n) (by omega) h8 h12 hp n 0 (by omega)
    rw [wh_seg0] at L2
    refine L2 _ ⟨rfl, ?_⟩
    refine wh_mkR (L := wh_uN L (d - 8) n) ⟨wh_Nput hN h3, hV, wh_segR _ _ hR (fun r => wh_z01 _), wh_put (l := n) hG h2 h8 h12 (fun j hj => Nat.le_trans (h5 j hj).2 h4) (fun q hq => wh_segO (by omega)) (fun g hg => ⟨(wh_sgB hG h2 hg v2 v3 m (Nat.le_refl m)).1, fun i hi => ?_⟩)⟩
    rw [wh_sgF hG hV h2 hg v2 v3 hi]
    by_cases q : 31 * g + i < n
    · rw [wh_segI q, wh_z1]
    · rw [decide_eq_false q, Bool.false_and, Bool.false_and]
  · exact wx_res_f bad (br_t rfl (wy_res_f bad (br_t rfl ⟨rfl, J⟩)))
