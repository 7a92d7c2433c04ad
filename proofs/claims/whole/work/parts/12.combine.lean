/-! two bitmaps combined -/
def wh_ml (x y : Nat) : Nat := if x ≤ y then y else x
theorem wh_ml1 {x y : Nat} (h : x ≤ y) : wh_ml x y = y := if_pos h
theorem wh_ml2 {x y : Nat} (h : y ≤ x) : wh_ml x y = x := by
  unfold wh_ml
  split <;> omega
theorem wh_mlc {x y c : Nat} (hx : x ≤ c) (hy : y ≤ c) : wh_ml x y ≤ c := by
  unfold wh_ml
  split <;> omega
theorem wh_segB {f F : Nat → Int32} {d a t : Nat} (ht : t < 16) : wh_seg f (d * 16) t F (a * 16 + t) = f (a * 16 + t) := wh_segO (show ¬ (d * 16 ≤ a * 16 + t ∧ a * 16 + t < d * 16 + t) by omega)
theorem wh_segZ (f F : Nat → Int32) (k : Nat) : upd (wh_seg f 0 k F) k (F k) = wh_seg f 0 (k + 1) F := by
  have h := wh_segS f F 0 k
  rw [Nat.zero_add] at h
  exact h
theorem wx_cmL {post : Int32 → SX → Prop} {o d a b l : Nat} {cc mm nn : Int32} {gb rl : Nat → Int32} (h1 : 1 ≤ o) (h6 : o ≤ 6) (h8 : 8 ≤ d) (h12 : d < 12) (ha : a < 12) (hb : b < 12) (hl : l ≤ 496) (hp : post 1 (cc, mm, nn, wh_seg gb (d * 16) 16 (fun g => wh_oI o (gb (a * 16 + g)) (gb (b * 16 + g)) &&& wh_ma l g), upd rl (d - 8) (nI l))) : ∀ e t, t + e = 16 → wX_combine_109 post (nI o) (nI d) (nI a) (nI b) (nI l) cc mm nn (e + 1) (nI t) (wh_seg gb (d * 16) t (fun g => wh_oI o (gb (a * 16 + g)) (gb (b * 16 + g)) &&& wh_ma l g)) rl := by
  intro e
  induction e with
  | zero =>
    intro t e1
    have e2 : t = 16 := by omega
    subst e2
    refine br_t (by decide) ?_
    rw [wh_s8 h8, nI_clamp (show d - 8 < 2 ^ 31 by omega)]
    exact ⟨vp_in_nI (by omega) (by decide), nm_e hp⟩
  | succ e ih =>
    intro t e1
    refine br_f (nI_ge (b := 16) (by omega) (by decide)) ?_
    rw [wh_i16 a t, wh_i16 b t, wh_i16 d t, nI_clamp (show a * 16 + t < 2 ^ 31 by omega), nI_clamp (show b * 16 + t < 2 ^ 31 by omega), nI_clamp (show d * 16 + t < 2 ^ 31 by omega)]
    refine ⟨vp_in_nI (by omega) (by decide), nm_r (wh_segB (by omega)) ⟨vp_in_nI (by omega) (by decide), nm_r (wh_segB (by omega)) ?_⟩⟩
    refine wx_cg h1 h6 (wx_mask hl (by omega) ⟨vp_in_nI (by omega) (by decide), ?_⟩)
    exact nm_r (wh_segS gb (fun g => wh_oI o (gb (a * 16 + g)) (gb (b * 16 + g)) &&& wh_ma l g) (d * 16) t) (nm_r (nI_1 t) (ih (t + 1) (by omega)))
theorem wx_73 {post : Int32 → SX → Prop} {c m n o d a b : Nat} {L : Nat → Nat} {cc mm : Int32} {gb rl : Nat → Int32} (hN : wh_N c m n L rl) (h1 : 1 ≤ o) (h6 : o ≤ 6) (h8 : 8 ≤ d) (h12 : d < 12) (ha : wh_ok m a) (hb : wh_ok m b) (hp : post 1 (cc, mm, nI n, wh_seg gb (d * 16) 16 (fun g => wh_oI o (gb (a * 16 + g)) (gb (b * 16 + g)) &&& wh_ma (wh_ml (wh_Len n L a) (wh_Len n L b)) g), upd rl (d - 8) (nI (wh_ml (wh_Len n L a) (wh_Len n L b))))) : wX_combine_73 post (nI o) (nI d) (nI a) (nI b) cc mm (nI n) gb rl := by
  have hla := wh_Lle hN ha
  have hlb := wh_Lle hN hb
  have a12 := wh_ok12 hN.2.1 ha
  have b12 := wh_ok12 hN.2.1 hb
  have L1 := wx_cmL (cc := cc) (mm := mm) (nn := nI n) h1 h6 h8 h12 a12 b12 (wh_mlc hla hlb) hp 16 0 (by omega)
  rw [wh_seg0] at L1
  unfold wX_combine_73
  refine wx_len hN ha (wx_len hN hb ?_)
  refine pk_le (wh_Len n L a) (wh_Len n L b) (fun q => ?_) (fun q => ?_)
  · rw [wh_ml1 q] at L1
    exact ⟨17, L1⟩
  · rw [wh_ml2 (Nat.le_of_lt q)] at L1
    exact ⟨17, L1⟩
theorem wy_133 {post : Int32 → SY → Prop} {J : Int32 → (Nat → Int32) → (Nat → Int32) → (Nat → Int32) → (Nat → Int32) → Prop} {o t : Nat} (bx bo : Bool) {x2 x3 x4 x5 x7 cc mm nn : Int32} {va re rl tm : Nat → Int32} (h1 : 1 ≤ o) (h6 : o ≤ 6) (ht : t < 496) (hJ : J (nI (t + 1)) va re rl (upd tm t (wh_z (wh_op o bx bo)))) : wY_combine_133 post J (nI o) x2 x3 x4 x5 x7 (nI t) (wh_z bx) (wh_z bo) cc mm nn va re rl tm := by
  have st : ∀ z : Bool, z = wh_op o bx bo → (vp_in (nI t) 496 ∧ ∀ a : Nat → Int32, a = upd tm (nI t).toNatClampNeg (vp_nar .boolean (wh_z z)) → ∀ x : Int32, x = nI t + 1 → J x va re rl a) := by
    intro z hz
    rw [wh_vb, hz, nI_clamp (show t < 2 ^ 31 by omega)]
    exact ⟨vp_in_nI ht (by decide), nm_e (nm_r (nI_1 t) hJ)⟩
  clear hJ
  unfold wY_combine_133
  have h : o = 1 ∨ o = 2 ∨ o = 3 ∨ o = 4 ∨ o = 5 ∨ o = 6 := by omega
  rcases h with e | e | e | e | e | e
  · subst e
    refine br_t (by decide) ?_
    cases bx
    · exact br_t rfl (st false rfl)
    · refine br_f (by decide) ?_
      cases bo
      · exact br_t rfl (st false rfl)
      · exact br_f (by decide) (st true rfl)
  · subst e
    refine br_f (by decide) (br_t (by decide) ?_)
    cases bx
    · refine br_t rfl ?_
      cases bo
      · exact br_t rfl (st false rfl)
      · exact br_f (by decide) (st true rfl)
    · exact br_f (by decide) (st true rfl)
  · subst e
    refine br_f (by decide) (br_f (by decide) (br_t (by decide) ?_))
    cases bx
    · exact br_t rfl (st false rfl)
    · refine br_f (by decide) ?_
      cases bo
      · exact br_t rfl (st true rfl)
      · exact br_f (by decide) (st false rfl)
  · subst e
    refine br_f (by decide) (br_f (by decide) (br_f (by decide) (br_t (by decide) ?_)))
    cases bx <;> cases bo
    · exact br_t rfl (st false rfl)
    · exact br_f (by decide) (st true rfl)
    · exact br_f (by decide) (st true rfl)
    · exact br_t rfl (st false rfl)
  · subst e
    refine br_f (by decide) (br_f (by decide) (br_f (by decide) (br_f (by decide) (br_t (by decide) ?_))))
    cases bx
    · exact br_t rfl (st true rfl)
    · exact br_f (by decide) (st false rfl)
  · subst e
    exact br_f (by decide) (br_f (by decide) (br_f (by decide) (br_f (by decide) (br_f (by decide) (st bx rfl)))))
theorem wy_282 {post : Int32 → SY → Prop} {d l : Nat} {T : Nat → Bool} {cc mm nn : Int32} {va re rl tm : Nat → Int32} (h8 : 8 ≤ d) (h12 : d < 12) (hl : l ≤ 496) (htm : ∀ r, r < l → tm r = wh_z (T r)) (hp : post 1 (cc, mm, nn, va, wh_seg re ((d - 8) * 496) l (fun r => wh_z (T r)), upd rl (d - 8) (nI l), tm)) : ∀ e t, t + e = l → wY_combine_282 post (nI d) (nI l) (nI ((d - 8) * 496)) cc mm nn (e + 1) (nI t) va (wh_seg re ((d - 8) * 496) t (fun r => wh_z (T r))) rl tm := by
  intro e
  induction e with
  | zero =>
    intro t e1
    have e2 : t = l := by omega
    subst e2
    refine br_t (nI_le (Nat.le_refl _) (by omega)) ?_
    rw [wh_s8 h8, nI_clamp (show d - 8 < 2 ^ 31 by omega)]
    exact ⟨vp_in_nI (by omega) (by decide), nm_e hp⟩
  | succ e ih =>
    intro t e1
    refine br_f (nI_ge (by omega) (by omega)) ?_
    rw [nI_add ((d - 8) * 496) t, nI_clamp (show (d - 8) * 496 + t < 2 ^ 31 by omega), nI_clamp (show t < 2 ^ 31 by omega), htm t (by omega), wh_vb]
    exact ⟨vp_in_nI (by omega) (by decide), vp_in_nI (by omega) (by decide), nm_r (wh_segS re (fun r => wh_z (T r)) ((d - 8) * 496) t) (nm_r (nI_1 t) (ih (t + 1) (by omega)))⟩
theorem wy_99 {post : Int32 → SY → Prop} {c m n o d a l : Nat} {L : Nat → Nat} {y : Nat → Bool} {cc x4 x5 : Int32} {va re rl tm : Nat → Int32} (hN : wh_N c m n L rl) (hR : wh_Re re) (h1 : 1 ≤ o) (h6 : o ≤ 6) (h8 : 8 ≤ d) (h12 : d < 12) (ha : wh_ok m a) (hl : l ≤ 496)
    (hy : (x5 = 0 ∧ ∀ r, y r = false) ∨ (¬ x5 = 0 ∧ ∃ b, x4 = nI b ∧ wh_ok m b ∧ ∀ r, y r = wh_B n L va re b r))
    (hp : ∀ tm', post 1 (cc, nI m, nI n, va, wh_seg re ((d - 8) * 496) l (fun r => wh_z (wh_op o (wh_B n L va re a r) (y r))), upd rl (d - 8) (nI l), tm')) : ∀ e t, t + e = l → wY_combine_99 post (nI o) (nI d) (nI a) x4 x5 (nI l) cc (nI m) (nI n) (e + 1) (nI t) va re rl (wh_seg tm 0 t (fun r => wh_z (wh_op o (wh_B n L va re a r) (y r)))) := by
  intro e
  induction e with
  | zero =>
    intro t e1
    have e2 : t = l := by omega
    subst e2
    refine br_t (nI_le (Nat.le_refl _) (by omega)) (nm_r (wh_b496 h8) ⟨t + 1, ?_⟩)
    have L1 := wy_282 (post := post) (cc := cc) (mm := nI m) (nn := nI n) (va := va) (re := re) (rl := rl) (tm := wh_seg tm 0 t (fun r => wh_z (wh_op o (wh_B n L va re a r) (y r)))) (T := fun r => wh_op o (wh_B n L va re a r) (y r)) h8 h12 hl (fun r hr => ?_) (hp _) t 0 (by omega)
    · rw [wh_seg0] at L1
      exact L1
    · have q := wh_segI (f := tm) (F := fun r => wh_z (wh_op o (wh_B n L va re a r) (y r))) (b := 0) hr
      rw [Nat.zero_add] at q
      exact q
  | succ e ih =>
    intro t e1
    have q := ih (t + 1) (by omega)
    rw [← wh_segZ] at q
    refine br_f (nI_ge (by omega) (by omega)) (wy_bit hN hR ha (by omega) ?_)
    rcases hy with ⟨e5, hy⟩ | ⟨e5, b, e4, hb, hy⟩
    · rw [hy t] at q
      exact br_t e5 (wy_133 (wh_B n L va re a t) false h1 h6 (by omega) q)
    · rw [hy t] at q
      refine br_f e5 ?_
      rw [e4] at q ⊢
      exact wy_bit hN hR hb (by omega) (wy_133 (wh_B n L va re a t) (wh_B n L va re b t) h1 h6 (by omega) q)
theorem wy_61u {post : Int32 → SY → Prop} {c m n o d a : Nat} {L : Nat → Nat} {cc x4 : Int32} {va re rl tm : Nat → Int32} (hN : wh_N c m n L rl) (hR : wh_Re re) (h1 : 1 ≤ o) (h6 : o ≤ 6) (h8 : 8 ≤ d) (h12 : d < 12) (ha : wh_ok m a) (hp : ∀ tm', post 1 (cc, nI m, nI n, va, wh_seg re ((d - 8) * 496) (wh_Len n L a) (fun r => wh_z (wh_op o (wh_B n L va re a r) false)), upd rl (d - 8) (nI (wh_Len n L a)), tm')) : wY_combine_61 post (nI o) (nI d) (nI a) x4 0 cc (nI m) (nI n) va re rl tm := by
  have L1 := wy_99 (tm := tm) (x4 := x4) (x5 := 0) (y := fun _ => false) hN hR h1 h6 h8 h12 ha (wh_Lle hN ha) (Or.inl ⟨rfl, fun _ => rfl⟩) hp (wh_Len n L a) 0 (by omega)
  rw [wh_seg0] at L1
  unfold wY_combine_61
  exact wy_len hN ha (br_t rfl ⟨_, L1⟩)
theorem wy_61b {post : Int32 → SY → Prop} {c m n o d a b : Nat} {L : Nat → Nat} {cc : Int32} {va re rl tm : Nat → Int32} (hN : wh_N c m n L rl) (hR : wh_Re re) (h1 : 1 ≤ o) (h6 : o ≤ 6) (h8 : 8 ≤ d) (h12 : d < 12) (ha : wh_ok m a) (hb : wh_ok m b) (hp : ∀ tm', post 1 (cc, nI m, nI n, va, wh_seg re ((d - 8) * 496) (wh_ml (wh_Len n L a) (wh_Len n L b)) (fun r => wh_z (wh_op o (wh_B n L va re a r) (wh_B n L va re b r))), upd rl (d - 8) (nI (wh_ml (wh_Len n L a) (wh_Len n L b))), tm')) : wY_combine_61 post (nI o) (nI d) (nI a) (nI b) 1 cc (nI m) (nI n) va re rl tm := by
  have hla := wh_Lle hN ha
  have hlb := wh_Lle hN hb
  have L1 := wy_99 (tm := tm) (x4 := nI b) (x5 := 1) (y := fun r => wh_B n L va re b r) hN hR h1 h6 h8 h12 ha (wh_mlc hla hlb) (Or.inr ⟨by decide, b, rfl, hb, fun _ => rfl⟩) hp (wh_ml (wh_Len n L a) (wh_Len n L b)) 0 (by omega)
  rw [wh_seg0] at L1
  unfold wY_combine_61
  refine wy_len hN ha (br_f (by decide) (wy_len hN hb ?_))
  refine pk_le (wh_Len n L b) (wh_Len n L a) (fun q => ?_) (fun q => ?_)
  · rw [wh_ml2 q] at L1
    exact ⟨_, L1⟩
  · rw [wh_ml1 (Nat.le_of_lt q)] at L1
    exact ⟨_, L1⟩
theorem wh_cmR {k c m n o d a b l : Nat} {L : Nat → Nat} {y : Nat → Bool} {gb rl va re tm : Nat → Int32} (hN : wh_N c m n L rl) (hV : wh_Va m n va) (hR : wh_Re re) (hG : wh_Gb m n L gb va re) (h8 : 8 ≤ d) (h12 : d < 12) (ha : wh_ok m a) (hb : wh_ok m b) (hl : l ≤ c) (hy : ∀ r, wh_op o (wh_B n L va re a r) (y r) = wh_op o (wh_B n L va re a r) (wh_B n L va re b r)) : i_Rel k (nI c, nI m, nI n, wh_seg gb (d * 16) 16 (fun g => wh_oI o (gb (a * 16 + g)) (gb (b * 16 + g)) &&& wh_ma l g), upd rl (d - 8) (nI l)) (nI c, nI m, nI n, va, wh_seg re ((d - 8) * 496) l (fun r => wh_z (wh_op o (wh_B n L va re a r) (y r))), upd rl (d - 8) (nI l), tm) := by
  have h4 := hN.2.2.2.1
  refine wh_mkR (L := wh_uN L (d - 8) l) ⟨wh_Nput hN hl, hV, wh_segR _ _ hR (fun r => wh_z01 _), wh_put (l := l) hG hN.2.1 h8 h12 (fun j hj => Nat.le_trans (hN.2.2.2.2 j hj).2 h4) (fun q hq => wh_segO (by omega)) (fun g hg => wh_comb hG ha hb (fun r hr => ?_) hg)⟩
  rw [wh_segI hr, hy r]
theorem i_vc_combine {k : Nat} {u : SX} {v : SY} (I : i_Rel k u v) (hk : k + 5 ≤ 2562) (v1 : Int32) (v2 : Int32) (v3 : Int32) (v4 : Int32) : wpX_combine (fun r u' => wpY_combine (fun r' v' => r' = r ∧ i_Rel (k + 5) u' v') v v1 v2 v3 v4) u v1 v2 v3 v4 := by
  have J := I
  obtain ⟨cap, vc, rc, gb, rl⟩ := u
  obtain ⟨ycap, yvc, yn, va, re, yrl, tm⟩ := v
  obtain ⟨c, m, n, L, rfl, rfl, rfl, rfl, rfl, rfl, rfl, hN, hV, hR, hG⟩ := I
  have h2 := hN.2.1
  unfold wpX_combine wpY_combine
  rcases wh_decC (k := 6) v1 (by decide) with q | ⟨q, q2⟩ | ⟨o, o1, o6, rfl⟩
  · exact br_t q (br_t q ⟨rfl, J⟩)
  · exact br_f q (br_t q2 (br_f q (br_f (Int32.not_le.mpr q2) ⟨rfl, J⟩)))
  · have p1 : ¬ nI o < 1 := nI_nlt (b := 1) o1 (by omega)
    have p6 : ¬ 6 < nI o := nI_nlt (a := 6) o6 (by decide)
    have p6' : nI o ≤ 6 := nI_le (b := 6) o6 (by decide)
    rcases wh_decR v2 with ⟨d, rfl, h8, h12⟩ | bad
    · refine br_f p1 (br_f p6 (wx_res_t h8 h12 (br_f (by decide) ?_)))
      rcases wh_dec m v3 with ⟨a, rfl, ha⟩ | bad
      · refine wx_ok_t h2 ha (br_f (by decide) ?_)
        by_cases u5 : 5 ≤ o
        · have T := wx_73 (post := fun r u' => wpY_combine (fun r' v' => r' = r ∧ i_Rel (k + 5) u' v') (nI c, nI m, nI n, va, re, yrl, tm) (nI o) (nI d) (nI a) v4) (cc := nI c) (mm := nI m) (gb := gb) hN o1 o6 h8 h12 ha ha (by
            unfold wpY_combine
            refine br_f p1 (br_t p6' (wy_res_t h8 h12 (br_f (by decide) (wy_ok_t h2 ha (br_f (by decide) (br_t (nI_lt (a := 4) (by omega) (by omega)) ?_))))))
            unfold wY_combine_43
            refine br_t rfl (wy_61u hN hR o1 o6 h8 h12 ha (fun tm' => ⟨rfl, ?_⟩))
            rw [wh_ml1 (Nat.le_refl (wh_Len n L a))]
            exact wh_cmR hN hV hR hG h8 h12 ha ha (wh_Llc hN ha) (fun r => wh_op5 u5 _ _ _))
          have t44 : wX_combine_44 (fun r u' => wpY_combine (fun r' v' => r' = r ∧ i_Rel (k + 5) u' v') (nI c, nI m, nI n, va, re, yrl, tm) (nI o) (nI d) (nI a) v4) (nI o) (nI d) (nI a) v4 1 (nI c) (nI m) (nI n) gb yrl := by
            unfold wX_combine_44 wX_combine_62
            exact br_f (by decide) (br_f (by decide) T)
          by_cases e5 : o = 5
          · subst e5
            exact br_t (by decide) t44
          · have e6 : o = 6 := by omega
            subst e6
            exact br_f (by decide) (br_t (by decide) t44)
        · refine br_f (by rw [show (5 : Int32) = nI 5 from rfl, nI_eq (by omega) (by decide)]; omega) (br_f (by rw [show (6 : Int32) = nI 6 from rfl, nI_eq (by omega) (by decide)]; omega) ?_)
          unfold wX_combine_44 wX_combine_62
          refine br_t rfl ?_
          have p4 : ¬ 4 < nI o := nI_nlt (a := 4) (by omega) (by decide)
          rcases wh_dec m v4 with ⟨b, rfl, hb⟩ | bad
          · refine wx_ok_t h2 hb (br_f (by decide) (br_t rfl (wx_73 hN o1 o6 h8 h12 ha hb ?_)))
            refine br_f p1 (br_t p6' (wy_res_t h8 h12 (br_f (by decide) (wy_ok_t h2 ha (br_f (by decide) (br_f p4 ?_))))))
            unfold wY_combine_43
            refine br_f (by decide) (wy_ok_t h2 hb (br_f (by decide) (wy_61b hN hR o1 o6 h8 h12 ha hb (fun tm' => ⟨rfl, ?_⟩))))
            exact wh_cmR hN hV hR hG h8 h12 ha hb (wh_mlc (wh_Llc hN ha) (wh_Llc hN hb)) (fun r => rfl)
          · refine wx_ok_f bad (br_t rfl ?_)
            refine br_f p1 (br_t p6' (wy_res_t h8 h12 (br_f (by decide) (wy_ok_t h2 ha (br_f (by decide) (br_f p4 ?_))))))
            unfold wY_combine_43
            exact br_f (by decide) (wy_ok_f bad (br_t rfl ⟨rfl, J⟩))
      · exact wx_ok_f bad (br_t rfl (br_f p1 (br_t p6' (wy_res_t h8 h12 (br_f (by decide) (wy_ok_f bad (br_t rfl ⟨rfl, J⟩)))))))
    · exact br_f p1 (br_f p6 (wx_res_f bad (br_t rfl (br_f p1 (br_t p6' (wy_res_f bad (br_t rfl ⟨rfl, J⟩)))))))
