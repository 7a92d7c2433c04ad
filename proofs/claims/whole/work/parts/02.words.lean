/-! the words: st t says that group t begins a word -/
def wh_W (st : Nat → Bool) : Nat → Nat
  | 0 => 0
  | g + 1 => if st g = true then wh_W st g + 1 else wh_W st g
def wh_S (st : Nat → Bool) : Nat → Nat
  | 0 => 0
  | g + 1 => if st g = true then g else wh_S st g
def wh_A (st : Nat → Bool) (wd : Nat → Nat → Int32) (ix : Nat) : Nat → Int32
  | 0 => 0
  | g + 1 => if wh_W st (g + 1) = ix + 1 then wd g (g + 1 - wh_S st (g + 1)) else wh_A st wd ix g
theorem wh_Wt {st : Nat → Bool} {g : Nat} (h : st g = true) : wh_W st (g + 1) = wh_W st g + 1 := if_pos h
theorem wh_Wf {st : Nat → Bool} {g : Nat} (h : st g = false) : wh_W st (g + 1) = wh_W st g := if_neg (by rw [h]; exact Bool.false_ne_true)
theorem wh_St {st : Nat → Bool} {g : Nat} (h : st g = true) : wh_S st (g + 1) = g := if_pos h
theorem wh_Sf {st : Nat → Bool} {g : Nat} (h : st g = false) : wh_S st (g + 1) = wh_S st g := if_neg (by rw [h]; exact Bool.false_ne_true)
theorem wh_At {st : Nat → Bool} {wd : Nat → Nat → Int32} {ix g : Nat} (h : wh_W st (g + 1) = ix + 1) : wh_A st wd ix (g + 1) = wd g (g + 1 - wh_S st (g + 1)) := if_pos h
theorem wh_Af {st : Nat → Bool} {wd : Nat → Nat → Int32} {ix g : Nat} (h : ¬ wh_W st (g + 1) = ix + 1) : wh_A st wd ix (g + 1) = wh_A st wd ix g := if_neg h
theorem wh_W1 (st : Nat → Bool) (g : Nat) : wh_W st g ≤ wh_W st (g + 1) := by
  cases h : st g
  · rw [wh_Wf h]; exact Nat.le_refl _
  · rw [wh_Wt h]; exact Nat.le_succ _
theorem wh_Wm (st : Nat → Bool) (g d : Nat) : wh_W st g ≤ wh_W st (g + d) := by
  induction d with
  | zero => exact Nat.le_refl _
  | succ d ih => exact Nat.le_trans ih (wh_W1 st (g + d))
theorem wh_Wle (st : Nat → Bool) (g : Nat) : wh_W st g ≤ g := by
  induction g with
  | zero => exact Nat.le_refl _
  | succ g ih =>
    cases h : st g
    · rw [wh_Wf h]; omega
    · rw [wh_Wt h]; omega
theorem wh_Sle (st : Nat → Bool) (g : Nat) : wh_S st g ≤ g := by
  induction g with
  | zero => exact Nat.le_refl _
  | succ g ih =>
    cases h : st g
    · rw [wh_Sf h]; omega
    · rw [wh_St h]; omega
theorem wh_Wp {st : Nat → Bool} (h : st 0 = true) (g : Nat) : 1 ≤ wh_W st (g + 1) := by
  have a : wh_W st (0 + 1) = wh_W st 0 + 1 := wh_Wt h
  have b := wh_Wm st (0 + 1) g
  rw [show 0 + 1 + g = g + 1 by omega] at b
  omega
theorem wh_none {st : Nat → Bool} {wd : Nat → Nat → Int32} {ix : Nat} (g : Nat) (h : wh_W st g ≤ ix) : wh_A st wd ix g = 0 := by
  induction g with
  | zero => rfl
  | succ g ih =>
    have hm := wh_W1 st g
    rw [wh_Af (show ¬ wh_W st (g + 1) = ix + 1 by omega)]
    exact ih (by omega)
theorem wh_run {st : Nat → Bool} {wd : Nat → Nat → Int32} {ix s e : Nat} (hs : st s = true) (hW : wh_W st s = ix) (hn : ∀ t, s < t → t < e → st t = false) (d : Nat) (hd : s + 1 + d ≤ e) : wh_W st (s + 1 + d) = ix + 1 ∧ wh_S st (s + 1 + d) = s ∧ wh_A st wd ix (s + 1 + d) = wd (s + d) (d + 1) := by
  induction d with
  | zero =>
    have a : wh_W st (s + 1) = ix + 1 := by rw [wh_Wt hs, hW]
    refine ⟨a, wh_St hs, ?_⟩
    show wh_A st wd ix (s + 1) = wd s 1
    rw [wh_At a, wh_St hs, show s + 1 - s = 1 by omega]
  | succ d ih =>
    obtain ⟨a, b, _⟩ := ih (by omega)
    have z : st (s + 1 + d) = false := hn _ (by omega) (by omega)
    have a' : wh_W st (s + 1 + d + 1) = ix + 1 := by rw [wh_Wf z, a]
    have b' : wh_S st (s + 1 + d + 1) = s := by rw [wh_Sf z, b]
    refine ⟨a', b', ?_⟩
    show wh_A st wd ix (s + 1 + d + 1) = wd (s + (d + 1)) (d + 1 + 1)
    rw [wh_At a', b', show s + 1 + d + 1 - s = d + 1 + 1 by omega, show s + 1 + d = s + (d + 1) by omega]
theorem wh_past {st : Nat → Bool} {wd : Nat → Nat → Int32} {ix e : Nat} (he : st e = true) (hW : wh_W st e = ix + 1) (d : Nat) : wh_A st wd ix (e + d) = wh_A st wd ix e := by
  induction d with
  | zero => rfl
  | succ d ih =>
    have h1 : wh_W st (e + 1) = ix + 1 + 1 := by rw [wh_Wt he, hW]
    have h2 := wh_Wm st (e + 1) d
    rw [show e + 1 + d = e + d + 1 by omega] at h2
    show wh_A st wd ix (e + d + 1) = _
    rw [wh_Af (show ¬ wh_W st (e + d + 1) = ix + 1 by omega), ih]
theorem wh_fin {st : Nat → Bool} {wd : Nat → Nat → Int32} {ix s e G : Nat} (hs : st s = true) (hW : wh_W st s = ix) (hse : s < e) (hn : ∀ t, s < t → t < e → st t = false) (heG : e ≤ G) (he : e = G ∨ st e = true) : wh_A st wd ix G = wd (e - 1) (e - s) := by
  obtain ⟨d, rfl⟩ : ∃ d, e = s + 1 + d := ⟨e - s - 1, by omega⟩
  obtain ⟨a, _, c⟩ := wh_run (wd := wd) hs hW hn d (Nat.le_refl _)
  have g : wh_A st wd ix G = wh_A st wd ix (s + 1 + d) := by
    rcases he with h | h
    · rw [h]
    · obtain ⟨m, rfl⟩ : ∃ m, G = s + 1 + d + m := ⟨G - (s + 1 + d), by omega⟩
      exact wh_past h a m
  rw [g, c, show s + 1 + d - 1 = s + d by omega, show s + 1 + d - s = d + 1 by omega]
/-! the kinds: a full group of zeros is 0, of ones 1, all else 2; v g is the group's value -/
def wh_k (v : Nat → Int32) (L g : Nat) : Int32 := if 31 * g + 31 ≤ L then (if v g = 0 then 0 else if v g = 2147483647 then 1 else 2) else 2
def wh_pk (v : Nat → Int32) (L : Nat) : Nat → Int32
  | 0 => -1
  | g + 1 => wh_k v L g
def wh_st (v : Nat → Int32) (L g : Nat) : Bool := decide (wh_k v L g = 2) || !decide (wh_k v L g = wh_pk v L g)
def wh_wd (v : Nat → Int32) (L g c : Nat) : Int32 := if wh_k v L g = 2 then v g else if wh_k v L g = 0 then (-2147483648) ||| nI c else (-1073741824) ||| nI c
theorem wh_k0 {v : Nat → Int32} {L g : Nat} (hf : 31 * g + 31 ≤ L) (h : v g = 0) : wh_k v L g = 0 := by
  unfold wh_k
  rw [if_pos hf, if_pos h]
theorem wh_k1 {v : Nat → Int32} {L g : Nat} (hf : 31 * g + 31 ≤ L) (h : v g = 2147483647) : wh_k v L g = 1 := by
  unfold wh_k
  rw [if_pos hf, if_neg (by rw [h]; decide), if_pos h]
theorem wh_k2 {v : Nat → Int32} {L g : Nat} (h0 : ¬ v g = 0) (h1 : ¬ v g = 2147483647) : wh_k v L g = 2 := by
  unfold wh_k
  by_cases hf : 31 * g + 31 ≤ L
  · rw [if_pos hf, if_neg h0, if_neg h1]
  · rw [if_neg hf]
theorem wh_kp {v : Nat → Int32} {L g : Nat} (hf : ¬ 31 * g + 31 ≤ L) : wh_k v L g = 2 := if_neg hf
theorem wh_k012 (v : Nat → Int32) (L g : Nat) : wh_k v L g = 0 ∨ wh_k v L g = 1 ∨ wh_k v L g = 2 := by
  by_cases hf : 31 * g + 31 ≤ L
  · by_cases h0 : v g = 0
    · exact Or.inl (wh_k0 hf h0)
    · by_cases h1 : v g = 2147483647
      · exact Or.inr (Or.inl (wh_k1 hf h1))
      · exact Or.inr (Or.inr (wh_k2 h0 h1))
  · exact Or.inr (Or.inr (wh_kp hf))
theorem wh_k0' {v : Nat → Int32} {L g : Nat} (h : wh_k v L g = 0) : v g = 0 := by
  by_cases hf : 31 * g + 31 ≤ L
  · by_cases h0 : v g = 0
    · exact h0
    · by_cases h1 : v g = 2147483647
      · rw [wh_k1 hf h1] at h; exact absurd h (by decide)
      · rw [wh_k2 h0 h1] at h; exact absurd h (by decide)
  · rw [wh_kp hf] at h; exact absurd h (by decide)
theorem wh_k1' {v : Nat → Int32} {L g : Nat} (h : wh_k v L g = 1) : v g = 2147483647 := by
  by_cases hf : 31 * g + 31 ≤ L
  · by_cases h0 : v g = 0
    · rw [wh_k0 hf h0] at h; exact absurd h (by decide)
    · by_cases h1 : v g = 2147483647
      · exact h1
      · rw [wh_k2 h0 h1] at h; exact absurd h (by decide)
  · rw [wh_kp hf] at h; exact absurd h (by decide)
theorem wh_st_t {v : Nat → Int32} {L g : Nat} (h : wh_k v L g = 2 ∨ ¬ wh_k v L g = wh_pk v L g) : wh_st v L g = true := by
  unfold wh_st
  rcases h with h | h
  · rw [decide_eq_true h]; rfl
  · rw [decide_eq_false h]; exact Bool.or_true _
theorem wh_st_f {v : Nat → Int32} {L g : Nat} (h2 : ¬ wh_k v L g = 2) (h : wh_k v L g = wh_pk v L g) : wh_st v L g = false := by
  unfold wh_st
  rw [decide_eq_false h2, decide_eq_true h]; rfl
theorem wh_st_i {v : Nat → Int32} {L g : Nat} (h : wh_st v L g = false) : ¬ wh_k v L g = 2 ∧ wh_k v L g = wh_pk v L g := by
  refine ⟨fun z => ?_, Classical.byContradiction fun z => ?_⟩
  · rw [wh_st_t (Or.inl z)] at h; exact absurd h (by decide)
  · rw [wh_st_t (Or.inr z)] at h; exact absurd h (by decide)
theorem wh_st0 (v : Nat → Int32) (L : Nat) : wh_st v L 0 = true := by
  apply wh_st_t
  right
  show ¬ wh_k v L 0 = -1
  rcases wh_k012 v L 0 with h | h | h <;> (rw [h]; decide)
theorem wh_sx {v : Nat → Int32} {L t : Nat} (hf : 31 * (t + 1) + 31 ≤ L) (h : v (t + 1) = 0 ∨ v (t + 1) = 2147483647) : (v (t + 1) = v t → wh_st v L (t + 1) = false) ∧ (¬ v (t + 1) = v t → wh_st v L (t + 1) = true) := by
  have hf' : 31 * t + 31 ≤ L := by omega
  rcases h with h | h
  · have k := wh_k0 hf h
    refine ⟨fun e => wh_st_f (by rw [k]; decide) ?_, fun e => wh_st_t (Or.inr ?_)⟩
    · show wh_k v L (t + 1) = wh_k v L t
      rw [k, wh_k0 hf' (e.symm.trans h)]
    · show ¬ wh_k v L (t + 1) = wh_k v L t
      rw [k]
      exact fun q => e (h.trans (wh_k0' q.symm).symm)
  · have k := wh_k1 hf h
    refine ⟨fun e => wh_st_f (by rw [k]; decide) ?_, fun e => wh_st_t (Or.inr ?_)⟩
    · show wh_k v L (t + 1) = wh_k v L t
      rw [k, wh_k1 hf' (e.symm.trans h)]
    · show ¬ wh_k v L (t + 1) = wh_k v L t
      rw [k]
      exact fun q => e (h.trans (wh_k1' q.symm).symm)
theorem wh_wd2 {v : Nat → Int32} {L g : Nat} (c : Nat) (h : wh_k v L g = 2) : wh_wd v L g c = v g := if_pos h
theorem wh_wd0 {v : Nat → Int32} {L g : Nat} (c : Nat) (h : wh_k v L g = 0) : wh_wd v L g c = (-2147483648) ||| nI c := by
  unfold wh_wd
  rw [if_neg (by rw [h]; decide), if_pos h]
theorem wh_wd1 {v : Nat → Int32} {L g : Nat} (c : Nat) (h : wh_k v L g = 1) : wh_wd v L g c = (-1073741824) ||| nI c := by
  unfold wh_wd
  rw [if_neg (by rw [h]; decide), if_neg (by rw [h]; decide)]
theorem wh_same {v : Nat → Int32} {L s : Nat} (d : Nat) (hn : ∀ t, s < t → t ≤ s + d → wh_st v L t = false) : wh_k v L (s + d) = wh_k v L s := by
  induction d with
  | zero => rfl
  | succ d ih =>
    have h := (wh_st_i (hn (s + d + 1) (by omega) (by omega))).2
    have h' : wh_k v L (s + d + 1) = wh_k v L (s + d) := h
    exact h'.trans (ih (fun t a b => hn t a (by omega)))
theorem wh_fin2 {v : Nat → Int32} {L ix s G : Nat} (hs : wh_st v L s = true) (hW : wh_W (wh_st v L) s = ix) (hG : s < G) (hk : wh_k v L s = 2) : wh_A (wh_st v L) (wh_wd v L) ix G = v s := by
  have he : s + 1 = G ∨ wh_st v L (s + 1) = true := by
    by_cases e : s + 1 = G
    · exact Or.inl e
    · refine Or.inr (wh_st_t ?_)
      by_cases q : wh_k v L (s + 1) = 2
      · exact Or.inl q
      · refine Or.inr ?_
        show ¬ wh_k v L (s + 1) = wh_k v L s
        rw [hk]
        exact q
  rw [wh_fin (e := s + 1) hs hW (Nat.lt_succ_self s) (fun t a b => absurd a (by omega)) hG he, Nat.add_sub_cancel, wh_wd2 _ hk]
theorem wh_fin0 {v : Nat → Int32} {L ix s e G : Nat} (hs : wh_st v L s = true) (hW : wh_W (wh_st v L) s = ix) (hse : s < e) (hn : ∀ t, s < t → t < e → wh_st v L t = false) (heG : e ≤ G) (he : e = G ∨ wh_st v L e = true) (hk : ¬ wh_k v L s = 2) : wh_A (wh_st v L) (wh_wd v L) ix G = wh_wd v L s (e - s) := by
  rw [wh_fin (e := e) hs hW hse hn heG he]
  have h : wh_k v L (e - 1) = wh_k v L s := by
    have := wh_same (v := v) (L := L) (s := s) (e - 1 - s) (fun t a b => hn t a (by omega))
    rw [show s + (e - 1 - s) = e - 1 by omega] at this
    exact this
  unfold wh_wd
  rw [h, if_neg hk, if_neg hk]
/-! the number of the last word, -1 before the first -/
def wh_w : Nat → Int32
  | 0 => -1
  | k + 1 => nI k
theorem wh_m1 {k : Nat} (h : k < 2 ^ 31) : ¬ (-1 : Int32) = nI k := fun z => nI_pos h (by rw [← z]; decide)
theorem wh_w1 (k : Nat) : wh_w k + 1 = nI k := by
  cases k with
  | zero => exact (by decide : (-1 : Int32) + 1 = Int32.ofNat 0)
  | succ k => exact nI_1 k
theorem wh_wi {W ix : Nat} (hW : W < 2 ^ 31) (hi : ix < 2 ^ 31) : wh_w W = nI ix ↔ W = ix + 1 := by
  cases W with
  | zero => exact ⟨fun z => absurd z (wh_m1 hi), fun z => by omega⟩
  | succ k =>
    show nI k = nI ix ↔ _
    rw [nI_eq (by omega) hi]
    omega
theorem wh_wn {W : Nat} (h1 : 1 ≤ W) (hW : W < 2 ^ 31) : ¬ wh_w W = -1 := by
  obtain ⟨k, rfl⟩ : ∃ k, W = k + 1 := ⟨W - 1, by omega⟩
  exact fun z => wh_m1 (k := k) (by omega) z.symm
/-! bits -/
def wh_z (b : Bool) : Int32 := if b = true then 1 else 0
theorem wh_zt : wh_z true = 1 := rfl
theorem wh_zf : wh_z false = 0 := rfl
theorem wh_z01 (b : Bool) : wh_z b = 0 ∨ wh_z b = 1 := by cases b <;> decide
theorem wh_z1 (b : Bool) : decide (wh_z b = 1) = b := by cases b <;> decide
theorem wh_b1 : ∀ i, i < 32 → bt 1 i = decide (i = 0) := by decide +kernel
theorem wh_mx : ∀ i, i < 32 → bt 2147483647 i = decide (i < 31) := by decide +kernel
theorem wh_mk : ∀ w, w < 31 → ∀ i, i < 32 → bt (((1 : Int32) <<< (nI w &&& 31)) - 1) i = decide (i < w) := by decide +kernel
theorem wh_one (k : Nat) (hk : k < 32) (i : Nat) (hi : i < 32) : bt ((1 : Int32) <<< (nI k &&& 31)) i = decide (i = k) := by
  rw [b_shl k hk 1 hi]
  rcases Nat.lt_or_ge i k with h | h
  · rw [decide_eq_false (show ¬ k ≤ i by omega), decide_eq_false (show ¬ i = k by omega), Bool.false_and]
  · rw [decide_eq_true h, Bool.true_and, wh_b1 (i - k) (by omega)]
    exact decide_eq_decide.mpr (by omega)
theorem wh_tst (x : Int32) (k : Nat) (hk : k < 32) : (x.toUInt32 >>> ((nI k).toUInt32 &&& Int32.toUInt32 31)).toInt32 &&& 1 = wh_z (bt x k) := by
  apply b_ext
  intro i hi
  rw [b_and, b_ushr k hk, wh_b1 i hi]
  by_cases h0 : i = 0
  · subst h0
    rw [decide_eq_true (rfl : (0 : Nat) = 0), Bool.and_true, Nat.add_zero]
    cases h : bt x k
    · exact (b_0 0).symm
    · exact (wh_b1 0 (by decide)).symm
  · rw [decide_eq_false h0, Bool.and_false]
    cases h : bt x k
    · exact (b_0 i).symm
    · show false = bt 1 i
      rw [wh_b1 i hi, decide_eq_false h0]
