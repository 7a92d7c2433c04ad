/-! the state. c: capacity; m: values; n: rows; L: the registers' lengths; gb: groups; rl: lengths kept; va: rows' values; re: registers' bits -/
def wh_B (n : Nat) (L : Nat → Nat) (va re : Nat → Int32) (id r : Nat) : Bool := if id < 8 then decide (r < n) && decide (va r = nI id) else decide (r < L (id - 8)) && decide (re ((id - 8) * 496 + r) = 1)
def wh_Len (n : Nat) (L : Nat → Nat) (id : Nat) : Nat := if id < 8 then n else L (id - 8)
def wh_ok (m id : Nat) : Prop := id < m ∨ (8 ≤ id ∧ id < 12)
def wh_N (c m n : Nat) (L : Nat → Nat) (rl : Nat → Int32) : Prop := 1 ≤ m ∧ m ≤ 8 ∧ n ≤ c ∧ c ≤ 496 ∧ ∀ j, j < 4 → rl j = nI (L j) ∧ L j ≤ c
def wh_Va (m n : Nat) (va : Nat → Int32) : Prop := ∀ r, r < n → va r = -1 ∨ ∃ v, v < m ∧ va r = nI v
def wh_Re (re : Nat → Int32) : Prop := ∀ k, re k = 0 ∨ re k = 1
def wh_Gb (m n : Nat) (L : Nat → Nat) (gb va re : Nat → Int32) : Prop := ∀ id, wh_ok m id → ∀ g, g < 16 → bt (gb (id * 16 + g)) 31 = false ∧ ∀ i, i < 31 → bt (gb (id * 16 + g)) i = wh_B n L va re id (31 * g + i)
def wh_R (c m n : Nat) (L : Nat → Nat) (gb rl va re : Nat → Int32) : Prop := wh_N c m n L rl ∧ wh_Va m n va ∧ wh_Re re ∧ wh_Gb m n L gb va re
theorem wh_Bv {n : Nat} {L : Nat → Nat} {va re : Nat → Int32} {id r : Nat} (h : id < 8) : wh_B n L va re id r = (decide (r < n) && decide (va r = nI id)) := if_pos h
theorem wh_Br {n : Nat} {L : Nat → Nat} {va re : Nat → Int32} {id r : Nat} (h : 8 ≤ id) : wh_B n L va re id r = (decide (r < L (id - 8)) && decide (re ((id - 8) * 496 + r) = 1)) := if_neg (by omega)
theorem wh_Lv {n : Nat} {L : Nat → Nat} {id : Nat} (h : id < 8) : wh_Len n L id = n := if_pos h
theorem wh_Lr {n : Nat} {L : Nat → Nat} {id : Nat} (h : 8 ≤ id) : wh_Len n L id = L (id - 8) := if_neg (by omega)
theorem wh_ok12 {m id : Nat} (hm : m ≤ 8) (h : wh_ok m id) : id < 12 := by
  unfold wh_ok at h
  omega
theorem wh_Lle {c m n : Nat} {L : Nat → Nat} {rl : Nat → Int32} {id : Nat} (h : wh_N c m n L rl) (hi : wh_ok m id) : wh_Len n L id ≤ 496 := by
  obtain ⟨h1, h2, h3, h4, h5⟩ := h
  have h12 := wh_ok12 h2 hi
  rcases Nat.lt_or_ge id 8 with h8 | h8
  · rw [wh_Lv h8]; omega
  · rw [wh_Lr h8]
    have := (h5 (id - 8) (by omega)).2
    omega
theorem wh_Bge {n : Nat} {L : Nat → Nat} {va re : Nat → Int32} {id r : Nat} (h : wh_Len n L id ≤ r) : wh_B n L va re id r = false := by
  rcases Nat.lt_or_ge id 8 with h8 | h8
  · rw [wh_Lv h8] at h
    rw [wh_Bv h8, decide_eq_false (show ¬ r < n by omega), Bool.false_and]
  · rw [wh_Lr h8] at h
    rw [wh_Br h8, decide_eq_false (show ¬ r < L (id - 8) by omega), Bool.false_and]
theorem wh_rd {m n : Nat} {L : Nat → Nat} {gb va re : Nat → Int32} {id r : Nat} (h : wh_Gb m n L gb va re) (hi : wh_ok m id) (hr : r < 496) : bt (gb (id * 16 + r / 31)) (r % 31) = wh_B n L va re id r := by
  have q := (h id hi (r / 31) (by omega)).2 (r % 31) (Nat.mod_lt _ (by decide))
  rw [Nat.div_add_mod] at q
  exact q
/-! the ids -/
theorem wh_dec (m : Nat) (id : Int32) : (∃ i, id = nI i ∧ wh_ok m i) ∨ id < 0 ∨ ∃ j, j < 2 ^ 31 ∧ id = nI j ∧ m ≤ j ∧ ¬ (8 ≤ j ∧ j < 12) := by
  by_cases h : id < 0
  · exact Or.inr (Or.inl h)
  · obtain ⟨j, hj, rfl⟩ := nI_of h
    by_cases q : j < m ∨ (8 ≤ j ∧ j < 12)
    · exact Or.inl ⟨j, rfl, q⟩
    · exact Or.inr (Or.inr ⟨j, hj, rfl, by omega, by omega⟩)
theorem wh_decR (id : Int32) : (∃ i, id = nI i ∧ 8 ≤ i ∧ i < 12) ∨ id < 8 ∨ 12 ≤ id := by
  by_cases h : id < 0
  · exact Or.inr (Or.inl (Int32.lt_trans h (by decide)))
  · obtain ⟨j, hj, rfl⟩ := nI_of h
    by_cases q : 8 ≤ j ∧ j < 12
    · exact Or.inl ⟨j, rfl, q⟩
    · by_cases w : j < 8
      · exact Or.inr (Or.inl (nI_lt (b := 8) w (by decide)))
      · exact Or.inr (Or.inr (nI_le (a := 12) (by omega) hj))
/-! rows appended -/
theorem wh_app {m t : Nat} {L : Nat → Nat} {gb va re : Nat → Int32} {v : Nat} (h : wh_Gb m t L gb va re) (hv : v < m) (hm : m ≤ 8) (ht : t < 496) (e : va t = nI v) : wh_Gb m (t + 1) L (upd gb (v * 16 + t / 31) (gb (v * 16 + t / 31) ||| ((1 : Int32) <<< (nI (t % 31) &&& 31)))) va re := by
  intro id hid g hg
  obtain ⟨h1, h2⟩ := h id hid g hg
  have hlt : t % 31 < 31 := Nat.mod_lt _ (by decide)
  by_cases q : id * 16 + g = v * 16 + t / 31
  · have hq : id = v ∧ g = t / 31 := by omega
    obtain ⟨hq1, hq2⟩ := hq
    have h8 : id < 8 := by omega
    subst hq1
    subst hq2
    rw [pk_us]
    refine ⟨?_, fun i hi => ?_⟩
    · rw [b_or, h1, wh_one (t % 31) (by omega) 31 (by decide), decide_eq_false (show ¬ 31 = t % 31 by omega)]
      rfl
    · rw [b_or, h2 i hi, wh_one (t % 31) (by omega) i (by omega), wh_Bv h8, wh_Bv h8]
      by_cases z : i = t % 31
      · have hz : 31 * (t / 31) + i = t := by omega
        rw [hz, e, decide_eq_true z]
        simp
      · rw [decide_eq_false z, Bool.or_false, decide_eq_decide.mpr (show 31 * (t / 31) + i < t ↔ 31 * (t / 31) + i < t + 1 by omega)]
  · rw [pk_un q]
    refine ⟨h1, fun i hi => ?_⟩
    rw [h2 i hi]
    rcases Nat.lt_or_ge id 8 with h8 | h8
    · rw [wh_Bv h8, wh_Bv h8]
      by_cases z : 31 * g + i = t
      · have hne : ¬ va (31 * g + i) = nI id := by
          rw [z, e, nI_eq (by omega) (by omega)]
          intro w
          exact q (by omega)
        rw [decide_eq_false hne, Bool.and_false, Bool.and_false]
      · rw [decide_eq_decide.mpr (show 31 * g + i < t ↔ 31 * g + i < t + 1 by omega)]
    · rw [wh_Br h8, wh_Br h8]
theorem wh_appN {m n n' : Nat} {L : Nat → Nat} {gb va re : Nat → Int32} (h : wh_Gb m n L gb va re) (hm : m ≤ 8) (hn : n ≤ n') (e : ∀ r, n ≤ r → r < n' → va r = -1) : wh_Gb m n' L gb va re := by
  intro id hid g hg
  obtain ⟨h1, h2⟩ := h id hid g hg
  refine ⟨h1, fun i hi => ?_⟩
  rw [h2 i hi]
  rcases Nat.lt_or_ge id 8 with h8 | h8
  · rw [wh_Bv h8, wh_Bv h8]
    by_cases a : 31 * g + i < n
    · rw [decide_eq_true a, decide_eq_true (show 31 * g + i < n' by omega)]
    · by_cases b : 31 * g + i < n'
      · rw [e (31 * g + i) (by omega) b, decide_eq_false (wh_m1 (k := id) (by omega)), Bool.and_false, Bool.and_false]
      · rw [decide_eq_false a, decide_eq_false b]
  · rw [wh_Br h8, wh_Br h8]
theorem wh_vaE {m n : Nat} {L : Nat → Nat} {gb va va' re : Nat → Int32} (h : wh_Gb m n L gb va re) (e : ∀ r, r < n → va' r = va r) : wh_Gb m n L gb va' re := by
  intro id hid g hg
  obtain ⟨h1, h2⟩ := h id hid g hg
  refine ⟨h1, fun i hi => ?_⟩
  rw [h2 i hi]
  rcases Nat.lt_or_ge id 8 with h8 | h8
  · rw [wh_Bv h8, wh_Bv h8]
    by_cases a : 31 * g + i < n
    · rw [e (31 * g + i) a]
    · rw [decide_eq_false a, Bool.false_and, Bool.false_and]
  · rw [wh_Br h8, wh_Br h8]
/-! a stretch of an array written anew -/
def wh_seg (f : Nat → Int32) (b k : Nat) (F : Nat → Int32) : Nat → Int32 := fun j => if b ≤ j ∧ j < b + k then F (j - b) else f j
theorem wh_segI {f F : Nat → Int32} {b k i : Nat} (h : i < k) : wh_seg f b k F (b + i) = F i := by
  show (if b ≤ b + i ∧ b + i < b + k then F (b + i - b) else f (b + i)) = F i
  rw [if_pos ⟨by omega, by omega⟩, Nat.add_sub_cancel_left]
theorem wh_segO {f F : Nat → Int32} {b k j : Nat} (h : ¬ (b ≤ j ∧ j < b + k)) : wh_seg f b k F j = f j := if_neg h
theorem wh_seg0 (f F : Nat → Int32) (b : Nat) : wh_seg f b 0 F = f := funext fun j => wh_segO (show ¬ (b ≤ j ∧ j < b + 0) by omega)
theorem wh_segS (f F : Nat → Int32) (b k : Nat) : upd (wh_seg f b k F) (b + k) (F k) = wh_seg f b (k + 1) F := by
  funext j
  by_cases e : j = b + k
  · subst e
    rw [pk_us, wh_segI (Nat.lt_succ_self k)]
  · rw [pk_un e]
    by_cases h : b ≤ j ∧ j < b + k
    · obtain ⟨i, rfl⟩ : ∃ i, j = b + i := ⟨j - b, by omega⟩
      rw [wh_segI (show i < k by omega), wh_segI (show i < k + 1 by omega)]
    · rw [wh_segO h, wh_segO (show ¬ (b ≤ j ∧ j < b + (k + 1)) by omega)]
theorem wh_segR {f F : Nat → Int32} (b k : Nat) (h : wh_Re f) (hF : ∀ i, F i = 0 ∨ F i = 1) : wh_Re (wh_seg f b k F) := by
  intro j
  by_cases e : b ≤ j ∧ j < b + k
  · obtain ⟨i, rfl⟩ : ∃ i, j = b + i := ⟨j - b, by omega⟩
    rw [wh_segI (show i < k by omega)]
    exact hF i
  · rw [wh_segO e]
    exact h j
def wh_uN (L : Nat → Nat) (k x : Nat) : Nat → Nat := fun j => if j = k then x else L j
theorem wh_uNs {L : Nat → Nat} {k x : Nat} : wh_uN L k x k = x := if_pos rfl
theorem wh_uNn {L : Nat → Nat} {k x j : Nat} (h : ¬ j = k) : wh_uN L k x j = L j := if_neg h
theorem wh_put {m n d l : Nat} {L : Nat → Nat} {gb va re re' F : Nat → Int32} (h : wh_Gb m n L gb va re) (hm : m ≤ 8) (hd : 8 ≤ d) (hd2 : d < 12) (hL : ∀ j, j < 4 → L j ≤ 496) (hre : ∀ k, ¬ ((d - 8) * 496 ≤ k ∧ k < (d - 8) * 496 + 496) → re' k = re k) (hF : ∀ g, g < 16 → bt (F g) 31 = false ∧ ∀ i, i < 31 → bt (F g) i = (decide (31 * g + i < l) && decide (re' ((d - 8) * 496 + (31 * g + i)) = 1))) : wh_Gb m n (wh_uN L (d - 8) l) (wh_seg gb (d * 16) 16 F) va re' := by
  intro id hid g hg
  by_cases e : id = d
  · subst e
    rw [wh_segI hg]
    refine ⟨(hF g hg).1, fun i hi => ?_⟩
    rw [(hF g hg).2 i hi, wh_Br hd, wh_uNs]
  · have ho : ¬ (d * 16 ≤ id * 16 + g ∧ id * 16 + g < d * 16 + 16) := by omega
    rw [wh_segO ho]
    obtain ⟨h1, h2⟩ := h id hid g hg
    refine ⟨h1, fun i hi => ?_⟩
    rw [h2 i hi]
    have h12 := wh_ok12 hm hid
    rcases Nat.lt_or_ge id 8 with h8 | h8
    · rw [wh_Bv h8, wh_Bv h8]
    · rw [wh_Br h8, wh_Br h8, wh_uNn (show ¬ id - 8 = d - 8 by omega)]
      by_cases a : 31 * g + i < L (id - 8)
      · have hl := hL (id - 8) (by omega)
        have hz := hre ((id - 8) * 496 + (31 * g + i)) (by omega)
        rw [hz]
      · rw [decide_eq_false a, Bool.false_and, Bool.false_and]
theorem wh_Nput {c m n d l : Nat} {L : Nat → Nat} {rl : Nat → Int32} (h : wh_N c m n L rl) (hl : l ≤ c) : wh_N c m n (wh_uN L d l) (upd rl d (nI l)) := by
  obtain ⟨h1, h2, h3, h4, h5⟩ := h
  refine ⟨h1, h2, h3, h4, fun j hj => ?_⟩
  by_cases e : j = d
  · subst e
    rw [pk_us, wh_uNs]
    exact ⟨rfl, hl⟩
  · rw [pk_un e, wh_uNn e]
    exact h5 j hj
/-! a range selected -/
def wh_sl (lo hi x : Int32) : Bool := !decide (x = -1) && (decide (lo ≤ x) && decide (x ≤ hi))
def wh_sg (gb : Nat → Int32) (g : Nat) (lo hi : Int32) : Nat → Int32
  | 0 => 0
  | v + 1 => if lo ≤ nI v ∧ nI v ≤ hi then wh_sg gb g lo hi v ||| gb (v * 16 + g) else wh_sg gb g lo hi v
theorem wh_sgt {gb : Nat → Int32} {g : Nat} {lo hi : Int32} {v : Nat} (h : lo ≤ nI v ∧ nI v ≤ hi) : wh_sg gb g lo hi (v + 1) = wh_sg gb g lo hi v ||| gb (v * 16 + g) := if_pos h
theorem wh_sgf {gb : Nat → Int32} {g : Nat} {lo hi : Int32} {v : Nat} (h : ¬ (lo ≤ nI v ∧ nI v ≤ hi)) : wh_sg gb g lo hi (v + 1) = wh_sg gb g lo hi v := if_neg h
theorem wh_sgB {m n : Nat} {L : Nat → Nat} {gb va re : Nat → Int32} (h : wh_Gb m n L gb va re) (hm : m ≤ 8) {g : Nat} (hg : g < 16) (lo hi : Int32) : ∀ k, k ≤ m → bt (wh_sg gb g lo hi k) 31 = false ∧ ∀ i, i < 31 → (bt (wh_sg gb g lo hi k) i = true ↔ ∃ v, v < k ∧ lo ≤ nI v ∧ nI v ≤ hi ∧ 31 * g + i < n ∧ va (31 * g + i) = nI v) := by
  intro k
  induction k with
  | zero =>
    intro _
    refine ⟨b_0 31, fun i _ => ⟨fun z => ?_, fun z => ?_⟩⟩
    · rw [show wh_sg gb g lo hi 0 = 0 from rfl, b_0] at z
      exact absurd z (by decide)
    · obtain ⟨v, hv, _⟩ := z
      exact absurd hv (Nat.not_lt_zero v)
  | succ k ih =>
    intro hk
    obtain ⟨i1, i2⟩ := ih (by omega)
    by_cases c : lo ≤ nI k ∧ nI k ≤ hi
    · obtain ⟨a1, a2⟩ := h k (Or.inl (by omega)) g hg
      have h8 : k < 8 := by omega
      rw [wh_sgt c]
      refine ⟨by rw [b_or, i1, a1]; rfl, fun i hi' => ?_⟩
      rw [b_or, Bool.or_eq_true, i2 i hi', a2 i hi', wh_Bv h8, Bool.and_eq_true, decide_eq_true_eq, decide_eq_true_eq]
      constructor
      · rintro (⟨v, hv, q⟩ | q)
        · exact ⟨v, by omega, q⟩
        · exact ⟨k, by omega, c.1, c.2, q.1, q.2⟩
      · rintro ⟨v, hv, q1, q2, q3, q4⟩
        by_cases e : v = k
        · subst e
          exact Or.inr ⟨q3, q4⟩
        · exact Or.inl ⟨v, by omega, q1, q2, q3, q4⟩
    · rw [wh_sgf c]
      refine ⟨i1, fun i hi' => ?_⟩
      rw [i2 i hi']
      constructor
      · rintro ⟨v, hv, q⟩
        exact ⟨v, by omega, q⟩
      · rintro ⟨v, hv, q1, q2, q3⟩
        by_cases e : v = k
        · subst e
          exact absurd ⟨q1, q2⟩ c
        · exact ⟨v, by omega, q1, q2, q3⟩
theorem wh_sgF {m n : Nat} {L : Nat → Nat} {gb va re : Nat → Int32} (h : wh_Gb m n L gb va re) (hv : wh_Va m n va) (hm : m ≤ 8) {g : Nat} (hg : g < 16) (lo hi : Int32) {i : Nat} (hi' : i < 31) : bt (wh_sg gb g lo hi m) i = (decide (31 * g + i < n) && wh_sl lo hi (va (31 * g + i))) := by
  apply Bool.eq_iff_iff.mpr
  rw [(wh_sgB h hm hg lo hi m (Nat.le_refl m)).2 i hi']
  unfold wh_sl
  simp only [Bool.and_eq_true, decide_eq_true_eq, Bool.not_eq_true', decide_eq_false_iff_not]
  constructor
  · rintro ⟨v, hvm, a, b, c, d⟩
    rw [d]
    exact ⟨c, fun z => wh_m1 (k := v) (by omega) z.symm, a, b⟩
  · rintro ⟨c, d, a, b⟩
    rcases hv _ c with q | ⟨v, hvm, q⟩
    · exact absurd q d
    · rw [q] at a b
      exact ⟨v, hvm, a, b, c, q⟩
theorem wh_sgE {gb gb' : Nat → Int32} {g : Nat} {lo hi : Int32} : ∀ k, (∀ v, v < k → gb' (v * 16 + g) = gb (v * 16 + g)) → wh_sg gb' g lo hi k = wh_sg gb g lo hi k := by
  intro k
  induction k with
  | zero => intro _; rfl
  | succ k ih =>
    intro e
    have q := ih (fun v hv => e v (by omega))
    by_cases c : lo ≤ nI k ∧ nI k ≤ hi
    · rw [wh_sgt c, wh_sgt c, q, e k (by omega)]
    · rw [wh_sgf c, wh_sgf c, q]
/-! two bitmaps combined -/
def wh_op (o : Nat) (x y : Bool) : Bool := if o = 1 then x && y else if o = 2 then x || y else if o = 3 then x && !y else if o = 4 then x ^^ y else if o = 5 then !x else x
def wh_oI (o : Nat) (x y : Int32) : Int32 := if o = 1 then x &&& y else if o = 2 then x ||| y else if o = 3 then x &&& (y ^^^ (-1)) else if o = 4 then x ^^^ y else if o = 5 then x ^^^ (-1) else x
theorem wh_oB (o : Nat) (x y : Int32) (i : Nat) (hi : i < 32) : bt (wh_oI o x y) i = wh_op o (bt x i) (bt y i) := by
  unfold wh_oI wh_op
  by_cases h1 : o = 1
  · rw [if_pos h1, if_pos h1, b_and]
  rw [if_neg h1, if_neg h1]
  by_cases h2 : o = 2
  · rw [if_pos h2, if_pos h2, b_or]
  rw [if_neg h2, if_neg h2]
  by_cases h3 : o = 3
  · rw [if_pos h3, if_pos h3, b_and, b_xor, b_m1 i hi, Bool.xor_true]
  rw [if_neg h3, if_neg h3]
  by_cases h4 : o = 4
  · rw [if_pos h4, if_pos h4, b_xor]
  rw [if_neg h4, if_neg h4]
  by_cases h5 : o = 5
  · rw [if_pos h5, if_pos h5, b_xor, b_m1 i hi, Bool.xor_true]
  rw [if_neg h5, if_neg h5]
theorem wh_op5 {o : Nat} (h : 5 ≤ o) (x y y' : Bool) : wh_op o x y = wh_op o x y' := by
  unfold wh_op
  rw [if_neg (show ¬ o = 1 by omega), if_neg (show ¬ o = 2 by omega), if_neg (show ¬ o = 3 by omega), if_neg (show ¬ o = 4 by omega), if_neg (show ¬ o = 1 by omega), if_neg (show ¬ o = 2 by omega), if_neg (show ¬ o = 3 by omega), if_neg (show ¬ o = 4 by omega)]
def wh_ma (l g : Nat) : Int32 := if l ≤ 31 * g then 0 else if 31 * g + 31 ≤ l then 2147483647 else ((1 : Int32) <<< (nI (l - 31 * g) &&& 31)) - 1
theorem wh_maB (l g i : Nat) (hi : i < 32) : bt (wh_ma l g) i = (decide (i < 31) && decide (31 * g + i < l)) := by
  unfold wh_ma
  by_cases h1 : l ≤ 31 * g
  · rw [if_pos h1, b_0, decide_eq_false (show ¬ 31 * g + i < l by omega), Bool.and_false]
  rw [if_neg h1]
  by_cases h2 : 31 * g + 31 ≤ l
  · rw [if_pos h2, wh_mx i hi]
    by_cases h3 : i < 31
    · rw [decide_eq_true h3, decide_eq_true (show 31 * g + i < l by omega)]; rfl
    · rw [decide_eq_false h3]; rfl
  rw [if_neg h2, wh_mk (l - 31 * g) (by omega) i hi]
  by_cases h3 : i < l - 31 * g
  · rw [decide_eq_true h3, decide_eq_true (show i < 31 by omega), decide_eq_true (show 31 * g + i < l by omega)]; rfl
  · rw [decide_eq_false h3, decide_eq_false (show ¬ 31 * g + i < l by omega), Bool.and_false]
theorem wh_comb {m n d l o a b : Nat} {L : Nat → Nat} {gb va re re' : Nat → Int32} (h : wh_Gb m n L gb va re) (ha : wh_ok m a) (hb : wh_ok m b) (hre : ∀ r, r < l → re' ((d - 8) * 496 + r) = wh_z (wh_op o (wh_B n L va re a r) (wh_B n L va re b r))) {g : Nat} (hg : g < 16) : bt (wh_oI o (gb (a * 16 + g)) (gb (b * 16 + g)) &&& wh_ma l g) 31 = false ∧ ∀ i, i < 31 → bt (wh_oI o (gb (a * 16 + g)) (gb (b * 16 + g)) &&& wh_ma l g) i = (decide (31 * g + i < l) && decide (re' ((d - 8) * 496 + (31 * g + i)) = 1)) := by
  refine ⟨?_, fun i hi => ?_⟩
  · rw [b_and, wh_maB l g 31 (by decide), decide_eq_false (show ¬ 31 < 31 by omega), Bool.false_and, Bool.and_false]
  · rw [b_and, wh_maB l g i (by omega), decide_eq_true hi, Bool.true_and, wh_oB o _ _ i (by omega), (h a ha g hg).2 i hi, (h b hb g hg).2 i hi]
    by_cases q : 31 * g + i < l
    · rw [decide_eq_true q, Bool.and_true, Bool.true_and, hre _ q, wh_z1]
    · rw [decide_eq_false q, Bool.and_false, Bool.false_and]
