section
/-! rows pasted from the rows given for pasting: numbers, branches, bits -/
theorem pk_us {f : Nat → Int32} {k : Nat} {x : Int32} : upd f k x k = x := if_pos rfl
theorem pk_un {f : Nat → Int32} {k j : Nat} {x : Int32} (h : j ≠ k) : upd f k x j = f j := if_neg h
theorem pk_sub {a b : Nat} (h : b ≤ a) : nI a - nI b = nI (a - b) := by
  obtain ⟨c, rfl⟩ : ∃ c, a = c + b := ⟨a - b, by omega⟩
  rw [← nI_add, Int32.add_sub_cancel, Nat.add_sub_cancel]
theorem pk_m1 (n : Nat) : nI (n + 1) + (-1) = nI n := by
  rw [← nI_1, Int32.add_assoc, show (1 : Int32) + (-1) = 0 from rfl, Int32.add_zero]
theorem pk_mul (a b : Nat) : nI a * nI b = nI (a * b) := (Int32.ofNat_mul a b).symm
theorem pk_div {a d : Nat} (ha : a < 2 ^ 31) (h0 : 0 < d) (hd : d < 2 ^ 31) : nI a / nI d = nI (a / d) := by
  apply Int32.toInt_inj.mp
  rw [lg_idiv_nonneg (by rw [nI_toInt ha]; omega) (by rw [nI_toInt hd]; omega), nI_toInt ha, nI_toInt hd, nI_toInt (Nat.lt_of_le_of_lt (Nat.div_le_self a d) ha)]
  first | rfl | exact (Int.natCast_ediv _ _).symm
theorem pk_rem {a d : Nat} (ha : a < 2 ^ 31) (h0 : 0 < d) (hd : d < 2 ^ 31) : nI a - nI a / nI d * nI d = nI (a % d) := by
  rw [pk_div ha h0 hd, pk_mul, pk_sub (Nat.div_mul_le_self a d)]
  exact congrArg nI (by have := Nat.div_add_mod' a d; omega)
theorem pk_sub_toInt {a b : Nat} (ha : a < 2 ^ 30) (hb : b < 2 ^ 30) : (nI a - nI b).toInt = (a : Int) - b := by
  rw [Int32.toInt_sub, nI_toInt (by omega), nI_toInt (by omega)]
  exact Int.bmod_eq_of_le (by omega) (by omega)
theorem pk_sneg {a b : Nat} (hb : b < 2 ^ 30) (h : a < b) : nI a - nI b < 0 := by
  rw [Int32.lt_iff_toInt_lt, pk_sub_toInt (by omega) hb, show (0 : Int32).toInt = 0 from by decide]
  omega
theorem pk_ix (x : Int32) {n : Nat} (hn : n < 2 ^ 31) : x < 0 ∨ nI n ≤ x ∨ ∃ j : Nat, j < n ∧ x = nI j := by
  by_cases h : x < 0
  · exact Or.inl h
  · obtain ⟨j, hj, rfl⟩ := nI_of h
    by_cases h2 : j < n
    · exact Or.inr (Or.inr ⟨j, h2, rfl⟩)
    · exact Or.inr (Or.inl (nI_le (by omega) hj))
theorem pk_le {x y : Int32} {A B : Prop} (a b : Nat) (f : a ≤ b → A) (g : b < a → B) (hx : x = nI a := by rfl) (hy : y = nI b := by rfl) (ha : a < 2 ^ 31 := by omega) (hb : b < 2 ^ 31 := by omega) : (x ≤ y → A) ∧ (¬ x ≤ y → B) := by
  subst hx hy
  rw [nI_leI ha hb]
  exact ⟨f, fun z => g (by omega)⟩
theorem pk_lt {x y : Int32} {A B : Prop} (a b : Nat) (f : a < b → A) (g : b ≤ a → B) (hx : x = nI a := by rfl) (hy : y = nI b := by rfl) (ha : a < 2 ^ 31 := by omega) (hb : b < 2 ^ 31 := by omega) : (x < y → A) ∧ (¬ x < y → B) := by
  subst hx hy
  rw [nI_ltI ha hb]
  exact ⟨f, fun z => g (by omega)⟩
theorem pk_eq {x y : Int32} {A B : Prop} (a b : Nat) (f : a = b → A) (g : a ≠ b → B) (hx : x = nI a := by rfl) (hy : y = nI b := by rfl) (ha : a < 2 ^ 31 := by omega) (hb : b < 2 ^ 31 := by omega) : (x = y → A) ∧ (¬ x = y → B) := by
  subst hx hy
  rw [nI_eq ha hb]
  exact ⟨f, g⟩
theorem pk_in {x : Int32} (n N : Nat) (h : n < N) (hx : x = nI n := by rfl) (hN : N < 2 ^ 31 := by omega) : vp_in x N := by
  subst hx
  exact vp_in_nI h hN
theorem pk_cl {x : Int32} (n : Nat) (hx : x = nI n := by rfl) (h : n < 2 ^ 31 := by omega) : x.toNatClampNeg = n := by
  subst hx
  exact nI_clamp h
theorem ek_if {c d A B : Prop} (e : c ↔ d) (f : d → A) (g : ¬ d → B) : (c → A) ∧ (¬ c → B) :=
  ⟨fun z => f (e.mp z), fun z => g (fun y => z (e.mpr y))⟩
theorem pk_loop {σ : Type} (W : Nat → Nat → σ → Prop) (I : Nat → σ → Prop) (e i0 : Nat) (s : σ) (hi : i0 ≤ e) (h0 : I i0 s) (hx : ∀ n s, I e s → W (n + 1) e s)
    (hs : ∀ n i s, i < e → I i s → (∀ s', I (i + 1) s' → W n (i + 1) s') → W (n + 1) i s) : ∃ n, W n i0 s :=
  ⟨e + 1, loop_i W I e hx hs (e + 1) i0 s hi (by omega) h0⟩
/-! ===== Int32 by its bits: bt x i ===== -/
def bt (x : Int32) (i : Nat) : Bool := x.toBitVec.getLsbD i
theorem b_ext {x y : Int32} (h : ∀ i, i < 32 → bt x i = bt y i) : x = y := Int32.toBitVec_inj.mp (BitVec.eq_of_getLsbD_eq (fun i hi => h i hi))
theorem b_or (x y : Int32) (i : Nat) : bt (x ||| y) i = (bt x i || bt y i) := by unfold bt; rw [Int32.toBitVec_or, BitVec.getLsbD_or]
theorem b_and (x y : Int32) (i : Nat) : bt (x &&& y) i = (bt x i && bt y i) := by unfold bt; rw [Int32.toBitVec_and, BitVec.getLsbD_and]
theorem b_xor (x y : Int32) (i : Nat) : bt (x ^^^ y) i = (bt x i ^^ bt y i) := by unfold bt; rw [Int32.toBitVec_xor, BitVec.getLsbD_xor]
theorem b_big {x : Int32} {i : Nat} (h : 32 ≤ i) : bt x i = false := BitVec.getLsbD_of_ge _ _ h
theorem b_255 (i : Nat) : bt 255 i = decide (i < 8) := by
  rcases Nat.lt_or_ge i 32 with h | h
  · exact (by decide +kernel : ∀ i, i < 32 → bt 255 i = decide (i < 8)) i h
  · rw [b_big h, decide_eq_false (by omega)]
theorem b_65535 (i : Nat) : bt 65535 i = decide (i < 16) := by
  rcases Nat.lt_or_ge i 32 with h | h
  · exact (by decide +kernel : ∀ i, i < 32 → bt 65535 i = decide (i < 16)) i h
  · rw [b_big h, decide_eq_false (by omega)]
theorem b_m1 : ∀ i, i < 32 → bt (-1) i = true := by decide +kernel
theorem b_0 (i : Nat) : bt 0 i = false := BitVec.getLsbD_zero
theorem s_l : ∀ n, n < 32 → ((nI n &&& 31).toBitVec.smod 32).toNat = n := by decide +kernel
theorem s_u : ∀ n, n < 32 → (((nI n).toUInt32 &&& Int32.toUInt32 31).toBitVec % 32).toNat = n := by decide +kernel
theorem b_shl (n : Nat) (hn : n < 32) (x : Int32) {i : Nat} (hi : i < 32) : bt (x <<< (nI n &&& 31)) i = (decide (n ≤ i) && bt x (i - n)) := by
  unfold bt
  rw [Int32.toBitVec_shiftLeft]
  show (x.toBitVec <<< ((nI n &&& 31).toBitVec.smod 32).toNat).getLsbD i = _
  rw [s_l n hn, BitVec.getLsbD_shiftLeft]
  rcases Nat.lt_or_ge i n with h | h
  · simp [h, Nat.not_le.mpr h]
  · simp [hi, h, Nat.not_lt.mpr h]
theorem b_ushr (n : Nat) (hn : n < 32) (x : Int32) (i : Nat) : bt ((x.toUInt32 >>> ((nI n).toUInt32 &&& Int32.toUInt32 31)).toInt32) i = bt x (n + i) := by
  show (x.toUInt32 >>> ((nI n).toUInt32 &&& Int32.toUInt32 31)).toBitVec.getLsbD i = x.toUInt32.toBitVec.getLsbD (n + i)
  rw [UInt32.toBitVec_shiftRight]
  show (x.toUInt32.toBitVec >>> (((nI n).toUInt32 &&& Int32.toUInt32 31).toBitVec % 32).toNat).getLsbD i = _
  rw [s_u n hn, BitVec.getLsbD_ushiftRight]
theorem b_sshr (n : Nat) (hn : n < 32) (x : Int32) {i : Nat} (hi : i < 32) : bt (x >>> (nI n &&& 31)) i = if n + i < 32 then bt x (n + i) else bt x 31 := by
  unfold bt
  rw [Int32.toBitVec_shiftRight]
  show (x.toBitVec.sshiftRight ((nI n &&& 31).toBitVec.smod 32).toNat).getLsbD i = _
  rw [s_l n hn, BitVec.getLsbD_sshiftRight, BitVec.msb_eq_getLsbD_last]
  simp [hi]
theorem b_shl8 (x : Int32) {i : Nat} (hi : i < 32) : bt (x <<< ((8 : Int32) &&& 31)) i = (decide (8 ≤ i) && bt x (i - 8)) := b_shl 8 (by omega) x hi
theorem b_shl16 (x : Int32) {i : Nat} (hi : i < 32) : bt (x <<< ((16 : Int32) &&& 31)) i = (decide (16 ≤ i) && bt x (i - 16)) := b_shl 16 (by omega) x hi
theorem b_shl24 (x : Int32) {i : Nat} (hi : i < 32) : bt (x <<< ((24 : Int32) &&& 31)) i = (decide (24 ≤ i) && bt x (i - 24)) := b_shl 24 (by omega) x hi
theorem b_sshr8 (x : Int32) {i : Nat} (hi : i < 32) : bt (x >>> ((8 : Int32) &&& 31)) i = if 8 + i < 32 then bt x (8 + i) else bt x 31 := b_sshr 8 (by omega) x hi
end
section
/-! the words: st t says that group t begins a word -/
def wh_W (st : Nat → Bool) : Nat → Nat
  | 0 => 0
  | g + 1 => if st g = true then wh_W st g + 1 else wh_W st g
def wh_S (st : Nat → Bool) : Nat → Nat
  | 0 => 0
  | g + 1 => if st g = true then g else wh_S st g
def wh_A (st : Nat → Bool) (wd : Nat → Nat → Int32) (ix : Nat) : Nat → Int32
  | 0 => 0
  | g + 1 => if wh_W st (g + 1) = ix + 1 then wd g (g + 1 - wh_S st (g + 1)) else wh_A st wd ix g
theorem wh_Wt {st : Nat → Bool} {g : Nat} (h : st g = true) : wh_W st (g + 1) = wh_W st g + 1 := if_pos h
theorem wh_Wf {st : Nat → Bool} {g : Nat} (h : st g = false) : wh_W st (g + 1) = wh_W st g := if_neg (by rw [h]; exact Bool.false_ne_true)
theorem wh_St {st : Nat → Bool} {g : Nat} (h : st g = true) : wh_S st (g + 1) = g := if_pos h
theorem wh_Sf {st : Nat → Bool} {g : Nat} (h : st g = false) : wh_S st (g + 1) = wh_S st g := if_neg (by rw [h]; exact Bool.false_ne_true)
theorem wh_At {st : Nat → Bool} {wd : Nat → Nat → Int32} {ix g : Nat} (h : wh_W st (g + 1) = ix + 1) : wh_A st wd ix (g + 1) = wd g (g + 1 - wh_S st (g + 1)) := if_pos h
theorem wh_Af {st : Nat → Bool} {wd : Nat → Nat → Int32} {ix g : Nat} (h : ¬ wh_W st (g + 1) = ix + 1) : wh_A st wd ix (g + 1) = wh_A st wd ix g := if_neg h
theorem wh_W1 (st : Nat → Bool) (g : Nat) : wh_W st g ≤ wh_W st (g + 1) := by
  cases h : st g
  · rw [wh_Wf h]; exact Nat.le_refl _
  · rw [wh_Wt h]; exact Nat.le_succ _
theorem wh_Wm (st : Nat → Bool) (g d : Nat) : wh_W st g ≤ wh_W st (g + d) := by
  induction d with
  | zero => exact Nat.le_refl _
  | succ d ih => exact Nat.le_trans ih (wh_W1 st (g + d))
theorem wh_Wle (st : Nat → Bool) (g : Nat) : wh_W st g ≤ g := by
  induction g with
  | zero => exact Nat.le_refl _
  | succ g ih =>
    cases h : st g
    · rw [wh_Wf h]; omega
    · rw [wh_Wt h]; omega
theorem wh_Sle (st : Nat → Bool) (g : Nat) : wh_S st g ≤ g := by
  induction g with
  | zero => exact Nat.le_refl _
  | succ g ih =>
    cases h : st g
    · rw [wh_Sf h]; omega
    · rw [wh_St h]; omega
theorem wh_Wp {st : Nat → Bool} (h : st 0 = true) (g : Nat) : 1 ≤ wh_W st (g + 1) := by
  have a : wh_W st (0 + 1) = wh_W st 0 + 1 := wh_Wt h
  have b := wh_Wm st (0 + 1) g
  rw [show 0 + 1 + g = g + 1 by omega] at b
  omega
theorem wh_none {st : Nat → Bool} {wd : Nat → Nat → Int32} {ix : Nat} (g : Nat) (h : wh_W st g ≤ ix) : wh_A st wd ix g = 0 := by
  induction g with
  | zero => rfl
  | succ g ih =>
    have hm := wh_W1 st g
    rw [wh_Af (show ¬ wh_W st (g + 1) = ix + 1 by omega)]
    exact ih (by omega)
theorem wh_run {st : Nat → Bool} {wd : Nat → Nat → Int32} {ix s e : Nat} (hs : st s = true) (hW : wh_W st s = ix) (hn : ∀ t, s < t → t < e → st t = false) (d : Nat) (hd : s + 1 + d ≤ e) : wh_W st (s + 1 + d) = ix + 1 ∧ wh_S st (s + 1 + d) = s ∧ wh_A st wd ix (s + 1 + d) = wd (s + d) (d + 1) := by
  induction d with
  | zero =>
    have a : wh_W st (s + 1) = ix + 1 := by rw [wh_Wt hs, hW]
    refine ⟨a, wh_St hs, ?_⟩
    show wh_A st wd ix (s + 1) = wd s 1
    rw [wh_At a, wh_St hs, show s + 1 - s = 1 by omega]
  | succ d ih =>
    obtain ⟨a, b, _⟩ := ih (by omega)
    have z : st (s + 1 + d) = false := hn _ (by omega) (by omega)
    have a' : wh_W st (s + 1 + d + 1) = ix + 1 := by rw [wh_Wf z, a]
    have b' : wh_S st (s + 1 + d + 1) = s := by rw [wh_Sf z, b]
    refine ⟨a', b', ?_⟩
    show wh_A st wd ix (s + 1 + d + 1) = wd (s + (d + 1)) (d + 1 + 1)
    rw [wh_At a', b', show s + 1 + d + 1 - s = d + 1 + 1 by omega, show s + 1 + d = s + (d + 1) by omega]
theorem wh_past {st : Nat → Bool} {wd : Nat → Nat → Int32} {ix e : Nat} (he : st e = true) (hW : wh_W st e = ix + 1) (d : Nat) : wh_A st wd ix (e + d) = wh_A st wd ix e := by
  induction d with
  | zero => rfl
  | succ d ih =>
    have h1 : wh_W st (e + 1) = ix + 1 + 1 := by rw [wh_Wt he, hW]
    have h2 := wh_Wm st (e + 1) d
    rw [show e + 1 + d = e + d + 1 by omega] at h2
    show wh_A st wd ix (e + d + 1) = _
    rw [wh_Af (show ¬ wh_W st (e + d + 1) = ix + 1 by omega), ih]
theorem wh_fin {st : Nat → Bool} {wd : Nat → Nat → Int32} {ix s e G : Nat} (hs : st s = true) (hW : wh_W st s = ix) (hse : s < e) (hn : ∀ t, s < t → t < e → st t = false) (heG : e ≤ G) (he : e = G ∨ st e = true) : wh_A st wd ix G = wd (e - 1) (e - s) := by
  obtain ⟨d, rfl⟩ : ∃ d, e = s + 1 + d := ⟨e - s - 1, by omega⟩
  obtain ⟨a, _, c⟩ := wh_run (wd := wd) hs hW hn d (Nat.le_refl _)
  have g : wh_A st wd ix G = wh_A st wd ix (s + 1 + d) := by
    rcases he with h | h
    · rw [h]
    · obtain ⟨m, rfl⟩ : ∃ m, G = s + 1 + d + m := ⟨G - (s + 1 + d), by omega⟩
      exact wh_past h a m
  rw [g, c, show s + 1 + d - 1 = s + d by omega, show s + 1 + d - s = d + 1 by omega]
/-! the kinds: a full group of zeros is 0, of ones 1, all else 2; v g is the group's value -/
def wh_k (v : Nat → Int32) (L g : Nat) : Int32 := if 31 * g + 31 ≤ L then (if v g = 0 then 0 else if v g = 2147483647 then 1 else 2) else 2
def wh_pk (v : Nat → Int32) (L : Nat) : Nat → Int32
  | 0 => -1
  | g + 1 => wh_k v L g
def wh_st (v : Nat → Int32) (L g : Nat) : Bool := decide (wh_k v L g = 2) || !decide (wh_k v L g = wh_pk v L g)
def wh_wd (v : Nat → Int32) (L g c : Nat) : Int32 := if wh_k v L g = 2 then v g else if wh_k v L g = 0 then (-2147483648) ||| nI c else (-1073741824) ||| nI c
theorem wh_k0 {v : Nat → Int32} {L g : Nat} (hf : 31 * g + 31 ≤ L) (h : v g = 0) : wh_k v L g = 0 := by
  unfold wh_k
  rw [if_pos hf, if_pos h]
theorem wh_k1 {v : Nat → Int32} {L g : Nat} (hf : 31 * g + 31 ≤ L) (h : v g = 2147483647) : wh_k v L g = 1 := by
  unfold wh_k
  rw [if_pos hf, if_neg (by rw [h]; decide), if_pos h]
theorem wh_k2 {v : Nat → Int32} {L g : Nat} (h0 : ¬ v g = 0) (h1 : ¬ v g = 2147483647) : wh_k v L g = 2 := by
  unfold wh_k
  by_cases hf : 31 * g + 31 ≤ L
  · rw [if_pos hf, if_neg h0, if_neg h1]
  · rw [if_neg hf]
theorem wh_kp {v : Nat → Int32} {L g : Nat} (hf : ¬ 31 * g + 31 ≤ L) : wh_k v L g = 2 := if_neg hf
theorem wh_k012 (v : Nat → Int32) (L g : Nat) : wh_k v L g = 0 ∨ wh_k v L g = 1 ∨ wh_k v L g = 2 := by
  by_cases hf : 31 * g + 31 ≤ L
  · by_cases h0 : v g = 0
    · exact Or.inl (wh_k0 hf h0)
    · by_cases h1 : v g = 2147483647
      · exact Or.inr (Or.inl (wh_k1 hf h1))
      · exact Or.inr (Or.inr (wh_k2 h0 h1))
  · exact Or.inr (Or.inr (wh_kp hf))
theorem wh_k0' {v : Nat → Int32} {L g : Nat} (h : wh_k v L g = 0) : v g = 0 := by
  by_cases hf : 31 * g + 31 ≤ L
  · by_cases h0 : v g = 0
    · exact h0
    · by_cases h1 : v g = 2147483647
      · rw [wh_k1 hf h1] at h; exact absurd h (by decide)
      · rw [wh_k2 h0 h1] at h; exact absurd h (by decide)
  · rw [wh_kp hf] at h; exact absurd h (by decide)
theorem wh_k1' {v : Nat → Int32} {L g : Nat} (h : wh_k v L g = 1) : v g = 2147483647 := by
  by_cases hf : 31 * g + 31 ≤ L
  · by_cases h0 : v g = 0
    · rw [wh_k0 hf h0] at h; exact absurd h (by decide)
    · by_cases h1 : v g = 2147483647
      · exact h1
      · rw [wh_k2 h0 h1] at h; exact absurd h (by decide)
  · rw [wh_kp hf] at h; exact absurd h (by decide)
theorem wh_st_t {v : Nat → Int32} {L g : Nat} (h : wh_k v L g = 2 ∨ ¬ wh_k v L g = wh_pk v L g) : wh_st v L g = true := by
  unfold wh_st
  rcases h with h | h
  · rw [decide_eq_true h]; rfl
  · rw [decide_eq_false h]; exact Bool.or_true _
theorem wh_st_f {v : Nat → Int32} {L g : Nat} (h2 : ¬ wh_k v L g = 2) (h : wh_k v L g = wh_pk v L g) : wh_st v L g = false := by
  unfold wh_st
  rw [decide_eq_false h2, decide_eq_true h]; rfl
theorem wh_st_i {v : Nat → Int32} {L g : Nat} (h : wh_st v L g = false) : ¬ wh_k v L g = 2 ∧ wh_k v L g = wh_pk v L g := by
  refine ⟨fun z => ?_, Classical.byContradiction fun z => ?_⟩
  · rw [wh_st_t (Or.inl z)] at h; exact absurd h (by decide)
  · rw [wh_st_t (Or.inr z)] at h; exact absurd h (by decide)
theorem wh_st0 (v : Nat → Int32) (L : Nat) : wh_st v L 0 = true := by
  apply wh_st_t
  right
  show ¬ wh_k v L 0 = -1
  rcases wh_k012 v L 0 with h | h | h <;> (rw [h]; decide)
theorem wh_sx {v : Nat → Int32} {L t : Nat} (hf : 31 * (t + 1) + 31 ≤ L) (h : v (t + 1) = 0 ∨ v (t + 1) = 2147483647) : (v (t + 1) = v t → wh_st v L (t + 1) = false) ∧ (¬ v (t + 1) = v t → wh_st v L (t + 1) = true) := by
  have hf' : 31 * t + 31 ≤ L := by omega
  rcases h with h | h
  · have k := wh_k0 hf h
    refine ⟨fun e => wh_st_f (by rw [k]; decide) ?_, fun e => wh_st_t (Or.inr ?_)⟩
    · show wh_k v L (t + 1) = wh_k v L t
      rw [k, wh_k0 hf' (e.symm.trans h)]
    · show ¬ wh_k v L (t + 1) = wh_k v L t
      rw [k]
      exact fun q => e (h.trans (wh_k0' q.symm).symm)
  · have k := wh_k1 hf h
    refine ⟨fun e => wh_st_f (by rw [k]; decide) ?_, fun e => wh_st_t (Or.inr ?_)⟩
    · show wh_k v L (t + 1) = wh_k v L t
      rw [k, wh_k1 hf' (e.symm.trans h)]
    · show ¬ wh_k v L (t + 1) = wh_k v L t
      rw [k]
      exact fun q => e (h.trans (wh_k1' q.symm).symm)
theorem wh_wd2 {v : Nat → Int32} {L g : Nat} (c : Nat) (h : wh_k v L g = 2) : wh_wd v L g c = v g := if_pos h
theorem wh_wd0 {v : Nat → Int32} {L g : Nat} (c : Nat) (h : wh_k v L g = 0) : wh_wd v L g c = (-2147483648) ||| nI c := by
  unfold wh_wd
  rw [if_neg (by rw [h]; decide), if_pos h]
theorem wh_wd1 {v : Nat → Int32} {L g : Nat} (c : Nat) (h : wh_k v L g = 1) : wh_wd v L g c = (-1073741824) ||| nI c := by
  unfold wh_wd
  rw [if_neg (by rw [h]; decide), if_neg (by rw [h]; decide)]
theorem wh_same {v : Nat → Int32} {L s : Nat} (d : Nat) (hn : ∀ t, s < t → t ≤ s + d → wh_st v L t = false) : wh_k v L (s + d) = wh_k v L s := by
  induction d with
  | zero => rfl
  | succ d ih =>
    have h := (wh_st_i (hn (s + d + 1) (by omega) (by omega))).2
    have h' : wh_k v L (s + d + 1) = wh_k v L (s + d) := h
    exact h'.trans (ih (fun t a b => hn t a (by omega)))
theorem wh_fin2 {v : Nat → Int32} {L ix s G : Nat} (hs : wh_st v L s = true) (hW : wh_W (wh_st v L) s = ix) (hG : s < G) (hk : wh_k v L s = 2) : wh_A (wh_st v L) (wh_wd v L) ix G = v s := by
  have he : s + 1 = G ∨ wh_st v L (s + 1) = true := by
    by_cases e : s + 1 = G
    · exact Or.inl e
    · refine Or.inr (wh_st_t ?_)
      by_cases q : wh_k v L (s + 1) = 2
      · exact Or.inl q
      · refine Or.inr ?_
        show ¬ wh_k v L (s + 1) = wh_k v L s
        rw [hk]
        exact q
  rw [wh_fin (e := s + 1) hs hW (Nat.lt_succ_self s) (fun t a b => absurd a (by omega)) hG he, Nat.add_sub_cancel, wh_wd2 _ hk]
theorem wh_fin0 {v : Nat → Int32} {L ix s e G : Nat} (hs : wh_st v L s = true) (hW : wh_W (wh_st v L) s = ix) (hse : s < e) (hn : ∀ t, s < t → t < e → wh_st v L t = false) (heG : e ≤ G) (he : e = G ∨ wh_st v L e = true) (hk : ¬ wh_k v L s = 2) : wh_A (wh_st v L) (wh_wd v L) ix G = wh_wd v L s (e - s) := by
  rw [wh_fin (e := e) hs hW hse hn heG he]
  have h : wh_k v L (e - 1) = wh_k v L s := by
    have := wh_same (v := v) (L := L) (s := s) (e - 1 - s) (fun t a b => hn t a (by omega))
    rw [show s + (e - 1 - s) = e - 1 by omega] at this
    exact this
  unfold wh_wd
  rw [h, if_neg hk, if_neg hk]
/-! the number of the last word, -1 before the first -/
def wh_w : Nat → Int32
  | 0 => -1
  | k + 1 => nI k
theorem wh_m1 {k : Nat} (h : k < 2 ^ 31) : ¬ (-1 : Int32) = nI k := fun z => nI_pos h (by rw [← z]; decide)
theorem wh_w1 (k : Nat) : wh_w k + 1 = nI k := by
  cases k with
  | zero => exact (by decide : (-1 : Int32) + 1 = Int32.ofNat 0)
  | succ k => exact nI_1 k
theorem wh_wi {W ix : Nat} (hW : W < 2 ^ 31) (hi : ix < 2 ^ 31) : wh_w W = nI ix ↔ W = ix + 1 := by
  cases W with
  | zero => exact ⟨fun z => absurd z (wh_m1 hi), fun z => by omega⟩
  | succ k =>
    show nI k = nI ix ↔ _
    rw [nI_eq (by omega) hi]
    omega
theorem wh_wn {W : Nat} (h1 : 1 ≤ W) (hW : W < 2 ^ 31) : ¬ wh_w W = -1 := by
  obtain ⟨k, rfl⟩ : ∃ k, W = k + 1 := ⟨W - 1, by omega⟩
  exact fun z => wh_m1 (k := k) (by omega) z.symm
/-! bits -/
def wh_z (b : Bool) : Int32 := if b = true then 1 else 0
theorem wh_zt : wh_z true = 1 := rfl
theorem wh_zf : wh_z false = 0 := rfl
theorem wh_z01 (b : Bool) : wh_z b = 0 ∨ wh_z b = 1 := by cases b <;> decide
theorem wh_z1 (b : Bool) : decide (wh_z b = 1) = b := by cases b <;> decide
theorem wh_b1 : ∀ i, i < 32 → bt 1 i = decide (i = 0) := by decide +kernel
theorem wh_mx : ∀ i, i < 32 → bt 2147483647 i = decide (i < 31) := by decide +kernel
theorem wh_mk : ∀ w, w < 31 → ∀ i, i < 32 → bt (((1 : Int32) <<< (nI w &&& 31)) - 1) i = decide (i < w) := by decide +kernel
theorem wh_one (k : Nat) (hk : k < 32) (i : Nat) (hi : i < 32) : bt ((1 : Int32) <<< (nI k &&& 31)) i = decide (i = k) := by
  rw [b_shl k hk 1 hi]
  rcases Nat.lt_or_ge i k with h | h
  · rw [decide_eq_false (show ¬ k ≤ i by omega), decide_eq_false (show ¬ i = k by omega), Bool.false_and]
  · rw [decide_eq_true h, Bool.true_and, wh_b1 (i - k) (by omega)]
    exact decide_eq_decide.mpr (by omega)
theorem wh_tst (x : Int32) (k : Nat) (hk : k < 32) : (x.toUInt32 >>> ((nI k).toUInt32 &&& Int32.toUInt32 31)).toInt32 &&& 1 = wh_z (bt x k) := by
  apply b_ext
  intro i hi
  rw [b_and, b_ushr k hk, wh_b1 i hi]
  by_cases h0 : i = 0
  · subst h0
    rw [decide_eq_true (rfl : (0 : Nat) = 0), Bool.and_true, Nat.add_zero]
    cases h : bt x k
    · exact (b_0 0).symm
    · exact (wh_b1 0 (by decide)).symm
  · rw [decide_eq_false h0, Bool.and_false]
    cases h : bt x k
    · exact (b_0 i).symm
    · show false = bt 1 i
      rw [wh_b1 i hi, decide_eq_false h0]
end
section
/-! the state. c: capacity; m: values; n: rows; L: the registers' lengths; gb: groups; rl: lengths kept; va: rows' values; re: registers' bits -/
def wh_B (n : Nat) (L : Nat → Nat) (va re : Nat → Int32) (id r : Nat) : Bool := if id < 8 then decide (r < n) && decide (va r = nI id) else decide (r < L (id - 8)) && decide (re ((id - 8) * 496 + r) = 1)
def wh_Len (n : Nat) (L : Nat → Nat) (id : Nat) : Nat := if id < 8 then n else L (id - 8)
def wh_ok (m id : Nat) : Prop := id < m ∨ (8 ≤ id ∧ id < 12)
def wh_N (c m n : Nat) (L : Nat → Nat) (rl : Nat → Int32) : Prop := 1 ≤ m ∧ m ≤ 8 ∧ n ≤ c ∧ c ≤ 496 ∧ ∀ j, j < 4 → rl j = nI (L j) ∧ L j ≤ c
def wh_Va (m n : Nat) (va : Nat → Int32) : Prop := ∀ r, r < n → va r = -1 ∨ ∃ v, v < m ∧ va r = nI v
def wh_Re (re : Nat → Int32) : Prop := ∀ k, re k = 0 ∨ re k = 1
def wh_Gb (m n : Nat) (L : Nat → Nat) (gb va re : Nat → Int32) : Prop := ∀ id, wh_ok m id → ∀ g, g < 16 → bt (gb (id * 16 + g)) 31 = false ∧ ∀ i, i < 31 → bt (gb (id * 16 + g)) i = wh_B n L va re id (31 * g + i)
def wh_R (c m n : Nat) (L : Nat → Nat) (gb rl va re : Nat → Int32) : Prop := wh_N c m n L rl ∧ wh_Va m n va ∧ wh_Re re ∧ wh_Gb m n L gb va re
theorem wh_Bv {n : Nat} {L : Nat → Nat} {va re : Nat → Int32} {id r : Nat} (h : id < 8) : wh_B n L va re id r = (decide (r < n) && decide (va r = nI id)) := if_pos h
theorem wh_Br {n : Nat} {L : Nat → Nat} {va re : Nat → Int32} {id r : Nat} (h : 8 ≤ id) : wh_B n L va re id r = (decide (r < L (id - 8)) && decide (re ((id - 8) * 496 + r) = 1)) := if_neg (by omega)
theorem wh_Lv {n : Nat} {L : Nat → Nat} {id : Nat} (h : id < 8) : wh_Len n L id = n := if_pos h
theorem wh_Lr {n : Nat} {L : Nat → Nat} {id : Nat} (h : 8 ≤ id) : wh_Len n L id = L (id - 8) := if_neg (by omega)
theorem wh_ok12 {m id : Nat} (hm : m ≤ 8) (h : wh_ok m id) : id < 12 := by
  unfold wh_ok at h
  omega
theorem wh_Lle {c m n : Nat} {L : Nat → Nat} {rl : Nat → Int32} {id : Nat} (h : wh_N c m n L rl) (hi : wh_ok m id) : wh_Len n L id ≤ 496 := by
  obtain ⟨h1, h2, h3, h4, h5⟩ := h
  have h12 := wh_ok12 h2 hi
  rcases Nat.lt_or_ge id 8 with h8 | h8
  · rw [wh_Lv h8]; omega
  · rw [wh_Lr h8]
    have := (h5 (id - 8) (by omega)).2
    omega
theorem wh_Bge {n : Nat} {L : Nat → Nat} {va re : Nat → Int32} {id r : Nat} (h : wh_Len n L id ≤ r) : wh_B n L va re id r = false := by
  rcases Nat.lt_or_ge id 8 with h8 | h8
  · rw [wh_Lv h8] at h
    rw [wh_Bv h8, decide_eq_false (show ¬ r < n by omega), Bool.false_and]
  · rw [wh_Lr h8] at h
    rw [wh_Br h8, decide_eq_false (show ¬ r < L (id - 8) by omega), Bool.false_and]
theorem wh_rd {m n : Nat} {L : Nat → Nat} {gb va re : Nat → Int32} {id r : Nat} (h : wh_Gb m n L gb va re) (hi : wh_ok m id) (hr : r < 496) : bt (gb (id * 16 + r / 31)) (r % 31) = wh_B n L va re id r := by
  have q := (h id hi (r / 31) (by omega)).2 (r % 31) (Nat.mod_lt _ (by decide))
  rw [Nat.div_add_mod] at q
  exact q
/-! the ids -/
theorem wh_dec (m : Nat) (id : Int32) : (∃ i, id = nI i ∧ wh_ok m i) ∨ id < 0 ∨ ∃ j, j < 2 ^ 31 ∧ id = nI j ∧ m ≤ j ∧ ¬ (8 ≤ j ∧ j < 12) := by
  by_cases h : id < 0
  · exact Or.inr (Or.inl h)
  · obtain ⟨j, hj, rfl⟩ := nI_of h
    by_cases q : j < m ∨ (8 ≤ j ∧ j < 12)
    · exact Or.inl ⟨j, rfl, q⟩
    · exact Or.inr (Or.inr ⟨j, hj, rfl, by omega, by omega⟩)
theorem wh_decR (id : Int32) : (∃ i, id = nI i ∧ 8 ≤ i ∧ i < 12) ∨ id < 8 ∨ 12 ≤ id := by
  by_cases h : id < 0
  · exact Or.inr (Or.inl (Int32.lt_trans h (by decide)))
  · obtain ⟨j, hj, rfl⟩ := nI_of h
    by_cases q : 8 ≤ j ∧ j < 12
    · exact Or.inl ⟨j, rfl, q⟩
    · by_cases w : j < 8
      · exact Or.inr (Or.inl (nI_lt (b := 8) w (by decide)))
      · exact Or.inr (Or.inr (nI_le (a := 12) (by omega) hj))
/-! rows appended -/
theorem wh_app {m t : Nat} {L : Nat → Nat} {gb va re : Nat → Int32} {v : Nat} (h : wh_Gb m t L gb va re) (hv : v < m) (hm : m ≤ 8) (ht : t < 496) (e : va t = nI v) : wh_Gb m (t + 1) L (upd gb (v * 16 + t / 31) (gb (v * 16 + t / 31) ||| ((1 : Int32) <<< (nI (t % 31) &&& 31)))) va re := by
  intro id hid g hg
  obtain ⟨h1, h2⟩ := h id hid g hg
  have hlt : t % 31 < 31 := Nat.mod_lt _ (by decide)
  by_cases q : id * 16 + g = v * 16 + t / 31
  · have hq : id = v ∧ g = t / 31 := by omega
    obtain ⟨hq1, hq2⟩ := hq
    have h8 : id < 8 := by omega
    subst hq1
    subst hq2
    rw [pk_us]
    refine ⟨?_, fun i hi => ?_⟩
    · rw [b_or, h1, wh_one (t % 31) (by omega) 31 (by decide), decide_eq_false (show ¬ 31 = t % 31 by omega)]
      rfl
    · rw [b_or, h2 i hi, wh_one (t % 31) (by omega) i (by omega), wh_Bv h8, wh_Bv h8]
      by_cases z : i = t % 31
      · have hz : 31 * (t / 31) + i = t := by omega
        rw [hz, e, decide_eq_true z]
        simp
      · rw [decide_eq_false z, Bool.or_false, decide_eq_decide.mpr (show 31 * (t / 31) + i < t ↔ 31 * (t / 31) + i < t + 1 by omega)]
  · rw [pk_un q]
    refine ⟨h1, fun i hi => ?_⟩
    rw [h2 i hi]
    rcases Nat.lt_or_ge id 8 with h8 | h8
    · rw [wh_Bv h8, wh_Bv h8]
      by_cases z : 31 * g + i = t
      · have hne : ¬ va (31 * g + i) = nI id := by
          rw [z, e, nI_eq (by omega) (by omega)]
          intro w
          exact q (by omega)
        rw [decide_eq_false hne, Bool.and_false, Bool.and_false]
      · rw [decide_eq_decide.mpr (show 31 * g + i < t ↔ 31 * g + i < t + 1 by omega)]
    · rw [wh_Br h8, wh_Br h8]
theorem wh_appN {m n n' : Nat} {L : Nat → Nat} {gb va re : Nat → Int32} (h : wh_Gb m n L gb va re) (hm : m ≤ 8) (hn : n ≤ n') (e : ∀ r, n ≤ r → r < n' → va r = -1) : wh_Gb m n' L gb va re := by
  intro id hid g hg
  obtain ⟨h1, h2⟩ := h id hid g hg
  refine ⟨h1, fun i hi => ?_⟩
  rw [h2 i hi]
  rcases Nat.lt_or_ge id 8 with h8 | h8
  · rw [wh_Bv h8, wh_Bv h8]
    by_cases a : 31 * g + i < n
    · rw [decide_eq_true a, decide_eq_true (show 31 * g + i < n' by omega)]
    · by_cases b : 31 * g + i < n'
      · rw [e (31 * g + i) (by omega) b, decide_eq_false (wh_m1 (k := id) (by omega)), Bool.and_false, Bool.and_false]
      · rw [decide_eq_false a, decide_eq_false b]
  · rw [wh_Br h8, wh_Br h8]
theorem wh_vaE {m n : Nat} {L : Nat → Nat} {gb va va' re : Nat → Int32} (h : wh_Gb m n L gb va re) (e : ∀ r, r < n → va' r = va r) : wh_Gb m n L gb va' re := by
  intro id hid g hg
  obtain ⟨h1, h2⟩ := h id hid g hg
  refine ⟨h1, fun i hi => ?_⟩
  rw [h2 i hi]
  rcases Nat.lt_or_ge id 8 with h8 | h8
  · rw [wh_Bv h8, wh_Bv h8]
    by_cases a : 31 * g + i < n
    · rw [e (31 * g + i) a]
    · rw [decide_eq_false a, Bool.false_and, Bool.false_and]
  · rw [wh_Br h8, wh_Br h8]
/-! a stretch of an array written anew -/
def wh_seg (f : Nat → Int32) (b k : Nat) (F : Nat → Int32) : Nat → Int32 := fun j => if b ≤ j ∧ j < b + k then F (j - b) else f j
theorem wh_segI {f F : Nat → Int32} {b k i : Nat} (h : i < k) : wh_seg f b k F (b + i) = F i := by
  show (if b ≤ b + i ∧ b + i < b + k then F (b + i - b) else f (b + i)) = F i
  rw [if_pos ⟨by omega, by omega⟩, Nat.add_sub_cancel_left]
theorem wh_segO {f F : Nat → Int32} {b k j : Nat} (h : ¬ (b ≤ j ∧ j < b + k)) : wh_seg f b k F j = f j := if_neg h
theorem wh_seg0 (f F : Nat → Int32) (b : Nat) : wh_seg f b 0 F = f := funext fun j => wh_segO (show ¬ (b ≤ j ∧ j < b + 0) by omega)
theorem wh_segS (f F : Nat → Int32) (b k : Nat) : upd (wh_seg f b k F) (b + k) (F k) = wh_seg f b (k + 1) F := by
  funext j
  by_cases e : j = b + k
  · subst e
    rw [pk_us, wh_segI (Nat.lt_succ_self k)]
  · rw [pk_un e]
    by_cases h : b ≤ j ∧ j < b + k
    · obtain ⟨i, rfl⟩ : ∃ i, j = b + i := ⟨j - b, by omega⟩
      rw [wh_segI (show i < k by omega), wh_segI (show i < k + 1 by omega)]
    · rw [wh_segO h, wh_segO (show ¬ (b ≤ j ∧ j < b + (k + 1)) by omega)]
theorem wh_segR {f F : Nat → Int32} (b k : Nat) (h : wh_Re f) (hF : ∀ i, F i = 0 ∨ F i = 1) : wh_Re (wh_seg f b k F) := by
  intro j
  by_cases e : b ≤ j ∧ j < b + k
  · obtain ⟨i, rfl⟩ : ∃ i, j = b + i := ⟨j - b, by omega⟩
    rw [wh_segI (show i < k by omega)]
    exact hF i
  · rw [wh_segO e]
    exact h j
def wh_uN (L : Nat → Nat) (k x : Nat) : Nat → Nat := fun j => if j = k then x else L j
theorem wh_uNs {L : Nat → Nat} {k x : Nat} : wh_uN L k x k = x := if_pos rfl
theorem wh_uNn {L : Nat → Nat} {k x j : Nat} (h : ¬ j = k) : wh_uN L k x j = L j := if_neg h
theorem wh_put {m n d l : Nat} {L : Nat → Nat} {gb va re re' F : Nat → Int32} (h : wh_Gb m n L gb va re) (hm : m ≤ 8) (hd : 8 ≤ d) (hd2 : d < 12) (hL : ∀ j, j < 4 → L j ≤ 496) (hre : ∀ k, ¬ ((d - 8) * 496 ≤ k ∧ k < (d - 8) * 496 + 496) → re' k = re k) (hF : ∀ g, g < 16 → bt (F g) 31 = false ∧ ∀ i, i < 31 → bt (F g) i = (decide (31 * g + i < l) && decide (re' ((d - 8) * 496 + (31 * g + i)) = 1))) : wh_Gb m n (wh_uN L (d - 8) l) (wh_seg gb (d * 16) 16 F) va re' := by
  intro id hid g hg
  by_cases e : id = d
  · subst e
    rw [wh_segI hg]
    refine ⟨(hF g hg).1, fun i hi => ?_⟩
    rw [(hF g hg).2 i hi, wh_Br hd, wh_uNs]
  · have ho : ¬ (d * 16 ≤ id * 16 + g ∧ id * 16 + g < d * 16 + 16) := by omega
    rw [wh_segO ho]
    obtain ⟨h1, h2⟩ := h id hid g hg
    refine ⟨h1, fun i hi => ?_⟩
    rw [h2 i hi]
    have h12 := wh_ok12 hm hid
    rcases Nat.lt_or_ge id 8 with h8 | h8
    · rw [wh_Bv h8, wh_Bv h8]
    · rw [wh_Br h8, wh_Br h8, wh_uNn (show ¬ id - 8 = d - 8 by omega)]
      by_cases a : 31 * g + i < L (id - 8)
      · have hl := hL (id - 8) (by omega)
        have hz := hre ((id - 8) * 496 + (31 * g + i)) (by omega)
        rw [hz]
      · rw [decide_eq_false a, Bool.false_and, Bool.false_and]
theorem wh_Nput {c m n d l : Nat} {L : Nat → Nat} {rl : Nat → Int32} (h : wh_N c m n L rl) (hl : l ≤ c) : wh_N c m n (wh_uN L d l) (upd rl d (nI l)) := by
  obtain ⟨h1, h2, h3, h4, h5⟩ := h
  refine ⟨h1, h2, h3, h4, fun j hj => ?_⟩
  by_cases e : j = d
  · subst e
    rw [pk_us, wh_uNs]
    exact ⟨rfl, hl⟩
  · rw [pk_un e, wh_uNn e]
    exact h5 j hj
/-! a range selected -/
def wh_sl (lo hi x : Int32) : Bool := !decide (x = -1) && (decide (lo ≤ x) && decide (x ≤ hi))
def wh_sg (gb : Nat → Int32) (g : Nat) (lo hi : Int32) : Nat → Int32
  | 0 => 0
  | v + 1 => if lo ≤ nI v ∧ nI v ≤ hi then wh_sg gb g lo hi v ||| gb (v * 16 + g) else wh_sg gb g lo hi v
theorem wh_sgt {gb : Nat → Int32} {g : Nat} {lo hi : Int32} {v : Nat} (h : lo ≤ nI v ∧ nI v ≤ hi) : wh_sg gb g lo hi (v + 1) = wh_sg gb g lo hi v ||| gb (v * 16 + g) := if_pos h
theorem wh_sgf {gb : Nat → Int32} {g : Nat} {lo hi : Int32} {v : Nat} (h : ¬ (lo ≤ nI v ∧ nI v ≤ hi)) : wh_sg gb g lo hi (v + 1) = wh_sg gb g lo hi v := if_neg h
theorem wh_sgB {m n : Nat} {L : Nat → Nat} {gb va re : Nat → Int32} (h : wh_Gb m n L gb va re) (hm : m ≤ 8) {g : Nat} (hg : g < 16) (lo hi : Int32) : ∀ k, k ≤ m → bt (wh_sg gb g lo hi k) 31 = false ∧ ∀ i, i < 31 → (bt (wh_sg gb g lo hi k) i = true ↔ ∃ v, v < k ∧ lo ≤ nI v ∧ nI v ≤ hi ∧ 31 * g + i < n ∧ va (31 * g + i) = nI v) := by
  intro k
  induction k with
  | zero =>
    intro _
    refine ⟨b_0 31, fun i _ => ⟨fun z => ?_, fun z => ?_⟩⟩
    · rw [show wh_sg gb g lo hi 0 = 0 from rfl, b_0] at z
      exact absurd z (by decide)
    · obtain ⟨v, hv, _⟩ := z
      exact absurd hv (Nat.not_lt_zero v)
  | succ k ih =>
    intro hk
    obtain ⟨i1, i2⟩ := ih (by omega)
    by_cases c : lo ≤ nI k ∧ nI k ≤ hi
    · obtain ⟨a1, a2⟩ := h k (Or.inl (by omega)) g hg
      have h8 : k < 8 := by omega
      rw [wh_sgt c]
      refine ⟨by rw [b_or, i1, a1]; rfl, fun i hi' => ?_⟩
      rw [b_or, Bool.or_eq_true, i2 i hi', a2 i hi', wh_Bv h8, Bool.and_eq_true, decide_eq_true_eq, decide_eq_true_eq]
      constructor
      · rintro (⟨v, hv, q⟩ | q)
        · exact ⟨v, by omega, q⟩
        · exact ⟨k, by omega, c.1, c.2, q.1, q.2⟩
      · rintro ⟨v, hv, q1, q2, q3, q4⟩
        by_cases e : v = k
        · subst e
          exact Or.inr ⟨q3, q4⟩
        · exact Or.inl ⟨v, by omega, q1, q2, q3, q4⟩
    · rw [wh_sgf c]
      refine ⟨i1, fun i hi' => ?_⟩
      rw [i2 i hi']
      constructor
      · rintro ⟨v, hv, q⟩
        exact ⟨v, by omega, q⟩
      · rintro ⟨v, hv, q1, q2, q3⟩
        by_cases e : v = k
        · subst e
          exact absurd ⟨q1, q2⟩ c
        · exact ⟨v, by omega, q1, q2, q3⟩
theorem wh_sgF {m n : Nat} {L : Nat → Nat} {gb va re : Nat → Int32} (h : wh_Gb m n L gb va re) (hv : wh_Va m n va) (hm : m ≤ 8) {g : Nat} (hg : g < 16) (lo hi : Int32) {i : Nat} (hi' : i < 31) : bt (wh_sg gb g lo hi m) i = (decide (31 * g + i < n) && wh_sl lo hi (va (31 * g + i))) := by
  apply Bool.eq_iff_iff.mpr
  rw [(wh_sgB h hm hg lo hi m (Nat.le_refl m)).2 i hi']
  unfold wh_sl
  simp only [Bool.and_eq_true, decide_eq_true_eq, Bool.not_eq_true', decide_eq_false_iff_not]
  constructor
  · rintro ⟨v, hvm, a, b, c, d⟩
    rw [d]
    exact ⟨c, fun z => wh_m1 (k := v) (by omega) z.symm, a, b⟩
  · rintro ⟨c, d, a, b⟩
    rcases hv _ c with q | ⟨v, hvm, q⟩
    · exact absurd q d
    · rw [q] at a b
      exact ⟨v, hvm, a, b, c, q⟩
theorem wh_sgE {gb gb' : Nat → Int32} {g : Nat} {lo hi : Int32} : ∀ k, (∀ v, v < k → gb' (v * 16 + g) = gb (v * 16 + g)) → wh_sg gb' g lo hi k = wh_sg gb g lo hi k := by
  intro k
  induction k with
  | zero => intro _; rfl
  | succ k ih =>
    intro e
    have q := ih (fun v hv => e v (by omega))
    by_cases c : lo ≤ nI k ∧ nI k ≤ hi
    · rw [wh_sgt c, wh_sgt c, q, e k (by omega)]
    · rw [wh_sgf c, wh_sgf c, q]
/-! two bitmaps combined -/
def wh_op (o : Nat) (x y : Bool) : Bool := if o = 1 then x && y else if o = 2 then x || y else if o = 3 then x && !y else if o = 4 then x ^^ y else if o = 5 then !x else x
def wh_oI (o : Nat) (x y : Int32) : Int32 := if o = 1 then x &&& y else if o = 2 then x ||| y else if o = 3 then x &&& (y ^^^ (-1)) else if o = 4 then x ^^^ y else if o = 5 then x ^^^ (-1) else x
theorem wh_oB (o : Nat) (x y : Int32) (i : Nat) (hi : i < 32) : bt (wh_oI o x y) i = wh_op o (bt x i) (bt y i) := by
  unfold wh_oI wh_op
  by_cases h1 : o = 1
  · rw [if_pos h1, if_pos h1, b_and]
  rw [if_neg h1, if_neg h1]
  by_cases h2 : o = 2
  · rw [if_pos h2, if_pos h2, b_or]
  rw [if_neg h2, if_neg h2]
  by_cases h3 : o = 3
  · rw [if_pos h3, if_pos h3, b_and, b_xor, b_m1 i hi, Bool.xor_true]
  rw [if_neg h3, if_neg h3]
  by_cases h4 : o = 4
  · rw [if_pos h4, if_pos h4, b_xor]
  rw [if_neg h4, if_neg h4]
  by_cases h5 : o = 5
  · rw [if_pos h5, if_pos h5, b_xor, b_m1 i hi, Bool.xor_true]
  rw [if_neg h5, if_neg h5]
theorem wh_op5 {o : Nat} (h : 5 ≤ o) (x y y' : Bool) : wh_op o x y = wh_op o x y' := by
  unfold wh_op
  rw [if_neg (show ¬ o = 1 by omega), if_neg (show ¬ o = 2 by omega), if_neg (show ¬ o = 3 by omega), if_neg (show ¬ o = 4 by omega), if_neg (show ¬ o = 1 by omega), if_neg (show ¬ o = 2 by omega), if_neg (show ¬ o = 3 by omega), if_neg (show ¬ o = 4 by omega)]
def wh_ma (l g : Nat) : Int32 := if l ≤ 31 * g then 0 else if 31 * g + 31 ≤ l then 2147483647 else ((1 : Int32) <<< (nI (l - 31 * g) &&& 31)) - 1
theorem wh_maB (l g i : Nat) (hi : i < 32) : bt (wh_ma l g) i = (decide (i < 31) && decide (31 * g + i < l)) := by
  unfold wh_ma
  by_cases h1 : l ≤ 31 * g
  · rw [if_pos h1, b_0, decide_eq_false (show ¬ 31 * g + i < l by omega), Bool.and_false]
  rw [if_neg h1]
  by_cases h2 : 31 * g + 31 ≤ l
  · rw [if_pos h2, wh_mx i hi]
    by_cases h3 : i < 31
    · rw [decide_eq_true h3, decide_eq_true (show 31 * g + i < l by omega)]; rfl
    · rw [decide_eq_false h3]; rfl
  rw [if_neg h2, wh_mk (l - 31 * g) (by omega) i hi]
  by_cases h3 : i < l - 31 * g
  · rw [decide_eq_true h3, decide_eq_true (show i < 31 by omega), decide_eq_true (show 31 * g + i < l by omega)]; rfl
  · rw [decide_eq_false h3, decide_eq_false (show ¬ 31 * g + i < l by omega), Bool.and_false]
theorem wh_comb {m n d l o a b : Nat} {L : Nat → Nat} {gb va re re' : Nat → Int32} (h : wh_Gb m n L gb va re) (ha : wh_ok m a) (hb : wh_ok m b) (hre : ∀ r, r < l → re' ((d - 8) * 496 + r) = wh_z (wh_op o (wh_B n L va re a r) (wh_B n L va re b r))) {g : Nat} (hg : g < 16) : bt (wh_oI o (gb (a * 16 + g)) (gb (b * 16 + g)) &&& wh_ma l g) 31 = false ∧ ∀ i, i < 31 → bt (wh_oI o (gb (a * 16 + g)) (gb (b * 16 + g)) &&& wh_ma l g) i = (decide (31 * g + i < l) && decide (re' ((d - 8) * 496 + (31 * g + i)) = 1)) := by
  refine ⟨?_, fun i hi => ?_⟩
  · rw [b_and, wh_maB l g 31 (by decide), decide_eq_false (show ¬ 31 < 31 by omega), Bool.false_and, Bool.and_false]
  · rw [b_and, wh_maB l g i (by omega), decide_eq_true hi, Bool.true_and, wh_oB o _ _ i (by omega), (h a ha g hg).2 i hi, (h b hb g hg).2 i hi]
    by_cases q : 31 * g + i < l
    · rw [decide_eq_true q, Bool.and_true, Bool.true_and, hre _ q, wh_z1]
    · rw [decide_eq_false q, Bool.and_false, Bool.false_and]
end
section
/-! numbers as they are printed -/
theorem wh_i16 (i g : Nat) : nI i * 16 + nI g = nI (i * 16 + g) := by
  show nI i * nI 16 + nI g = _
  rw [pk_mul, nI_add]
theorem wh_d31 {r : Nat} (h : r < 2 ^ 31) : nI r / 31 = nI (r / 31) := pk_div (d := 31) h (by decide) (by decide)
theorem wh_r31 {r : Nat} (h : r < 2 ^ 31) : nI r - nI r / 31 * 31 = nI (r % 31) := pk_rem (d := 31) h (by decide) (by decide)
theorem wh_s8 {i : Nat} (h : 8 ≤ i) : nI i - 8 = nI (i - 8) := pk_sub (b := 8) h
theorem wh_m31 (g : Nat) : 31 * nI g = nI (31 * g) := pk_mul 31 g
theorem wh_31m (g : Nat) : nI g * 31 = nI (g * 31) := pk_mul g 31
theorem wh_x16 {i r : Nat} (h : r < 2 ^ 31) : nI i * 16 + nI r / 31 = nI (i * 16 + r / 31) := by
  rw [wh_d31 h, wh_i16]
theorem wh_b496 {i : Nat} (h : 8 ≤ i) : (nI i - 8) * 496 = nI ((i - 8) * 496) := by
  rw [wh_s8 h]
  exact pk_mul (i - 8) 496
theorem wh_gcX {l : Nat} (h : l ≤ 496) : (nI l + 31 - 1) / 31 = nI ((l + 30) / 31) := by
  have e : nI l + 31 - 1 = nI (l + 30) := by
    show nI l + nI 31 - nI 1 = _
    rw [nI_add, pk_sub (show 1 ≤ l + 31 by omega)]
    exact congrArg nI (by omega)
  rw [e]
  exact wh_d31 (by omega)
theorem wh_gcY {l : Nat} (h : l ≤ 496) : (nI l + 30) / 31 = nI ((l + 30) / 31) := by
  have e : nI l + 30 = nI (l + 30) := nI_add l 30
  rw [e]
  exact wh_d31 (by omega)
theorem wh_vb (b : Bool) : vp_nar .boolean (wh_z b) = wh_z b := by cases b <;> decide
theorem wh_nb (b : Bool) : narrow .boolean (.int (wh_z b)) = .int (wh_z b) := by cases b <;> rfl
theorem wh_zne (b : Bool) : (wh_z b = 0) ↔ b = false := by cases b <;> decide
theorem wh_lt8 {i : Nat} (h : i < 2 ^ 31) : nI i < 8 ↔ i < 8 := nI_ltI (b := 8) h (by decide)
theorem wh_le8 {i : Nat} (h : i < 2 ^ 31) : 8 ≤ nI i ↔ 8 ≤ i := nI_leI (a := 8) (by decide) h
theorem wh_le12 {i : Nat} (h : i < 2 ^ 31) : 12 ≤ nI i ↔ 12 ≤ i := nI_leI (a := 12) (by decide) h
theorem wh_lt12 {i : Nat} (h : i < 2 ^ 31) : nI i < 12 ↔ i < 12 := nI_ltI (b := 12) h (by decide)
theorem wh_lt0 {i : Nat} (h : i < 2 ^ 31) : nI i < 0 ↔ False := ⟨nI_pos h, False.elim⟩
theorem wh_le0 {i : Nat} (h : i < 2 ^ 31) : 0 ≤ nI i ↔ True := ⟨fun _ => trivial, fun _ => nI_pos' h⟩
/-! the groups of a bitmap, and its bits, as a function of the group -/
def wh_v (gb : Nat → Int32) (id : Nat) : Nat → Int32 := fun g => gb (id * 16 + g)
/-! cases of an argument -/
theorem wh_decC {k : Nat} (x : Int32) (hk : k < 2 ^ 31) : x < 1 ∨ (¬ x < 1 ∧ nI k < x) ∨ ∃ j, 1 ≤ j ∧ j ≤ k ∧ x = nI j := by
  by_cases h : x < 1
  · exact Or.inl h
  · have h0 : ¬ x < 0 := fun z => h (Int32.lt_trans z (by decide))
    obtain ⟨j, hj, rfl⟩ := nI_of h0
    have h1 : 1 ≤ j := by
      rcases Nat.eq_zero_or_pos j with q | q
      · subst q
        exact absurd (by decide : Int32.ofNat 0 < 1) h
      · exact q
    by_cases q : j ≤ k
    · exact Or.inr (Or.inr ⟨j, h1, q, rfl⟩)
    · exact Or.inr (Or.inl ⟨h, nI_lt (by omega) hj⟩)
theorem wh_decV {m : Nat} (x : Int32) (hm : m ≤ 8) : x = -1 ∨ (∃ v, v < m ∧ x = nI v) ∨ (¬ x = -1 ∧ x < 0) ∨ (¬ x = -1 ∧ ¬ x < 0 ∧ ¬ x < nI m) := by
  by_cases h : x = -1
  · exact Or.inl h
  · by_cases h0 : x < 0
    · exact Or.inr (Or.inr (Or.inl ⟨h, h0⟩))
    · obtain ⟨j, hj, rfl⟩ := nI_of h0
      by_cases q : j < m
      · exact Or.inr (Or.inl ⟨j, q, rfl⟩)
      · exact Or.inr (Or.inr (Or.inr ⟨h, h0, nI_nlt (by omega) hj⟩))
theorem wh_Llc {c m n : Nat} {L : Nat → Nat} {rl : Nat → Int32} {id : Nat} (h : wh_N c m n L rl) (hi : wh_ok m id) : wh_Len n L id ≤ c := by
  obtain ⟨h1, h2, h3, h4, h5⟩ := h
  have h12 := wh_ok12 h2 hi
  rcases Nat.lt_or_ge id 8 with h8 | h8
  · rw [wh_Lv h8]; exact h3
  · rw [wh_Lr h8]
    exact (h5 (id - 8) (by omega)).2
end
section
/-! a group gathered bit by bit -/
theorem wh_gv0 (B : Nat → Bool) : ∀ j, j < 32 → bt 0 j = (decide (j < 0) && B j) := fun j _ => by
  rw [b_0, decide_eq_false (Nat.not_lt_zero j), Bool.false_and]
theorem wh_gvT {v : Int32} {B : Nat → Bool} {t : Nat} (ht : t < 31) (h : ∀ j, j < 32 → bt v j = (decide (j < t) && B j)) (hb : B t = true) : ∀ j, j < 32 → bt (v ||| ((1 : Int32) <<< (nI t &&& 31))) j = (decide (j < t + 1) && B j) := by
  intro j hj
  rw [b_or, h j hj, wh_one t (by omega) j hj]
  by_cases e : j = t
  · rw [e, hb]
    simp
  · rw [decide_eq_false e, Bool.or_false, decide_eq_decide.mpr (show j < t ↔ j < t + 1 by omega)]
theorem wh_gvF {v : Int32} {B : Nat → Bool} {t : Nat} (h : ∀ j, j < 32 → bt v j = (decide (j < t) && B j)) (hb : B t = false) : ∀ j, j < 32 → bt v j = (decide (j < t + 1) && B j) := by
  intro j hj
  rw [h j hj]
  by_cases e : j = t
  · rw [e, hb, Bool.and_false, Bool.and_false]
  · rw [decide_eq_decide.mpr (show j < t ↔ j < t + 1 by omega)]
theorem wh_gvE {v x : Int32} {B : Nat → Bool} (h : ∀ j, j < 32 → bt v j = (decide (j < 31) && B j)) (hx : bt x 31 = false ∧ ∀ i, i < 31 → bt x i = B i) : v = x := b_ext fun j hj => by
  rw [h j hj]
  by_cases e : j < 31
  · rw [decide_eq_true e, Bool.true_and, hx.2 j e]
  · have e2 : j = 31 := by omega
    rw [e2, hx.1]
    rfl
/-! the walk's step -/
theorem wh_cF {st : Nat → Bool} {g : Nat} (h : st g = false) : nI (g - wh_S st g) + 1 = nI (g + 1 - wh_S st (g + 1)) := by
  have := wh_Sle st g
  rw [nI_1, wh_Sf h]
  exact congrArg nI (by omega)
theorem wh_cT {st : Nat → Bool} {g : Nat} (h : st g = true) : (1 : Int32) = nI (g + 1 - wh_S st (g + 1)) := by
  rw [wh_St h, show g + 1 - g = 1 by omega]
  rfl
theorem wh_uF {st : Nat → Bool} {g : Nat} (h : st g = false) : wh_w (wh_W st g) = wh_w (wh_W st (g + 1)) := by rw [wh_Wf h]
theorem wh_uT {st : Nat → Bool} {g : Nat} (h : st g = true) : wh_w (wh_W st g) + 1 = wh_w (wh_W st (g + 1)) := by
  rw [wh_Wt h, wh_w1]
  rfl
theorem wh_hA {v : Nat → Int32} {l ix : Nat} (hi : ix < 2 ^ 31) : ∀ g, g < 16 → (wh_w (wh_W (wh_st v l) (g + 1)) = nI ix → wh_A (wh_st v l) (wh_wd v l) ix (g + 1) = wh_wd v l g (g + 1 - wh_S (wh_st v l) (g + 1))) ∧ (¬ wh_w (wh_W (wh_st v l) (g + 1)) = nI ix → wh_A (wh_st v l) (wh_wd v l) ix (g + 1) = wh_A (wh_st v l) (wh_wd v l) ix g) := by
  intro g hg
  have h := wh_Wle (wh_st v l) (g + 1)
  rw [wh_wi (by omega) hi]
  exact ⟨wh_At, wh_Af⟩
theorem wh_hB {v : Nat → Int32} {l : Nat} : ∀ g, g < 16 → (wh_w (wh_W (wh_st v l) (g + 1)) = -1 → (0 : Int32) = wh_wd v l g (g + 1 - wh_S (wh_st v l) (g + 1))) ∧ (¬ wh_w (wh_W (wh_st v l) (g + 1)) = -1 → (0 : Int32) = 0) := by
  intro g hg
  have h := wh_Wle (wh_st v l) (g + 1)
  have h1 := wh_Wp (st := wh_st v l) (wh_st0 v l) g
  exact ⟨fun z => absurd z (wh_wn h1 (by omega)), fun _ => rfl⟩
end
section
/-! the reference's small methods -/
theorem wy_res_t {post : Int32 → Prop} {v : SY} {i : Nat} (h8 : 8 ≤ i) (h12 : i < 12) (hp : post 1) : wpY_isResult post v (nI i) := by
  obtain ⟨c, m, n, va, re, rl, tm⟩ := v
  unfold wpY_isResult
  exact br_f (by rw [wh_lt8 (by omega)]; omega) (br_f (by rw [wh_le12 (by omega)]; omega) hp)
theorem wy_res_f {post : Int32 → Prop} {v : SY} {id : Int32} (h : id < 8 ∨ 12 ≤ id) (hp : post 0) : wpY_isResult post v id := by
  obtain ⟨c, m, n, va, re, rl, tm⟩ := v
  unfold wpY_isResult
  by_cases q : id < 8
  · exact br_t q hp
  · exact br_f q (br_t (h.resolve_left q) hp)
theorem wy_ok_t {post : Int32 → Prop} {c n : Int32} {m i : Nat} {va re rl tm : Nat → Int32} (hm : m ≤ 8) (h : wh_ok m i) (hp : post 1) : wpY_valid post (c, nI m, n, va, re, rl, tm) (nI i) := by
  have hi := wh_ok12 hm h
  unfold wh_ok at h
  unfold wpY_valid
  refine br_f (nI_pos (by omega)) ?_
  by_cases q : i < m
  · exact br_t (nI_lt q (by omega)) hp
  · refine br_f (nI_nlt (by omega) (by omega)) ?_
    unfold wY_valid_12
    exact br_f (by rw [wh_lt8 (by omega)]; omega) (br_f (by rw [wh_le12 (by omega)]; omega) hp)
theorem wy_ok_f {post : Int32 → Prop} {c n : Int32} {m : Nat} {id : Int32} {va re rl tm : Nat → Int32} (h : id < 0 ∨ ∃ j, j < 2 ^ 31 ∧ id = nI j ∧ m ≤ j ∧ ¬ (8 ≤ j ∧ j < 12)) (hp : post 0) : wpY_valid post (c, nI m, n, va, re, rl, tm) id := by
  unfold wpY_valid wY_valid_12
  rcases h with h | ⟨j, hj, rfl, h1, h2⟩
  · exact br_t h (br_t (Int32.lt_trans h (by decide)) hp)
  · refine br_f (nI_pos hj) (br_f (nI_nlt h1 hj) ?_)
    by_cases q : j < 8
    · exact br_t (nI_lt (b := 8) q (by decide)) hp
    · exact br_f (by rw [wh_lt8 hj]; exact q) (br_t (nI_le (a := 12) (by omega) hj) hp)
theorem wy_len {post : Int32 → Prop} {c m n i : Nat} {L : Nat → Nat} {rl va re tm : Nat → Int32} {cc mm : Int32} (hN : wh_N c m n L rl) (hi : wh_ok m i) (hp : post (nI (wh_Len n L i))) : wpY_len post (cc, mm, nI n, va, re, rl, tm) (nI i) := by
  obtain ⟨h1, h2, h3, h4, h5⟩ := hN
  have h12 := wh_ok12 h2 hi
  unfold wpY_len
  rcases Nat.lt_or_ge i 8 with h8 | h8
  · rw [wh_Lv h8] at hp
    exact br_f (by rw [wh_le8 (by omega)]; omega) hp
  · rw [wh_Lr h8, ← (h5 (i - 8) (by omega)).1] at hp
    refine br_t ((wh_le8 (by omega)).mpr h8) ?_
    rw [wh_s8 h8, nI_clamp (by omega)]
    exact ⟨vp_in_nI (by omega) (by omega), hp⟩
theorem wy_bit {post : Int32 → Prop} {c m n i r : Nat} {L : Nat → Nat} {rl va re tm : Nat → Int32} {cc : Int32} (hN : wh_N c m n L rl) (hR : wh_Re re) (hi : wh_ok m i) (hr : r < 2 ^ 31) (hp : post (wh_z (wh_B n L va re i r))) : wpY_bit post (cc, nI m, nI n, va, re, rl, tm) (nI i) (nI r) := by
  have h12 := wh_ok12 hN.2.1 hi
  have hl := wh_Lle hN hi
  unfold wpY_bit
  refine wy_ok_t hN.2.1 hi (br_f (by decide) (wy_len hN hi (br_f (nI_pos hr) ?_)))
  by_cases q : r < wh_Len n L i
  · have hr' : r < 496 := by omega
    refine br_t (nI_lt q (by omega)) ?_
    rcases Nat.lt_or_ge i 8 with h8 | h8
    · refine br_f (by rw [wh_le8 (by omega)]; omega) ⟨vp_in_nI hr' (by decide), ?_⟩
      rw [wh_Lv h8] at q
      rw [wh_Bv h8, decide_eq_true q, Bool.true_and] at hp
      rw [nI_clamp hr]
      by_cases e : va r = nI i
      · rw [decide_eq_true e] at hp
        exact br_t e hp
      · rw [decide_eq_false e] at hp
        exact br_f e hp
    · refine br_t ((wh_le8 (by omega)).mpr h8) ?_
      rw [wh_Lr h8] at q
      rw [wh_Br h8, decide_eq_true q, Bool.true_and] at hp
      rw [wh_b496 h8, nI_add, nI_clamp (by omega)]
      refine ⟨vp_in_nI (by omega) (by decide), ?_⟩
      rcases hR ((i - 8) * 496 + r) with e | e
      · rw [e, show decide ((0 : Int32) = 1) = false from by decide] at hp
        rw [e]
        exact ⟨rfl, hp⟩
      · rw [e, show decide ((1 : Int32) = 1) = true from by decide] at hp
        rw [e]
        exact ⟨rfl, hp⟩
  · rw [wh_Bge (by omega)] at hp
    exact br_f (nI_nlt (by omega) hr) hp
theorem wy_bitN {post : Int32 → Prop} {c m n i : Nat} {r : Int32} {L : Nat → Nat} {rl va re tm : Nat → Int32} {cc : Int32} (hN : wh_N c m n L rl) (hi : wh_ok m i) (hr : r < 0) (hp : post 0) : wpY_bit post (cc, nI m, nI n, va, re, rl, tm) (nI i) r := by
  unfold wpY_bit
  exact wy_ok_t hN.2.1 hi (br_f (by decide) (wy_len hN hi (br_t hr hp)))
theorem wy_bitI {post : Int32 → Prop} {m : Nat} {id r : Int32} {rl va re tm : Nat → Int32} {cc nn : Int32} (h : id < 0 ∨ ∃ j, j < 2 ^ 31 ∧ id = nI j ∧ m ≤ j ∧ ¬ (8 ≤ j ∧ j < 12)) (hp : post 0) : wpY_bit post (cc, nI m, nn, va, re, rl, tm) id r := by
  unfold wpY_bit
  exact wy_ok_f h (br_t rfl hp)
theorem wy_gvL {post : Int32 → Prop} {c m n i g : Nat} {L : Nat → Nat} {gb rl va re tm : Nat → Int32} {cc : Int32} (hN : wh_N c m n L rl) (hR : wh_Re re) (hG : wh_Gb m n L gb va re) (hi : wh_ok m i) (hg : g < 16) (hp : post (gb (i * 16 + g))) : ∀ (d t : Nat) (x : Int32), t + d = 31 → (∀ j, j < 32 → bt x j = (decide (j < t) && wh_B n L va re i (31 * g + j))) → wY_groupValue_5 post (nI i) (nI g) cc (nI m) (nI n) va re rl tm (d + 1) x (nI t) := by
  intro d
  induction d with
  | zero =>
    intro t x ht hx
    have e : t = 31 := by omega
    subst e
    have ex : x = gb (i * 16 + g) := wh_gvE (B := fun j => wh_B n L va re i (31 * g + j)) hx (hG i hi g hg)
    rw [← ex] at hp
    exact br_t (nI_le (a := 31) (Nat.le_refl _) (by decide)) hp
  | succ d ih =>
    intro t x ht hx
    refine br_f (nI_ge (b := 31) (by omega) (by decide)) ?_
    rw [wh_m31 g, nI_add (31 * g) t]
    refine wy_bit hN hR hi (by omega) ?_
    cases hb : wh_B n L va re i (31 * g + t) with
    | false => exact br_t rfl (nm_r (nI_1 t) (ih (t + 1) x (by omega) (wh_gvF (B := fun j => wh_B n L va re i (31 * g + j)) hx hb)))
    | true => exact br_f (by decide) (nm_e (nm_r (nI_1 t) (ih (t + 1) _ (by omega) (wh_gvT (B := fun j => wh_B n L va re i (31 * g + j)) (by omega) hx hb))))
theorem wy_gv {post : Int32 → Prop} {c m n i g : Nat} {L : Nat → Nat} {gb rl va re tm : Nat → Int32} {cc : Int32} (hN : wh_N c m n L rl) (hR : wh_Re re) (hG : wh_Gb m n L gb va re) (hi : wh_ok m i) (hg : g < 16) (hp : post (gb (i * 16 + g))) : wpY_groupValue post (cc, nI m, nI n, va, re, rl, tm) (nI i) (nI g) := by
  unfold wpY_groupValue
  exact ⟨32, wy_gvL hN hR hG hi hg hp 31 0 0 rfl (wh_gv0 _)⟩
end
section
/-! the class's small methods -/
theorem wx_res_t {post : Int32 → Prop} {i : Nat} (h8 : 8 ≤ i) (h12 : i < 12) (hp : post 1) : wpX_isResultId post (nI i) := by
  unfold wpX_isResultId
  exact br_f (by rw [wh_lt8 (by omega)]; omega) (br_f (by rw [wh_le12 (by omega)]; omega) hp)
theorem wx_res_f {post : Int32 → Prop} {id : Int32} (h : id < 8 ∨ 12 ≤ id) (hp : post 0) : wpX_isResultId post id := by
  unfold wpX_isResultId
  by_cases q : id < 8
  · exact br_t q hp
  · exact br_f q (br_t (h.resolve_left q) hp)
theorem wx_val_t {post : Int32 → Prop} {c n : Int32} {m i : Nat} {gb rl : Nat → Int32} (hm : m ≤ 8) (h : i < m) (hp : post 1) : wpX_isValueId post (c, nI m, n, gb, rl) (nI i) := by
  unfold wpX_isValueId
  exact br_f (nI_pos (by omega)) (br_f (nI_ge h (by omega)) hp)
theorem wx_val_f {post : Int32 → Prop} {c n : Int32} {m : Nat} {id : Int32} {gb rl : Nat → Int32} (h : id < 0 ∨ ∃ j, j < 2 ^ 31 ∧ id = nI j ∧ m ≤ j) (hp : post 0) : wpX_isValueId post (c, nI m, n, gb, rl) id := by
  unfold wpX_isValueId
  rcases h with h | ⟨j, hj, rfl, h1⟩
  · exact br_t h hp
  · exact br_f (nI_pos hj) (br_t (nI_le h1 hj) hp)
theorem wx_ok_t {post : Int32 → Prop} {c n : Int32} {m i : Nat} {gb rl : Nat → Int32} (hm : m ≤ 8) (h : wh_ok m i) (hp : post 1) : wpX_isValidId post (c, nI m, n, gb, rl) (nI i) := by
  have hi := wh_ok12 hm h
  unfold wh_ok at h
  unfold wpX_isValidId
  by_cases q : i < m
  · exact wx_val_t hm q (br_f (by decide) hp)
  · exact wx_val_f (Or.inr ⟨i, by omega, rfl, by omega⟩) (br_t rfl (wx_res_t (by omega) hi (br_f (by decide) hp)))
theorem wx_ok_f {post : Int32 → Prop} {c n : Int32} {m : Nat} {id : Int32} {gb rl : Nat → Int32} (h : id < 0 ∨ ∃ j, j < 2 ^ 31 ∧ id = nI j ∧ m ≤ j ∧ ¬ (8 ≤ j ∧ j < 12)) (hp : post 0) : wpX_isValidId post (c, nI m, n, gb, rl) id := by
  unfold wpX_isValidId
  have hr : id < 8 ∨ 12 ≤ id := by
    rcases h with h | ⟨j, hj, rfl, h1, h2⟩
    · exact Or.inl (Int32.lt_trans h (by decide))
    · rw [wh_lt8 hj, wh_le12 hj]
      omega
  have hv : id < 0 ∨ ∃ j, j < 2 ^ 31 ∧ id = nI j ∧ m ≤ j := by
    rcases h with h | ⟨j, hj, e, h1, h2⟩
    · exact Or.inl h
    · exact Or.inr ⟨j, hj, e, h1⟩
  exact wx_val_f hv (br_t rfl (wx_res_f hr (br_t rfl hp)))
theorem wx_len {post : Int32 → Prop} {c m n i : Nat} {L : Nat → Nat} {gb rl : Nat → Int32} {cc mm : Int32} (hN : wh_N c m n L rl) (hi : wh_ok m i) (hp : post (nI (wh_Len n L i))) : wpX_lengthOf post (cc, mm, nI n, gb, rl) (nI i) := by
  obtain ⟨h1, h2, h3, h4, h5⟩ := hN
  have h12 := wh_ok12 h2 hi
  unfold wpX_lengthOf
  rcases Nat.lt_or_ge i 8 with h8 | h8
  · rw [wh_Lv h8] at hp
    exact wx_res_f (Or.inl (nI_lt (b := 8) h8 (by decide))) (br_t rfl hp)
  · rw [wh_Lr h8, ← (h5 (i - 8) (by omega)).1] at hp
    refine wx_res_t h8 h12 (br_f (by decide) ?_)
    rw [wh_s8 h8, nI_clamp (by omega)]
    exact ⟨vp_in_nI (by omega) (by omega), hp⟩
theorem wx_bit0 {post : Int32 → Prop} {i r : Nat} {gb rl : Nat → Int32} {cc mm nn : Int32} (hi : i < 12) (hr : r < 496) (hp : post (wh_z (bt (gb (i * 16 + r / 31)) (r % 31)))) : wpX_bitAt post (cc, mm, nn, gb, rl) (nI i) (nI r) := by
  unfold wpX_bitAt
  dsimp only
  rw [wh_r31 (show r < 2 ^ 31 by omega), wh_x16 (show r < 2 ^ 31 by omega), nI_clamp (show i * 16 + r / 31 < 2 ^ 31 by omega)]
  refine ⟨by decide, vp_in_nI (by omega) (by decide), nm_e ⟨by decide, ?_⟩⟩
  rw [wh_tst _ (r % 31) (by omega)]
  cases h : bt (gb (i * 16 + r / 31)) (r % 31)
  · rw [h] at hp
    exact br_f (by decide) hp
  · rw [h] at hp
    exact br_t (by decide) hp
theorem wx_bit {post : Int32 → Prop} {m n i r : Nat} {L : Nat → Nat} {gb rl va re : Nat → Int32} {cc mm nn : Int32} (hG : wh_Gb m n L gb va re) (hm : m ≤ 8) (hi : wh_ok m i) (hr : r < 496) (hp : post (wh_z (wh_B n L va re i r))) : wpX_bitAt post (cc, mm, nn, gb, rl) (nI i) (nI r) := by
  rw [← wh_rd hG hi hr] at hp
  exact wx_bit0 (wh_ok12 hm hi) hr hp
theorem wx_mask {post : Int32 → Prop} {l g : Nat} (hl : l ≤ 496) (hg : g < 16) (hp : post (wh_ma l g)) : wpX_groupMask post (nI l) (nI g) := by
  unfold wpX_groupMask
  rw [wh_31m g]
  by_cases h1 : l ≤ 31 * g
  · have e : wh_ma l g = 0 := if_pos h1
    rw [e] at hp
    refine nm_e (br_f ?_ hp)
    rw [Int32.lt_iff_toInt_lt, pk_sub_toInt (by omega) (by omega), show (0 : Int32).toInt = 0 from by decide]
    omega
  · refine nm_r (pk_sub (show g * 31 ≤ l by omega)) ?_
    refine br_t (nI_lt (a := 0) (show 0 < l - g * 31 by omega) (by omega)) ?_
    by_cases h2 : 31 * g + 31 ≤ l
    · have e : wh_ma l g = 2147483647 := (if_neg h1).trans (if_pos h2)
      rw [e] at hp
      exact br_f (nI_nlt (b := 31) (by omega) (by omega)) hp
    · have e : wh_ma l g = ((1 : Int32) <<< (nI (l - 31 * g) &&& 31)) - 1 := (if_neg h1).trans (if_neg h2)
      rw [e, show l - 31 * g = l - g * 31 by omega] at hp
      exact br_t (nI_lt (b := 31) (by omega) (by decide)) hp
theorem wx_cg {post : Int32 → Prop} {o : Nat} {x y : Int32} (h1 : 1 ≤ o) (h6 : o ≤ 6) (hp : post (wh_oI o x y)) : wpX_combineGroups post (nI o) x y := by
  unfold wpX_combineGroups
  refine br_f (nI_nlt (b := 1) h1 (by omega)) ?_
  by_cases h : o = 6
  · subst h
    exact br_t (by decide) hp
  · refine br_f (nI_nlt (a := 5) (by omega) (by decide)) ?_
    have h5 : o = 1 ∨ o = 2 ∨ o = 3 ∨ o = 4 ∨ o = 5 := by omega
    rcases h5 with e | e | e | e | e
    · subst e
      exact br_t (by decide) hp
    · subst e
      exact br_f (by decide) (br_t (by decide) hp)
    · subst e
      exact br_f (by decide) (br_f (by decide) (br_t (by decide) hp))
    · subst e
      exact br_f (by decide) (br_f (by decide) (br_f (by decide) (br_t (by decide) hp)))
    · subst e
      exact br_f (by decide) (br_f (by decide) (br_f (by decide) (br_f (by decide) (br_t (by decide) hp))))
theorem wx_gc {post : Int32 → Prop} {l : Nat} (hl : l ≤ 496) (hp : post (nI ((l + 30) / 31))) : wpX_groupCount post (nI l) := by
  unfold wpX_groupCount
  rw [wh_gcX hl]
  exact ⟨by decide, hp⟩
theorem wh_kn {v : Nat → Int32} {L g : Nat} (h : ¬ wh_k v L g = 2) : 31 * g + 31 ≤ L ∧ (v g = 0 ∨ v g = 2147483647) := by
  by_cases hf : 31 * g + 31 ≤ L
  · refine ⟨hf, ?_⟩
    by_cases h0 : v g = 0
    · exact Or.inl h0
    · by_cases h1 : v g = 2147483647
      · exact Or.inr h1
      · exact absurd (wh_k2 h0 h1) h
  · exact absurd (wh_kp hf) h
theorem wx_fg {post : Int32 → Prop} {i l g : Nat} {gb rl : Nat → Int32} {cc mm nn : Int32} (hi : i < 12) (hg : g < 16) (hl : l ≤ 496) (h2 : wh_k (wh_v gb i) l g = 2 → post 0) (h1 : ¬ wh_k (wh_v gb i) l g = 2 → post 1) : wpX_isFillGroup post (cc, mm, nn, gb, rl) (nI i) (nI l) (nI g) := by
  unfold wpX_isFillGroup
  dsimp only
  have e : (nI g + 1) * 31 = nI (31 * g + 31) := by
    rw [nI_1]
    exact (pk_mul (g + 1) 31).trans (congrArg nI (by omega))
  rw [wh_i16, nI_clamp (show i * 16 + g < 2 ^ 31 by omega), e]
  refine ⟨vp_in_nI (by omega) (by decide), nm_e ?_⟩
  refine pk_lt l (31 * g + 31) (fun h => ?_) (fun h => ?_)
  · exact br_t rfl (h2 (wh_kp (by omega)))
  · refine br_f (by decide) ?_
    by_cases z0 : gb (i * 16 + g) = 0
    · refine br_t z0 (h1 ?_)
      rw [wh_k0 (v := wh_v gb i) h z0]
      decide
    · refine br_f z0 ?_
      by_cases z1 : gb (i * 16 + g) = 2147483647
      · refine br_t z1 (h1 ?_)
        rw [wh_k1 (v := wh_v gb i) h z1]
        decide
      · exact br_f z1 (h2 (wh_k2 (v := wh_v gb i) z0 z1))
theorem wx_sw {post : Int32 → Prop} {i l g : Nat} {gb rl : Nat → Int32} {cc mm nn : Int32} (hi : i < 12) (hg : g < 16) (hl : l ≤ 496) (hf : wh_st (wh_v gb i) l g = false → post 0) (ht : wh_st (wh_v gb i) l g = true → post 1) : wpX_startsWord post (cc, mm, nn, gb, rl) (nI i) (nI l) (nI g) := by
  unfold wpX_startsWord
  dsimp only
  cases g with
  | zero => exact br_t nI_0 (ht (wh_st0 _ _))
  | succ t =>
    refine br_f (nI_ne0 (by omega) (by omega)) (wx_fg hi hg hl (fun k => br_t rfl (ht (wh_st_t (Or.inl k)))) (fun k => br_f (by decide) (nm_r (wh_i16 i (t + 1)) ?_)))
    have e : nI (i * 16 + (t + 1)) - 1 = nI (i * 16 + t) := nI_pred (i * 16 + t)
    rw [e, nI_clamp (show i * 16 + (t + 1) < 2 ^ 31 by omega), nI_clamp (show i * 16 + t < 2 ^ 31 by omega)]
    refine ⟨vp_in_nI (by omega) (by decide), vp_in_nI (by omega) (by decide), ?_⟩
    obtain ⟨k1, k2⟩ := wh_kn k
    obtain ⟨a, b⟩ := wh_sx k1 k2
    exact br_c (fun z => hf (a z)) (fun z => ht (b z))
theorem wx_wf {post : Int32 → Prop} {i l s : Nat} {gb rl : Nat → Int32} {cc mm nn : Int32} (hi : i < 12) (hl : l ≤ 496) (hs : s < (l + 30) / 31) (h2 : wh_k (wh_v gb i) l s = 2 → post (wh_v gb i s)) (h1 : ¬ wh_k (wh_v gb i) l s = 2 → ∀ e, s < e → e ≤ (l + 30) / 31 → (∀ t, s < t → t < e → wh_st (wh_v gb i) l t = false) → (e = (l + 30) / 31 ∨ wh_st (wh_v gb i) l e = true) → post (wh_wd (wh_v gb i) l s (e - s))) : wpX_wordFrom post (cc, mm, nn, gb, rl) (nI i) (nI l) (nI s) := by
  have hG : (l + 30) / 31 ≤ 16 := by omega
  unfold wpX_wordFrom
  dsimp only
  rw [wh_i16, nI_clamp (show i * 16 + s < 2 ^ 31 by omega)]
  refine ⟨vp_in_nI (by omega) (by decide), nm_e (wx_fg hi (by omega) hl (fun k => br_t rfl (h2 k)) (fun k => br_f (by decide) (wx_gc hl (nm_r (nI_1 s) ?_))))⟩
  have t61 : ∀ e, s < e → e ≤ (l + 30) / 31 → (∀ t, s < t → t < e → wh_st (wh_v gb i) l t = false) → (e = (l + 30) / 31 ∨ wh_st (wh_v gb i) l e = true) → wX_wordFrom_61 post (nI s) (gb (i * 16 + s)) (nI e) cc mm nn gb rl := by
    intro e e1 e2 e3 e4
    have q := h1 k e e1 e2 e3 e4
    unfold wX_wordFrom_61 wX_wordFrom_72
    rw [pk_sub (show s ≤ e by omega)]
    rcases wh_k012 (wh_v gb i) l s with z | z | z
    · rw [wh_wd0 _ z] at q
      refine br_t (wh_k0' (v := wh_v gb i) z) ?_
      rw [show ((-2147483648 : Int32) ||| 0) = -2147483648 from by decide]
      exact q
    · rw [wh_wd1 _ z] at q
      have z1 : gb (i * 16 + s) = 2147483647 := wh_k1' (v := wh_v gb i) z
      refine br_f (by rw [z1]; decide) ?_
      rw [show ((-2147483648 : Int32) ||| 1073741824) = -1073741824 from by decide]
      exact q
    · exact absurd z k
  have loop : ∀ d e, e + d = (l + 30) / 31 → s < e → (∀ t, s < t → t < e → wh_st (wh_v gb i) l t = false) → wX_wordFrom_37 post (nI i) (nI l) (nI s) (gb (i * 16 + s)) (nI ((l + 30) / 31)) cc mm nn gb rl (d + 1) (nI e) := by
    intro d
    induction d with
    | zero =>
      intro e e1 e2 e3
      exact br_t (nI_le (by omega) (by omega)) (t61 e e2 (by omega) e3 (Or.inl (by omega)))
    | succ d ih =>
      intro e e1 e2 e3
      refine br_f (nI_ge (by omega) (by omega)) (wx_sw hi (by omega) hl (fun z => br_t rfl (nm_r (nI_1 e) (ih (e + 1) (by omega) (by omega) (fun t a b => ?_)))) (fun z => br_f (by decide) (t61 e e2 (by omega) e3 (Or.inr z))))
      by_cases q : t = e
      · rw [q]
        exact z
      · exact e3 t a (by omega)
  exact ⟨_, loop ((l + 30) / 31 - (s + 1)) (s + 1) (by omega) (by omega) (fun t a b => absurd a (by omega))⟩
theorem wx_sg {post : Int32 → Prop} {m g : Nat} {lo hi : Int32} {gb rl : Nat → Int32} {cc nn : Int32} (hm : m ≤ 8) (hg : g < 16) (hp : post (wh_sg gb g lo hi m)) : wpX_selectGroup post (cc, nI m, nn, gb, rl) (nI g) lo hi := by
  have loop : ∀ d t, t + d = m → wX_selectGroup_6 post (nI g) lo hi cc (nI m) nn gb rl (d + 1) (wh_sg gb g lo hi t) (nI t) := by
    intro d
    induction d with
    | zero =>
      intro t e
      have e2 : t = m := by omega
      rw [e2]
      exact br_t (nI_le (Nat.le_refl m) (by omega)) hp
    | succ d ih =>
      intro t e
      have q := ih (t + 1) (by omega)
      refine br_f (nI_ge (by omega) (by omega)) ?_
      by_cases a : nI t < lo
      · rw [wh_sgf (fun z => Int32.not_le.mpr a z.1)] at q
        exact br_t a (nm_r (nI_1 t) q)
      · refine br_f a ?_
        by_cases b : hi < nI t
        · rw [wh_sgf (fun z => Int32.not_le.mpr b z.2)] at q
          exact br_t b (nm_r (nI_1 t) q)
        · rw [wh_sgt ⟨Int32.not_lt.mp a, Int32.not_lt.mp b⟩] at q
          refine br_f b ?_
          rw [wh_i16, nI_clamp (show t * 16 + g < 2 ^ 31 by omega)]
          exact ⟨vp_in_nI (by omega) (by decide), nm_e (nm_r (nI_1 t) q)⟩
  unfold wpX_selectGroup
  exact ⟨m + 1, loop m 0 (by omega)⟩
end
section
/-- the relation: the same numbers, the same lengths, and each group of the class holds the reference's bits -/
def i_Rel (k : Nat) (u : SX) (v : SY) : Prop :=
  match u with
  | (cap, vc, rc, gb, rl) => match v with
    | (ycap, yvc, yn, va, re, yrl, tm) => ∃ (c m n : Nat) (L : Nat → Nat), cap = nI c ∧ vc = nI m ∧ rc = nI n ∧ ycap = nI c ∧ yvc = nI m ∧ yn = nI n ∧ yrl = rl ∧ wh_R c m n L gb rl va re
theorem i_up {k : Nat} {u : SX} {v : SY} (h : i_Rel k u v) : i_Rel (k + 5) u v := h
theorem wh_mkR {k c m n : Nat} {L : Nat → Nat} {gb rl va re tm : Nat → Int32} (h : wh_R c m n L gb rl va re) : i_Rel k (nI c, nI m, nI n, gb, rl) (nI c, nI m, nI n, va, re, rl, tm) := ⟨c, m, n, L, rfl, rfl, rfl, rfl, rfl, rfl, rfl, h⟩
theorem wh_start (c m : Nat) (h1 : 1 ≤ m) (h2 : m ≤ 8) (h3 : c ≤ 496) : wh_R c m 0 (fun _ => 0) (fun _ => 0) (fun _ => 0) (fun _ => 0) (fun _ => 0) := by
  refine ⟨⟨h1, h2, Nat.zero_le c, h3, fun j _ => ⟨rfl, Nat.zero_le c⟩⟩, fun r hr => absurd hr (Nat.not_lt_zero r), fun k => Or.inl rfl, fun id _ g _ => ⟨b_0 31, fun i _ => ?_⟩⟩
  rw [wh_Bge (by unfold wh_Len; split <;> exact Nat.zero_le _)]
  exact b_0 i
/-! a number brought between two bounds -/
theorem wh_cl (x : Int32) (N : Nat) (h1 : 1 ≤ N) (hN : N < 2 ^ 31) : ∃ k, 1 ≤ k ∧ k ≤ N ∧ ((x < 1 ∧ k = 1) ∨ (¬ x < 1 ∧ nI N < x ∧ k = N) ∨ (¬ x < 1 ∧ ¬ nI N < x ∧ x = nI k)) := by
  rcases wh_decC (k := N) x hN with h | ⟨h, h2⟩ | ⟨j, a, b, e⟩
  · exact ⟨1, by omega, h1, Or.inl ⟨h, rfl⟩⟩
  · exact ⟨N, h1, by omega, Or.inr (Or.inl ⟨h, h2, rfl⟩)⟩
  · refine ⟨j, a, b, Or.inr (Or.inr ⟨?_, ?_, e⟩)⟩
    · rw [e]
      exact nI_nlt (b := 1) a (by omega)
    · rw [e]
      exact nI_nlt b hN
theorem wx_cl {post : Int32 → Prop} {x : Int32} {N k : Nat} (h1 : 1 ≤ N) (hN : N < 2 ^ 31) (h : (x < 1 ∧ k = 1) ∨ (¬ x < 1 ∧ nI N < x ∧ k = N) ∨ (¬ x < 1 ∧ ¬ nI N < x ∧ x = nI k)) (hp : post (nI k)) : wpX_clamp post x 1 (nI N) := by
  unfold wpX_clamp
  rcases h with ⟨a, e⟩ | ⟨a, b, e⟩ | ⟨a, b, e⟩
  · subst e
    exact br_f (Int32.not_le.mpr a) hp
  · subst e
    exact br_t (Int32.not_lt.mp a) (br_f (Int32.not_le.mpr b) hp)
  · subst e
    exact br_t (Int32.not_lt.mp a) (br_t (Int32.not_lt.mp b) hp)
theorem i_vc0 (k0 : Int32) (k1 : Int32) : wpX_init (fun u => wpY_init (fun v => i_Rel 2 u v) k0 k1) k0 k1 := by
  obtain ⟨g, g1, g2, g3⟩ := wh_cl k0 16 (by decide) (by decide)
  obtain ⟨m, m1, m2, m3⟩ := wh_cl k1 8 (by decide) (by decide)
  unfold wpX_init
  refine wx_cl (N := 16) (by decide) (by decide) g3 (nm_r (wh_m31 g) (wx_cl (N := 8) (by decide) (by decide) m3 ?_))
  have fin : wY_init_79 (fun v => i_Rel 2 (nI (31 * g), nI m, 0, (fun _ => 0), (fun _ => 0)) v) (nI g) (nI m) 0 0 0 (fun _ => 0) (fun _ => 0) (fun _ => 0) (fun _ => 0) := by
    unfold wY_init_79
    exact nm_r (wh_m31 g) (wh_mkR (wh_start (31 * g) m m1 m2 (by omega)))
  have f56 : wY_init_56 (fun v => i_Rel 2 (nI (31 * g), nI m, 0, (fun _ => 0), (fun _ => 0)) v) k1 (nI g) 0 0 0 (fun _ => 0) (fun _ => 0) (fun _ => 0) (fun _ => 0) := by
    unfold wY_init_56 wY_init_68
    rcases m3 with ⟨a, e⟩ | ⟨a, b, e⟩ | ⟨a, b, e⟩
    · subst e
      exact br_f (Int32.not_le.mpr a) (br_t (by decide) fin)
    · subst e
      exact br_t (Int32.not_lt.mp a) (br_f (Int32.not_le.mpr b) fin)
    · subst e
      exact br_t (Int32.not_lt.mp a) (br_t (Int32.not_lt.mp b) fin)
  unfold wpY_init wY_init_47
  rcases g3 with ⟨a, e⟩ | ⟨a, b, e⟩ | ⟨a, b, e⟩
  · subst e
    exact br_f (Int32.not_le.mpr a) (br_t (by decide) f56)
  · subst e
    exact br_t (Int32.not_lt.mp a) (br_f (Int32.not_le.mpr b) f56)
  · subst e
    exact br_t (Int32.not_lt.mp a) (br_t (Int32.not_lt.mp b) f56)
theorem i_vc_getRowCount {k : Nat} {u : SX} {v : SY} (I : i_Rel k u v) (hk : k + 5 ≤ 2562) : wpX_getRowCount (fun r => wpY_getRowCount (fun r' => r' = r ∧ i_Rel (k + 5) u v) v) u := by
  have J := I
  obtain ⟨cap, vc, rc, gb, rl⟩ := u
  obtain ⟨ycap, yvc, yn, va, re, yrl, tm⟩ := v
  obtain ⟨c, m, n, L, rfl, rfl, rfl, rfl, rfl, rfl, rfl, hN, hV, hR, hG⟩ := I
  exact ⟨rfl, J⟩
theorem i_vc_getCapacity {k : Nat} {u : SX} {v : SY} (I : i_Rel k u v) (hk : k + 5 ≤ 2562) : wpX_getCapacity (fun r => wpY_getCapacity (fun r' => r' = r ∧ i_Rel (k + 5) u v) v) u := by
  have J := I
  obtain ⟨cap, vc, rc, gb, rl⟩ := u
  obtain ⟨ycap, yvc, yn, va, re, yrl, tm⟩ := v
  obtain ⟨c, m, n, L, rfl, rfl, rfl, rfl, rfl, rfl, rfl, hN, hV, hR, hG⟩ := I
  exact ⟨rfl, J⟩
theorem i_vc_getValueCount {k : Nat} {u : SX} {v : SY} (I : i_Rel k u v) (hk : k + 5 ≤ 2562) : wpX_getValueCount (fun r => wpY_getValueCount (fun r' => r' = r ∧ i_Rel (k + 5) u v) v) u := by
  have J := I
  obtain ⟨cap, vc, rc, gb, rl⟩ := u
  obtain ⟨ycap, yvc, yn, va, re, yrl, tm⟩ := v
  obtain ⟨c, m, n, L, rfl, rfl, rfl, rfl, rfl, rfl, rfl, hN, hV, hR, hG⟩ := I
  exact ⟨rfl, J⟩
theorem i_vc_getLength {k : Nat} {u : SX} {v : SY} (I : i_Rel k u v) (hk : k + 5 ≤ 2562) (v1 : Int32) : wpX_getLength (fun r => wpY_getLength (fun r' => r' = r ∧ i_Rel (k + 5) u v) v v1) u v1 := by
  have J := I
  obtain ⟨cap, vc, rc, gb, rl⟩ := u
  obtain ⟨ycap, yvc, yn, va, re, yrl, tm⟩ := v
  obtain ⟨c, m, n, L, rfl, rfl, rfl, rfl, rfl, rfl, rfl, hN, hV, hR, hG⟩ := I
  unfold wpX_getLength wpY_getLength
  rcases wh_dec m v1 with ⟨i, rfl, hi⟩ | bad
  · exact wx_ok_t hN.2.1 hi (br_f (by decide) (wx_len hN hi (wy_ok_t hN.2.1 hi (br_f (by decide) (wy_len hN hi ⟨rfl, J⟩)))))
  · exact wx_ok_f bad (br_t rfl (wy_ok_f bad (br_t rfl ⟨rfl, J⟩)))
theorem i_vc_testBit {k : Nat} {u : SX} {v : SY} (I : i_Rel k u v) (hk : k + 5 ≤ 2562) (v1 : Int32) (v2 : Int32) : wpX_testBit (fun r => wpY_testBit (fun r' => r' = r ∧ i_Rel (k + 5) u v) v v1 v2) u v1 v2 := by
  have J := I
  obtain ⟨cap, vc, rc, gb, rl⟩ := u
  obtain ⟨ycap, yvc, yn, va, re, yrl, tm⟩ := v
  obtain ⟨c, m, n, L, rfl, rfl, rfl, rfl, rfl, rfl, rfl, hN, hV, hR, hG⟩ := I
  unfold wpX_testBit wpY_testBit
  rcases wh_dec m v1 with ⟨i, rfl, hi⟩ | bad
  · refine wx_ok_t hN.2.1 hi (br_f (by decide) ?_)
    by_cases z : v2 < 0
    · exact br_t z (wy_bitN hN hi z ⟨rfl, rfl, J⟩)
    · obtain ⟨r, hr, rfl⟩ := nI_of z
      have hl := wh_Lle hN hi
      refine br_f z (wx_len hN hi ?_)
      refine pk_lt r (wh_Len n L i) (fun q => ?_) (fun q => ?_)
      · exact wx_bit hG hN.2.1 hi (by omega) ⟨wh_nb _, wy_bit hN hR hi hr ⟨wh_nb _, rfl, J⟩⟩
      · refine wy_bit hN hR hi hr ?_
        rw [wh_Bge q]
        exact ⟨rfl, rfl, J⟩
  · exact wx_ok_f bad (br_t rfl (wy_bitI bad ⟨rfl, rfl, J⟩))
theorem wh_cnt {c m n i : Nat} {L : Nat → Nat} {gb rl va re tm : Nat → Int32} (hN : wh_N c m n L rl) (hR : wh_Re re) (hG : wh_Gb m n L gb va re) (hi : wh_ok m i) : ∀ (d t : Nat) (x : Int32), t + d = wh_Len n L i → ∃ z, (∀ post : Int32 → Prop, post z → wX_countBits_21 post (nI i) (nI (wh_Len n L i)) (nI c) (nI m) (nI n) gb rl (d + 1) x (nI t)) ∧ (∀ post : Int32 → Prop, post z → wY_countBits_21 post (nI i) (nI (wh_Len n L i)) (nI c) (nI m) (nI n) va re rl tm (d + 1) x (nI t)) := by
  have hl := wh_Lle hN hi
  intro d
  induction d with
  | zero =>
    intro t x e
    have h : nI (wh_Len n L i) ≤ nI t := nI_le (by omega) (by omega)
    exact ⟨x, fun post hp => br_t h hp, fun post hp => br_t h hp⟩
  | succ d ih =>
    intro t x e
    have h : ¬ nI (wh_Len n L i) ≤ nI t := nI_ge (by omega) (by omega)
    cases hb : wh_B n L va re i t with
    | false =>
      obtain ⟨z, hX, hY⟩ := ih (t + 1) x (by omega)
      refine ⟨z, fun post hp => br_f h (wx_bit hG hN.2.1 hi (by omega) ?_), fun post hp => br_f h (wy_bit hN hR hi (by omega) ?_)⟩
      · rw [hb]
        exact br_t rfl (nm_r (nI_1 t) (hX post hp))
      · rw [hb]
        exact br_t rfl (nm_r (nI_1 t) (hY post hp))
    | true =>
      obtain ⟨z, hX, hY⟩ := ih (t + 1) (x + 1) (by omega)
      refine ⟨z, fun post hp => br_f h (wx_bit hG hN.2.1 hi (by omega) ?_), fun post hp => br_f h (wy_bit hN hR hi (by omega) ?_)⟩
      · rw [hb]
        exact br_f (by decide) (nm_e (nm_r (nI_1 t) (hX post hp)))
      · rw [hb]
        exact br_f (by decide) (nm_e (nm_r (nI_1 t) (hY post hp)))
theorem i_vc_countBits {k : Nat} {u : SX} {v : SY} (I : i_Rel k u v) (hk : k + 5 ≤ 2562) (v1 : Int32) : wpX_countBits (fun r => wpY_countBits (fun r' => r' = r ∧ i_Rel (k + 5) u v) v v1) u v1 := by
  have J := I
  obtain ⟨cap, vc, rc, gb, rl⟩ := u
  obtain ⟨ycap, yvc, yn, va, re, yrl, tm⟩ := v
  obtain ⟨c, m, n, L, rfl, rfl, rfl, rfl, rfl, rfl, rfl, hN, hV, hR, hG⟩ := I
  unfold wpX_countBits wpY_countBits
  rcases wh_dec m v1 with ⟨i, rfl, hi⟩ | bad
  · obtain ⟨z, hX, hY⟩ := wh_cnt (tm := tm) hN hR hG hi (wh_Len n L i) 0 0 (by omega)
    exact wx_ok_t hN.2.1 hi (br_f (by decide) (wx_len hN hi ⟨_, hX _ (wy_ok_t hN.2.1 hi (br_f (by decide) (wy_len hN hi ⟨_, hY _ ⟨rfl, J⟩⟩)))⟩))
  · exact wx_ok_f bad (br_t rfl (wy_ok_f bad (br_t rfl ⟨rfl, J⟩)))
theorem wh_nxt {c m n i : Nat} {L : Nat → Nat} {gb rl va re tm : Nat → Int32} (hN : wh_N c m n L rl) (hR : wh_Re re) (hG : wh_Gb m n L gb va re) (hi : wh_ok m i) : ∀ (d t : Nat), t + d = wh_Len n L i → ∃ z, (∀ post : Int32 → Prop, post z → wX_nextSetRow_27 post (nI i) (nI (wh_Len n L i)) (nI c) (nI m) (nI n) gb rl (d + 1) (nI t)) ∧ (∀ post : Int32 → Prop, post z → wY_nextSetRow_31 post (nI i) (nI (wh_Len n L i)) (nI c) (nI m) (nI n) va re rl tm (d + 1) (nI t)) := by
  have hl := wh_Lle hN hi
  intro d
  induction d with
  | zero =>
    intro t e
    have h : nI (wh_Len n L i) ≤ nI t := nI_le (by omega) (by omega)
    exact ⟨-1, fun post hp => br_t h hp, fun post hp => br_t h hp⟩
  | succ d ih =>
    intro t e
    have h : ¬ nI (wh_Len n L i) ≤ nI t := nI_ge (by omega) (by omega)
    cases hb : wh_B n L va re i t with
    | false =>
      obtain ⟨z, hX, hY⟩ := ih (t + 1) (by omega)
      refine ⟨z, fun post hp => br_f h (wx_bit hG hN.2.1 hi (by omega) ?_), fun post hp => br_f h (wy_bit hN hR hi (by omega) ?_)⟩
      · rw [hb]
        exact br_t rfl (nm_r (nI_1 t) (hX post hp))
      · rw [hb]
        exact br_t rfl (nm_r (nI_1 t) (hY post hp))
    | true =>
      refine ⟨nI t, fun post hp => br_f h (wx_bit hG hN.2.1 hi (by omega) ?_), fun post hp => br_f h (wy_bit hN hR hi (by omega) ?_)⟩
      · rw [hb]
        exact br_f (by decide) hp
      · rw [hb]
        exact br_f (by decide) hp
theorem i_vc_nextSetRow {k : Nat} {u : SX} {v : SY} (I : i_Rel k u v) (hk : k + 5 ≤ 2562) (v1 : Int32) (v2 : Int32) : wpX_nextSetRow (fun r => wpY_nextSetRow (fun r' => r' = r ∧ i_Rel (k + 5) u v) v v1 v2) u v1 v2 := by
  have J := I
  obtain ⟨cap, vc, rc, gb, rl⟩ := u
  obtain ⟨ycap, yvc, yn, va, re, yrl, tm⟩ := v
  obtain ⟨c, m, n, L, rfl, rfl, rfl, rfl, rfl, rfl, rfl, hN, hV, hR, hG⟩ := I
  unfold wpX_nextSetRow wpY_nextSetRow
  rcases wh_dec m v1 with ⟨i, rfl, hi⟩ | bad
  · refine wx_ok_t hN.2.1 hi (br_f (by decide) (wx_len hN hi ?_))
    have hl := wh_Lle hN hi
    by_cases z : v2 < 0
    · have z' : ¬ 0 ≤ v2 := Int32.not_le.mpr z
      obtain ⟨a, hX, hY⟩ := wh_nxt (tm := tm) hN hR hG hi (wh_Len n L i) 0 (by omega)
      exact br_f z' ⟨_, hX _ (wy_ok_t hN.2.1 hi (br_f (by decide) (wy_len hN hi (br_f z' ⟨_, hY _ ⟨rfl, J⟩⟩))))⟩
    · obtain ⟨t, ht, rfl⟩ := nI_of z
      have z' : 0 ≤ nI t := nI_pos' ht
      by_cases q : t ≤ wh_Len n L i
      · obtain ⟨a, hX, hY⟩ := wh_nxt (tm := tm) hN hR hG hi (wh_Len n L i - t) t (by omega)
        exact br_t z' ⟨_, hX _ (wy_ok_t hN.2.1 hi (br_f (by decide) (wy_len hN hi (br_t z' ⟨_, hY _ ⟨rfl, J⟩⟩))))⟩
      · have h : nI (wh_Len n L i) ≤ nI t := nI_le (by omega) ht
        exact br_t z' ⟨1, br_t h (wy_ok_t hN.2.1 hi (br_f (by decide) (wy_len hN hi (br_t z' ⟨1, br_t h ⟨rfl, J⟩⟩))))⟩
  · exact wx_ok_f bad (br_t rfl (wy_ok_f bad (br_t rfl ⟨rfl, J⟩)))
end
section
/-! the walk over the groups -/
theorem wy_102 {post : Int32 → Prop} {J : Int32 → Int32 → Int32 → Int32 → Int32 → Prop} {v : Nat → Int32} {l g : Nat} {x1 idx x3 x4 x5 cc mm nn a0 a1 : Int32} {va re rl tm : Nat → Int32}
    (hA : (wh_w (wh_W (wh_st v l) (g + 1)) = idx → a1 = wh_wd v l g (g + 1 - wh_S (wh_st v l) (g + 1))) ∧ (¬ wh_w (wh_W (wh_st v l) (g + 1)) = idx → a1 = a0))
    (h : J (wh_w (wh_W (wh_st v l) (g + 1))) (wh_k v l g) (nI (g + 1 - wh_S (wh_st v l) (g + 1))) a1 (nI (g + 1))) :
    wY_walk_102 post J x1 idx x3 x4 x5 (wh_w (wh_W (wh_st v l) g)) (wh_pk v l g) (nI (g - wh_S (wh_st v l) g)) a0 (nI g) (v g) (wh_k v l g) cc mm nn va re rl tm := by
  have t166 : ∀ word : Int32, word = wh_wd v l g (g + 1 - wh_S (wh_st v l) (g + 1)) → wY_walk_166 post J x1 idx x3 x4 x5 (wh_w (wh_W (wh_st v l) (g + 1))) (wh_k v l g) (nI (g + 1 - wh_S (wh_st v l) (g + 1))) a0 (nI g) word cc mm nn va re rl tm := by
    intro word hw
    obtain ⟨a, b⟩ := hA
    unfold wY_walk_166
    refine br_c (fun z => nm_r (nI_1 g) ?_) (fun z => nm_r (nI_1 g) ?_)
    · rw [hw, ← a z]
      exact h
    · rw [← b z]
      exact h
  have t127 : wY_walk_127 post J x1 idx x3 x4 x5 (wh_w (wh_W (wh_st v l) (g + 1))) (nI (g + 1 - wh_S (wh_st v l) (g + 1))) a0 (nI g) (v g) (wh_k v l g) cc mm nn va re rl tm := by
    unfold wY_walk_127
    rcases wh_k012 v l g with k | k | k
    · exact br_f (by rw [k]; decide) (br_t k (nm_e (t166 _ (wh_wd0 _ k).symm)))
    · exact br_f (by rw [k]; decide) (br_f (by rw [k]; decide) (nm_e (t166 _ (wh_wd1 _ k).symm)))
    · exact br_t k (t166 _ (wh_wd2 _ k).symm)
  have t121 : wh_st v l g = true → wY_walk_121 post J x1 idx x3 x4 x5 (wh_w (wh_W (wh_st v l) g)) a0 (nI g) (v g) (wh_k v l g) cc mm nn va re rl tm := by
    intro hs
    unfold wY_walk_121
    refine nm_r (wh_uT hs) ?_
    have q := t127
    rw [← wh_cT hs] at q
    exact q
  unfold wY_walk_102
  by_cases k2 : wh_k v l g = 2
  · exact br_t k2 (t121 (wh_st_t (Or.inl k2)))
  · by_cases kp : wh_k v l g = wh_pk v l g
    · have hs := wh_st_f k2 kp
      refine br_f k2 (br_t kp (nm_r (wh_cF hs) ?_))
      rw [wh_uF hs]
      exact t127
    · exact br_f k2 (br_f kp (t121 (wh_st_t (Or.inr kp))))
theorem wy_walk {post : Int32 → Prop} {c m n i : Nat} {L : Nat → Nat} {gb rl va re tm : Nat → Int32} {cc idx wc : Int32} {A : Nat → Int32} (hN : wh_N c m n L rl) (hR : wh_Re re) (hG : wh_Gb m n L gb va re) (hi : wh_ok m i) (hA0 : A 0 = 0)
    (hA : ∀ g, g < 16 → (wh_w (wh_W (wh_st (wh_v gb i) (wh_Len n L i)) (g + 1)) = idx → A (g + 1) = wh_wd (wh_v gb i) (wh_Len n L i) g (g + 1 - wh_S (wh_st (wh_v gb i) (wh_Len n L i)) (g + 1))) ∧ (¬ wh_w (wh_W (wh_st (wh_v gb i) (wh_Len n L i)) (g + 1)) = idx → A (g + 1) = A g))
    (hp0 : wc = 0 → post (A ((wh_Len n L i + 30) / 31))) (hp1 : ¬ wc = 0 → post (nI (wh_W (wh_st (wh_v gb i) (wh_Len n L i)) ((wh_Len n L i + 30) / 31)))) : wpY_walk post (cc, nI m, nI n, va, re, rl, tm) (nI i) idx wc := by
  have hl := wh_Lle hN hi
  unfold wpY_walk
  refine wy_len hN hi ⟨by decide, nm_r (wh_gcY hl) ?_⟩
  generalize wh_Len n L i = l at hl hA hp0 hp1 ⊢
  have hG16 : (l + 30) / 31 ≤ 16 := by omega
  have loop : ∀ d g, g + d = (l + 30) / 31 → wY_walk_32 post (nI i) idx wc (nI l) (nI ((l + 30) / 31)) cc (nI m) (nI n) va re rl tm (d + 1) (wh_w (wh_W (wh_st (wh_v gb i) l) g)) (wh_pk (wh_v gb i) l g) (nI (g - wh_S (wh_st (wh_v gb i) l) g)) (A g) (nI g) := by
    intro d
    induction d with
    | zero =>
      intro g e
      have e2 : g = (l + 30) / 31 := by omega
      rw [e2]
      refine br_t (nI_le (Nat.le_refl _) (by omega)) (br_c hp0 (fun z => ?_))
      rw [wh_w1]
      exact hp1 z
    | succ d ih =>
      intro g e
      have T := wy_102 (post := post) (x1 := nI i) (x3 := wc) (x4 := nI l) (x5 := nI ((l + 30) / 31)) (cc := cc) (mm := nI m) (nn := nI n) (va := va) (re := re) (rl := rl) (tm := tm) (hA g (by omega)) (ih (g + 1) (by omega))
      refine br_f (nI_ge (by omega) (by omega)) (wy_gv hN hR hG hi (by omega) ?_)
      have e1 : 31 * nI g + 31 = nI (31 * g + 31) := by
        rw [wh_m31 g]
        exact nI_add (31 * g) 31
      rw [e1]
      refine pk_lt l (31 * g + 31) (fun q => ?_) (fun q => ?_)
      · have k : wh_k (wh_v gb i) l g = 2 := wh_kp (by omega)
        rw [k] at T
        unfold wY_walk_66 wY_walk_87
        exact br_t rfl (br_t rfl T)
      · unfold wY_walk_66 wY_walk_87
        refine br_f (by decide) ?_
        by_cases z0 : gb (i * 16 + g) = 0
        · rw [wh_k0 (v := wh_v gb i) q z0] at T
          exact br_t z0 T
        · refine br_f z0 (br_f (by decide) ?_)
          by_cases z1 : gb (i * 16 + g) = 2147483647
          · rw [wh_k1 (v := wh_v gb i) q z1] at T
            exact br_t z1 T
          · rw [wh_k2 (v := wh_v gb i) z0 z1] at T
            exact br_f z1 T
  have q := loop ((l + 30) / 31) 0 (by omega)
  rw [hA0] at q
  exact ⟨_, q⟩
theorem i_vc_getWordCount {k : Nat} {u : SX} {v : SY} (I : i_Rel k u v) (hk : k + 5 ≤ 2562) (v1 : Int32) : wpX_getWordCount (fun r => wpY_getWordCount (fun r' => r' = r ∧ i_Rel (k + 5) u v) v v1) u v1 := by
  have J := I
  obtain ⟨cap, vc, rc, gb, rl⟩ := u
  obtain ⟨ycap, yvc, yn, va, re, yrl, tm⟩ := v
  obtain ⟨c, m, n, L, rfl, rfl, rfl, rfl, rfl, rfl, rfl, hN, hV, hR, hG⟩ := I
  unfold wpX_getWordCount wpY_getWordCount
  rcases wh_dec m v1 with ⟨i, rfl, hi⟩ | bad
  · have hl := wh_Lle hN hi
    have h12 := wh_ok12 hN.2.1 hi
    have loop : ∀ (post : Int32 → Prop) (l : Nat), l ≤ 496 → post (nI (wh_W (wh_st (wh_v gb i) l) ((l + 30) / 31))) → ∀ d g, g + d = (l + 30) / 31 → wX_getWordCount_27 post (nI i) (nI l) (nI ((l + 30) / 31)) (nI c) (nI m) (nI n) gb yrl (d + 1) (nI (wh_W (wh_st (wh_v gb i) l) g)) (nI g) := by
      intro post l hl hp d
      have hG16 : (l + 30) / 31 ≤ 16 := by omega
      induction d with
      | zero =>
        intro g e
        have e2 : g = (l + 30) / 31 := by omega
        rw [e2]
        exact br_t (nI_le (Nat.le_refl _) (by omega)) hp
      | succ d ih =>
        intro g e
        have q := ih (g + 1) (by omega)
        refine br_f (nI_ge (by omega) (by omega)) (wx_sw h12 (by omega) hl (fun s => ?_) (fun s => ?_))
        · rw [wh_Wf s] at q
          exact br_t rfl (nm_r (nI_1 g) q)
        · rw [wh_Wt s] at q
          exact br_f (by decide) (nm_r (nI_1 _) (nm_r (nI_1 g) q))
    refine wx_ok_t hN.2.1 hi (br_f (by decide) (wx_len hN hi (wx_gc hl ⟨_, loop _ _ hl ?_ ((wh_Len n L i + 30) / 31) 0 (by omega)⟩)))
    exact wy_ok_t hN.2.1 hi (br_f (by decide) (wy_walk (A := fun _ => 0) hN hR hG hi rfl wh_hB (fun z => absurd z (by decide)) (fun _ => ⟨rfl, J⟩)))
  · exact wx_ok_f bad (br_t rfl (wy_ok_f bad (br_t rfl ⟨rfl, J⟩)))
theorem i_vc_getWord {k : Nat} {u : SX} {v : SY} (I : i_Rel k u v) (hk : k + 5 ≤ 2562) (v1 : Int32) (v2 : Int32) : wpX_getWord (fun r => wpY_getWord (fun r' => r' = r ∧ i_Rel (k + 5) u v) v v1 v2) u v1 v2 := by
  have J := I
  obtain ⟨cap, vc, rc, gb, rl⟩ := u
  obtain ⟨ycap, yvc, yn, va, re, yrl, tm⟩ := v
  obtain ⟨c, m, n, L, rfl, rfl, rfl, rfl, rfl, rfl, rfl, hN, hV, hR, hG⟩ := I
  unfold wpX_getWord wpY_getWord
  rcases wh_dec m v1 with ⟨i, rfl, hi⟩ | bad
  · have hl := wh_Lle hN hi
    have h12 := wh_ok12 hN.2.1 hi
    refine wx_ok_t hN.2.1 hi (br_f (by decide) ?_)
    by_cases z : v2 < 0
    · have z' : ¬ 0 ≤ v2 := Int32.not_le.mpr z
      exact br_f z' (wy_ok_t hN.2.1 hi (br_f (by decide) (br_f z' ⟨rfl, J⟩)))
    · obtain ⟨ix, hx, rfl⟩ := nI_of z
      have z' : 0 ≤ nI ix := nI_pos' hx
      have loop : ∀ (post : Int32 → Prop) (l : Nat), l ≤ 496 → post (wh_A (wh_st (wh_v gb i) l) (wh_wd (wh_v gb i) l) ix ((l + 30) / 31)) → ∀ d g, g + d = (l + 30) / 31 → wh_W (wh_st (wh_v gb i) l) g ≤ ix → wX_getWord_32 post (nI i) (nI ix) (nI l) (nI ((l + 30) / 31)) (nI c) (nI m) (nI n) gb yrl (d + 1) (nI (wh_W (wh_st (wh_v gb i) l) g)) (nI g) := by
        intro post l hl hp d
        have hG16 : (l + 30) / 31 ≤ 16 := by omega
        induction d with
        | zero =>
          intro g e hW
          have e2 : g = (l + 30) / 31 := by omega
          rw [e2] at hW ⊢
          rw [wh_none _ hW] at hp
          exact br_t (nI_le (Nat.le_refl _) (by omega)) hp
        | succ d ih =>
          intro g e hW
          have hWg := wh_Wle (wh_st (wh_v gb i) l) g
          refine br_f (nI_ge (by omega) (by omega)) (wx_sw h12 (by omega) hl (fun s => ?_) (fun s => ?_))
          · have q := ih (g + 1) (by omega)
            rw [wh_Wf s] at q
            exact br_t rfl (nm_r (nI_1 g) (q hW))
          · refine br_f (by decide) (pk_eq (wh_W (wh_st (wh_v gb i) l) g) ix (fun w => ?_) (fun w => ?_))
            · refine wx_wf h12 hl (by omega) (fun k2 => ?_) (fun k2 e' a b c' d' => ?_)
              · rw [wh_fin2 s w (by omega) k2] at hp
                exact hp
              · rw [wh_fin0 s w a c' b d' k2] at hp
                exact hp
            · have q := ih (g + 1) (by omega)
              rw [wh_Wt s] at q
              exact nm_r (nI_1 _) (nm_r (nI_1 g) (q (by omega)))
      refine br_t z' (wx_len hN hi (wx_gc hl ⟨_, loop _ _ hl ?_ ((wh_Len n L i + 30) / 31) 0 (by omega) (Nat.zero_le _)⟩))
      exact wy_ok_t hN.2.1 hi (br_f (by decide) (br_t z' (wy_walk (A := wh_A (wh_st (wh_v gb i) (wh_Len n L i)) (wh_wd (wh_v gb i) (wh_Len n L i)) ix) hN hR hG hi rfl (wh_hA hx) (fun _ => ⟨rfl, J⟩) (fun w => absurd rfl w))))
  · exact wx_ok_f bad (br_t rfl (wy_ok_f bad (br_t rfl ⟨rfl, J⟩)))
end
section
/-! the value of a row -/
theorem wx_vaL {post : Int32 → Prop} {m n r : Nat} {L : Nat → Nat} {gb rl va re : Nat → Int32} {cc nn : Int32} (hG : wh_Gb m n L gb va re) (hV : wh_Va m n va) (hm : m ≤ 8) (hr : r < n) (hn : n ≤ 496) (hp : post (va r)) : ∀ d t, t + d = m → (∀ v, v < t → ¬ va r = nI v) → wX_getValueAt_17 post (nI r) cc (nI m) nn gb rl (d + 1) (nI t) := by
  intro d
  induction d with
  | zero =>
    intro t e h
    have e2 : va r = -1 := by
      rcases hV r hr with q | ⟨v, hv, q⟩
      · exact q
      · exact absurd q (h v (by omega))
    rw [e2] at hp
    exact br_t (nI_le (by omega) (by omega)) hp
  | succ d ih =>
    intro t e h
    refine br_f (nI_ge (by omega) (by omega)) (wx_bit hG hm (Or.inl (by omega)) (by omega) ?_)
    rw [wh_Bv (show t < 8 by omega), decide_eq_true hr, Bool.true_and]
    by_cases q : va r = nI t
    · rw [decide_eq_true q]
      rw [q] at hp
      exact br_f (by decide) hp
    · rw [decide_eq_false q]
      refine br_t rfl (nm_r (nI_1 t) (ih (t + 1) (by omega) (fun v hv => ?_)))
      by_cases w : v = t
      · rw [w]
        exact q
      · exact h v (by omega)
theorem i_vc_getValueAt {k : Nat} {u : SX} {v : SY} (I : i_Rel k u v) (hk : k + 5 ≤ 2562) (v1 : Int32) : wpX_getValueAt (fun r => wpY_getValueAt (fun r' => r' = r ∧ i_Rel (k + 5) u v) v v1) u v1 := by
  have J := I
  obtain ⟨cap, vc, rc, gb, rl⟩ := u
  obtain ⟨ycap, yvc, yn, va, re, yrl, tm⟩ := v
  obtain ⟨c, m, n, L, rfl, rfl, rfl, rfl, rfl, rfl, rfl, hN, hV, hR, hG⟩ := I
  obtain ⟨h1, h2, h3, h4, h5⟩ := hN
  unfold wpX_getValueAt wpY_getValueAt
  by_cases z : v1 < 0
  · exact br_t z (br_t z ⟨rfl, J⟩)
  · obtain ⟨r, hr, rfl⟩ := nI_of z
    refine br_f z ?_
    refine pk_lt r n (fun q => ⟨m + 1, wx_vaL hG hV h2 q (by omega) ?_ m 0 (by omega) (fun v hv => absurd hv (Nat.not_lt_zero v))⟩) (fun q => br_f z (br_f (nI_nlt q hr) ⟨rfl, J⟩))
    refine br_f z (br_t (nI_lt q (by omega)) ⟨vp_in_nI (by omega) (by decide), ?_⟩)
    rw [nI_clamp hr]
    exact ⟨rfl, J⟩
/-! a register cleared -/
theorem i_vc_clearResult {k : Nat} {u : SX} {v : SY} (I : i_Rel k u v) (hk : k + 5 ≤ 2562) (v1 : Int32) : wpX_clearResult (fun r u' => wpY_clearResult (fun r' v' => r' = r ∧ i_Rel (k + 5) u' v') v v1) u v1 := by
  have J := I
  obtain ⟨cap, vc, rc, gb, rl⟩ := u
  obtain ⟨ycap, yvc, yn, va, re, yrl, tm⟩ := v
  obtain ⟨c, m, n, L, rfl, rfl, rfl, rfl, rfl, rfl, rfl, hN, hV, hR, hG⟩ := I
  unfold wpX_clearResult wpY_clearResult
  rcases wh_decR v1 with ⟨i, rfl, h8, h12⟩ | bad
  · have loop : ∀ (post : Int32 → SX → Prop), post 1 (nI c, nI m, nI n, wh_seg gb (i * 16) 16 (fun _ => 0), upd yrl (i - 8) 0) → ∀ d t, t + d = 16 → wX_clearResult_11 post (nI i) (nI c) (nI m) (nI n) (d + 1) (nI t) (wh_seg gb (i * 16) t (fun _ => 0)) yrl := by
      intro post hp d
      induction d with
      | zero =>
        intro t e
        have e2 : t = 16 := by omega
        subst e2
        refine br_t (by decide) ?_
        rw [wh_s8 h8, nI_clamp (show i - 8 < 2 ^ 31 by omega)]
        exact ⟨vp_in_nI (by omega) (by decide), nm_e hp⟩
      | succ d ih =>
        intro t e
        refine br_f (nI_ge (b := 16) (by omega) (by decide)) ?_
        rw [wh_i16, nI_clamp (show i * 16 + t < 2 ^ 31 by omega)]
        exact ⟨vp_in_nI (by omega) (by decide), nm_r (wh_segS gb (fun _ => 0) (i * 16) t) (nm_r (nI_1 t) (ih (t + 1) (by omega)))⟩
    have q := fun post hp => loop post hp 16 0 (by omega)
    rw [wh_seg0] at q
    refine wx_res_t h8 h12 (br_f (by decide) ⟨_, q _ (wy_res_t h8 h12 (br_f (by decide) ?_))⟩)
    rw [wh_s8 h8, nI_clamp (show i - 8 < 2 ^ 31 by omega)]
    refine ⟨vp_in_nI (by omega) (by decide), nm_e ⟨rfl, ?_⟩⟩
    refine wh_mkR (L := wh_uN L (i - 8) 0) ⟨wh_Nput hN (Nat.zero_le c), hV, hR, wh_put (l := 0) hG hN.2.1 h8 h12 (fun j hj => Nat.le_trans (hN.2.2.2.2 j hj).2 hN.2.2.2.1) (fun _ _ => rfl) (fun g hg => ⟨b_0 31, fun i' _ => ?_⟩)⟩
    rw [decide_eq_false (Nat.not_lt_zero _), Bool.false_and]
    exact b_0 i'
  · exact wx_res_f bad (br_t rfl (wy_res_f bad (br_t rfl ⟨rfl, J⟩)))
/-! rows appended -/
theorem wx_runL {post : Int32 → SX → Prop} {m n e v : Nat} {L : Nat → Nat} {rl va re : Nat → Int32} {cc mm nn : Int32} (hm : m ≤ 8) (hv : v < m) (he : e ≤ 496) (hva : ∀ r, n ≤ r → r < e → va r = nI v) (hp : ∀ gb', wh_Gb m e L gb' va re → post 1 (cc, mm, nI e, gb', rl)) : ∀ d t (gb : Nat → Int32), t + d = e → n ≤ t → wh_Gb m t L gb va re → wX_appendRun_53 post (nI v) (nI e) cc mm nn (d + 1) (nI t) gb rl := by
  intro d
  induction d with
  | zero =>
    intro t gb e1 e2 hG
    have e3 : t = e := by omega
    subst e3
    exact br_t (nI_le (Nat.le_refl _) (by omega)) (hp gb hG)
  | succ d ih =>
    intro t gb e1 e2 hG
    refine br_f (nI_ge (by omega) (by omega)) ?_
    rw [wh_r31 (show t < 2 ^ 31 by omega), wh_x16 (show t < 2 ^ 31 by omega), nI_clamp (show v * 16 + t / 31 < 2 ^ 31 by omega)]
    exact ⟨by decide, vp_in_nI (by omega) (by decide), by decide, vp_in_nI (by omega) (by decide), nm_e (nm_r (nI_1 t) (ih (t + 1) _ (by omega) (by omega) (wh_app hG hv hm (by omega) (hva t e2 (by omega)))))⟩
theorem wy_runL {post : Int32 → SY → Prop} {n j : Nat} {x : Int32} {va re rl tm : Nat → Int32} {cc mm : Int32} (hn : n + j ≤ 496) (hp : post 1 (cc, mm, nI (n + j), wh_seg va n j (fun _ => x), re, rl, tm)) : ∀ d t, t + d = j → wY_appendRun_41 post x (nI j) cc mm (nI n) (d + 1) (nI t) (wh_seg va n t (fun _ => x)) re rl tm := by
  intro d
  induction d with
  | zero =>
    intro t e
    have e2 : t = j := by omega
    subst e2
    exact br_t (nI_le (Nat.le_refl _) (by omega)) (nm_r (nI_add n t) hp)
  | succ d ih =>
    intro t e
    refine br_f (nI_ge (by omega) (by omega)) ?_
    rw [nI_add n t, nI_clamp (show n + t < 2 ^ 31 by omega)]
    exact ⟨vp_in_nI (by omega) (by decide), nm_r (wh_segS va (fun _ => x) n t) (nm_r (nI_1 t) (ih (t + 1) (by omega)))⟩
theorem wh_both {c m n : Nat} {L : Nat → Nat} {gb rl va re tm : Nat → Int32} (hRel : wh_R c m n L gb rl va re) (x w : Int32) :
    ((∀ P : Int32 → SX → Prop, P 0 (nI c, nI m, nI n, gb, rl) → wpX_appendRun P (nI c, nI m, nI n, gb, rl) x w) ∧ (∀ P : Int32 → SY → Prop, P 0 (nI c, nI m, nI n, va, re, rl, tm) → wpY_appendRun P (nI c, nI m, nI n, va, re, rl, tm) x w))
    ∨ ∃ (n' : Nat) (va' : Nat → Int32), (∀ P : Int32 → SX → Prop, (∀ gb', wh_R c m n' L gb' rl va' re → P 1 (nI c, nI m, nI n', gb', rl)) → wpX_appendRun P (nI c, nI m, nI n, gb, rl) x w) ∧ (∀ P : Int32 → SY → Prop, P 1 (nI c, nI m, nI n', va', re, rl, tm) → wpY_appendRun P (nI c, nI m, nI n, va, re, rl, tm) x w) := by
  obtain ⟨hN, hV, hR, hG⟩ := hRel
  obtain ⟨h1, h2, h3, h4, h5⟩ := hN
  have hcn : nI c - nI n = nI (c - n) := pk_sub h3
  by_cases bad : ¬ x = -1 ∧ (x < 0 ∨ (¬ x < 0 ∧ ¬ x < nI m))
  · refine Or.inl ⟨fun P hp => ?_, fun P hp => ?_⟩
    · unfold wpX_appendRun
      refine br_f bad.1 ?_
      unfold wpX_isValueId
      rcases bad.2 with q | ⟨q, q2⟩
      · exact br_t q (br_t rfl hp)
      · exact br_f q (br_t (Int32.not_lt.mp q2) (br_t rfl hp))
    · unfold wpY_appendRun
      refine br_f bad.1 ?_
      rcases bad.2 with q | ⟨q, q2⟩
      · exact br_t q hp
      · exact br_f q (br_f q2 hp)
  · have hx : x = -1 ∨ ∃ v, v < m ∧ x = nI v := by
      rcases wh_decV x h2 with q | q | q | q
      · exact Or.inl q
      · exact Or.inr q
      · exact absurd ⟨q.1, Or.inl q.2⟩ bad
      · exact absurd ⟨q.1, Or.inr q.2⟩ bad
    have toX : ∀ P : Int32 → SX → Prop, wX_appendRun_15 P x w (nI c) (nI m) (nI n) gb rl → wpX_appendRun P (nI c, nI m, nI n, gb, rl) x w := by
      intro P hp
      unfold wpX_appendRun
      rcases hx with e | ⟨v, hv, e⟩
      · exact br_t e hp
      · refine br_f (by rw [e]; exact fun z => wh_m1 (k := v) (by omega) z.symm) ?_
        rw [e] at hp ⊢
        exact wx_val_t h2 hv (br_f (by decide) hp)
    have toY : ∀ P : Int32 → SY → Prop, wY_appendRun_19 P x w (nI c) (nI m) (nI n) va re rl tm → wpY_appendRun P (nI c, nI m, nI n, va, re, rl, tm) x w := by
      intro P hp
      unfold wpY_appendRun
      rcases hx with e | ⟨v, hv, e⟩
      · exact br_t e hp
      · refine br_f (by rw [e]; exact fun z => wh_m1 (k := v) (by omega) z.symm) ?_
        rw [e] at hp ⊢
        exact br_f (nI_pos (by omega)) (br_t (nI_lt hv (by omega)) hp)
    rcases wh_decC (k := c - n) w (by omega) with q | ⟨q, q2⟩ | ⟨j, j1, j2, e⟩
    · refine Or.inl ⟨fun P hp => toX P ?_, fun P hp => toY P ?_⟩
      · unfold wX_appendRun_15
        exact br_t q hp
      · unfold wY_appendRun_19
        exact br_t q hp
    · rw [← hcn] at q2
      refine Or.inl ⟨fun P hp => toX P ?_, fun P hp => toY P ?_⟩
      · unfold wX_appendRun_15
        exact br_f q (br_f (Int32.not_le.mpr q2) hp)
      · unfold wY_appendRun_19
        exact br_f q (br_f (Int32.not_le.mpr q2) hp)
    · have w1 : ¬ w < 1 := by rw [e]; exact nI_nlt (b := 1) j1 (by omega)
      have w2 : w ≤ nI c - nI n := by rw [e, hcn]; exact nI_le j2 (by omega)
      have vaI : ∀ r, n ≤ r → r < n + j → wh_seg va n j (fun _ => x) r = x := by
        intro r a b
        obtain ⟨t, rfl⟩ : ∃ t, r = n + t := ⟨r - n, by omega⟩
        exact wh_segI (by omega)
      have vaO : ∀ r, r < n → wh_seg va n j (fun _ => x) r = va r := fun r a => wh_segO (by omega)
      have mk : ∀ gb', wh_Gb m (n + j) L gb' (wh_seg va n j (fun _ => x)) re → wh_R c m (n + j) L gb' rl (wh_seg va n j (fun _ => x)) re := by
        intro gb' hG'
        refine ⟨⟨h1, h2, by omega, h4, h5⟩, fun r hr => ?_, hR, hG'⟩
        by_cases a : r < n
        · rw [vaO r a]
          exact hV r a
        · rw [vaI r (by omega) hr]
          exact hx
      have hG0 : wh_Gb m n L gb (wh_seg va n j (fun _ => x)) re := wh_vaE hG vaO
      refine Or.inr ⟨n + j, wh_seg va n j (fun _ => x), fun P hp => toX P ?_, fun P hp => toY P ?_⟩
      · unfold wX_appendRun_15
        refine br_f w1 (br_t w2 ?_)
        rw [e]
        refine nm_r (nI_add n j) ?_
        rcases hx with e3 | ⟨v, hv, e3⟩
        · refine br_t e3 (hp gb (mk gb (wh_appN hG0 h2 (by omega) (fun r a b => ?_))))
          rw [vaI r a b]
          exact e3
        · refine br_f (by rw [e3]; exact fun z => wh_m1 (k := v) (by omega) z.symm) ⟨j + 1, ?_⟩
          have L1 := wx_runL (post := P) (cc := nI c) (mm := nI m) (nn := nI n) (rl := rl) (n := n) h2 hv (show n + j ≤ 496 by omega) (fun r a b => (vaI r a b).trans e3) (fun gb' g => hp gb' (mk gb' g)) j n gb rfl (Nat.le_refl n) hG0
          rw [← e3] at L1
          exact L1
      · unfold wY_appendRun_19
        refine br_f w1 (br_t w2 ⟨j + 1, ?_⟩)
        have L1 := wy_runL (post := P) (cc := nI c) (mm := nI m) (n := n) (j := j) (x := x) (va := va) (re := re) (rl := rl) (tm := tm) (by omega) hp j 0 (by omega)
        rw [wh_seg0, ← e] at L1
        exact L1
theorem i_vc_appendRun {k : Nat} {u : SX} {v : SY} (I : i_Rel k u v) (hk : k + 5 ≤ 2562) (v1 : Int32) (v2 : Int32) : wpX_appendRun (fun r u' => wpY_appendRun (fun r' v' => r' = r ∧ i_Rel (k + 5) u' v') v v1 v2) u v1 v2 := by
  have J := I
  obtain ⟨cap, vc, rc, gb, rl⟩ := u
  obtain ⟨ycap, yvc, yn, va, re, yrl, tm⟩ := v
  obtain ⟨c, m, n, L, rfl, rfl, rfl, rfl, rfl, rfl, rfl, hRel⟩ := I
  rcases wh_both (tm := tm) hRel v1 v2 with ⟨hX, hY⟩ | ⟨n', va', hX, hY⟩
  · exact hX _ (hY _ ⟨rfl, J⟩)
  · exact hX _ (fun gb' hR' => hY _ ⟨rfl, wh_mkR hR'⟩)
theorem i_vc_appendRow {k : Nat} {u : SX} {v : SY} (I : i_Rel k u v) (hk : k + 5 ≤ 2562) (v1 : Int32) : wpX_appendRow (fun r u' => wpY_appendRow (fun r' v' => r' = r ∧ i_Rel (k + 5) u' v') v v1) u v1 := by
  have J := I
  obtain ⟨cap, vc, rc, gb, rl⟩ := u
  obtain ⟨ycap, yvc, yn, va, re, yrl, tm⟩ := v
  obtain ⟨c, m, n, L, rfl, rfl, rfl, rfl, rfl, rfl, rfl, hRel⟩ := I
  unfold wpX_appendRow wpY_appendRow
  rcases wh_both (tm := tm) hRel v1 1 with ⟨hX, hY⟩ | ⟨n', va', hX, hY⟩
  · exact hX _ ⟨rfl, hY _ ⟨rfl, rfl, J⟩⟩
  · exact hX _ (fun gb' hR' => ⟨rfl, hY _ ⟨rfl, rfl, wh_mkR hR'⟩⟩)
end
section
/-! a range selected -/
theorem wh_sl1 {lo hi x : Int32} (h : x = -1) : wh_sl lo hi x = false := by
  unfold wh_sl
  rw [decide_eq_true h]
  rfl
theorem wh_sl2 {lo hi x : Int32} (h : x < lo) : wh_sl lo hi x = false := by
  unfold wh_sl
  rw [decide_eq_false (Int32.not_le.mpr h), Bool.false_and, Bool.and_false]
theorem wh_sl3 {lo hi x : Int32} (h : hi < x) : wh_sl lo hi x = false := by
  unfold wh_sl
  rw [decide_eq_false (Int32.not_le.mpr h), Bool.and_false, Bool.and_false]
theorem wh_sl4 {lo hi x : Int32} (h1 : ¬ x = -1) (h2 : ¬ x < lo) (h3 : ¬ hi < x) : wh_sl lo hi x = true := by
  unfold wh_sl
  rw [decide_eq_false h1, decide_eq_true (Int32.not_lt.mp h2), decide_eq_true (Int32.not_lt.mp h3)]
  rfl
theorem wx_selL {post : Int32 → SX → Prop} {m d n : Nat} {lo hi cc : Int32} {gb rl : Nat → Int32} (hm : m ≤ 8) (h8 : 8 ≤ d) (h12 : d < 12) (hp : post 1 (cc, nI m, nI n, wh_seg gb (d * 16) 16 (fun g => wh_sg gb g lo hi m), upd rl (d - 8) (nI n))) : ∀ e t, t + e = 16 → wX_selectRange_12 post (nI d) lo hi cc (nI m) (nI n) (e + 1) (nI t) (wh_seg gb (d * 16) t (fun g => wh_sg gb g lo hi m)) rl := by
  intro e
  induction e with
  | zero =>
    intro t e1
    have e2 : t = 16 := by omega
    subst e2
    refine br_t (by decide) ?_
    rw [wh_s8 h8, nI_clamp (show d - 8 < 2 ^ 31 by omega)]
    exact ⟨vp_in_nI (by omega) (by decide), nm_e hp⟩
  | succ e ih =>
    intro t e1
    refine br_f (nI_ge (b := 16) (by omega) (by decide)) (wx_sg hm (by omega) ?_)
    rw [wh_i16, nI_clamp (show d * 16 + t < 2 ^ 31 by omega)]
    rw [wh_sgE (gb := gb) m (fun v hv => wh_segO (show ¬ (d * 16 ≤ v * 16 + t ∧ v * 16 + t < d * 16 + t) by omega))]
    exact ⟨vp_in_nI (by omega) (by decide), nm_r (wh_segS gb (fun g => wh_sg gb g lo hi m) (d * 16) t) (nm_r (nI_1 t) (ih (t + 1) (by omega)))⟩
theorem wy_selL {post : Int32 → SY → Prop} {d n : Nat} {lo hi cc mm : Int32} {va re rl tm : Nat → Int32} (hn : n ≤ 496) (h8 : 8 ≤ d) (h12 : d < 12) (hp : post 1 (cc, mm, nI n, va, wh_seg re ((d - 8) * 496) n (fun r => wh_z (wh_sl lo hi (va r))), upd rl (d - 8) (nI n), tm)) : ∀ e t, t + e = n → wY_selectRange_23 post (nI d) lo hi (nI ((d - 8) * 496)) cc mm (nI n) (e + 1) (nI t) va (wh_seg re ((d - 8) * 496) t (fun r => wh_z (wh_sl lo hi (va r)))) rl tm := by
  intro e
  induction e with
  | zero =>
    intro t e1
    have e2 : t = n := by omega
    subst e2
    refine br_t (nI_le (Nat.le_refl _) (by omega)) ?_
    rw [wh_s8 h8, nI_clamp (show d - 8 < 2 ^ 31 by omega)]
    exact ⟨vp_in_nI (by omega) (by decide), nm_e hp⟩
  | succ e ih =>
    intro t e1
    refine br_f (nI_ge (by omega) (by omega)) ?_
    rw [nI_add ((d - 8) * 496) t, nI_clamp (show (d - 8) * 496 + t < 2 ^ 31 by omega), nI_clamp (show t < 2 ^ 31 by omega)]
    have wr : ∀ b : Bool, b = wh_sl lo hi (va t) → (vp_in (nI ((d - 8) * 496 + t)) 1984 ∧ ∀ a : Nat → Int32, a = upd (wh_seg re ((d - 8) * 496) t (fun r => wh_z (wh_sl lo hi (va r)))) ((d - 8) * 496 + t) (vp_nar .boolean (wh_z b)) → ∀ x : Int32, x = nI t + 1 → wY_selectRange_23 post (nI d) lo hi (nI ((d - 8) * 496)) cc mm (nI n) (e + 1) x va a rl tm) := by
      intro b hb
      rw [wh_vb, hb]
      exact ⟨vp_in_nI (by omega) (by decide), nm_r (wh_segS re (fun r => wh_z (wh_sl lo hi (va r))) ((d - 8) * 496) t) (nm_r (nI_1 t) (ih (t + 1) (by omega)))⟩
    refine ⟨vp_in_nI (by omega) (by decide), nm_e ?_⟩
    by_cases z1 : va t = -1
    · exact br_t z1 (wr false (wh_sl1 z1).symm)
    · refine br_f z1 ?_
      by_cases z2 : va t < lo
      · exact br_t z2 (wr false (wh_sl2 z2).symm)
      · refine br_f z2 ?_
        by_cases z3 : hi < va t
        · exact br_t z3 (wr false (wh_sl3 z3).symm)
        · exact br_f z3 (wr true (wh_sl4 z1 z2 z3).symm)
theorem i_vc_selectRange {k : Nat} {u : SX} {v : SY} (I : i_Rel k u v) (hk : k + 5 ≤ 2562) (v1 : Int32) (v2 : Int32) (v3 : Int32) : wpX_selectRange (fun r u' => wpY_selectRange (fun r' v' => r' = r ∧ i_Rel (k + 5) u' v') v v1 v2 v3) u v1 v2 v3 := by
  have J := I
  obtain ⟨cap, vc, rc, gb, rl⟩ := u
  obtain ⟨ycap, yvc, yn, va, re, yrl, tm⟩ := v
  obtain ⟨c, m, n, L, rfl, rfl, rfl, rfl, rfl, rfl, rfl, hN, hV, hR, hG⟩ := I
  have hN' := hN
  obtain ⟨h1, h2, h3, h4, h5⟩ := hN'
  unfold wpX_selectRange wpY_selectRange
  rcases wh_decR v1 with ⟨d, rfl, h8, h12⟩ | bad
  · refine wx_res_t h8 h12 (br_f (by decide) ⟨17, ?_⟩)
    have L1 := fun post hp => wx_selL (post := post) (lo := v2) (hi := v3) (cc := nI c) (gb := gb) (rl := yrl) (n := n) h2 h8 h12 hp 16 0 (by omega)
    rw [wh_seg0] at L1
    refine L1 _ (wy_res_t h8 h12 (br_f (by decide) (nm_r (wh_b496 h8) ⟨n + 1, ?_⟩)))
    have L2 := fun post hp => wy_selL (post := post) (lo := v2) (hi := v3) (cc := nI c) (mm := nI m) (va := va) (re := re) (rl := yrl) (tm := tm) (n := n) (by omega) h8 h12 hp n 0 (by omega)
    rw [wh_seg0] at L2
    refine L2 _ ⟨rfl, ?_⟩
    refine wh_mkR (L := wh_uN L (d - 8) n) ⟨wh_Nput hN h3, hV, wh_segR _ _ hR (fun r => wh_z01 _), wh_put (l := n) hG h2 h8 h12 (fun j hj => Nat.le_trans (h5 j hj).2 h4) (fun q hq => wh_segO (by omega)) (fun g hg => ⟨(wh_sgB hG h2 hg v2 v3 m (Nat.le_refl m)).1, fun i hi => ?_⟩)⟩
    rw [wh_sgF hG hV h2 hg v2 v3 hi]
    by_cases q : 31 * g + i < n
    · rw [wh_segI q, wh_z1]
    · rw [decide_eq_false q, Bool.false_and, Bool.false_and]
  · exact wx_res_f bad (br_t rfl (wy_res_f bad (br_t rfl ⟨rfl, J⟩)))
end
section
/-! two bitmaps combined -/
def wh_ml (x y : Nat) : Nat := if x ≤ y then y else x
theorem wh_ml1 {x y : Nat} (h : x ≤ y) : wh_ml x y = y := if_pos h
theorem wh_ml2 {x y : Nat} (h : y ≤ x) : wh_ml x y = x := by
  unfold wh_ml
  split <;> omega
theorem wh_mlc {x y c : Nat} (hx : x ≤ c) (hy : y ≤ c) : wh_ml x y ≤ c := by
  unfold wh_ml
  split <;> omega
theorem wh_segB {f F : Nat → Int32} {d a t : Nat} (ht : t < 16) : wh_seg f (d * 16) t F (a * 16 + t) = f (a * 16 + t) := wh_segO (show ¬ (d * 16 ≤ a * 16 + t ∧ a * 16 + t < d * 16 + t) by omega)
theorem wh_segZ (f F : Nat → Int32) (k : Nat) : upd (wh_seg f 0 k F) k (F k) = wh_seg f 0 (k + 1) F := by
  have h := wh_segS f F 0 k
  rw [Nat.zero_add] at h
  exact h
theorem wx_cmL {post : Int32 → SX → Prop} {o d a b l : Nat} {cc mm nn : Int32} {gb rl : Nat → Int32} (h1 : 1 ≤ o) (h6 : o ≤ 6) (h8 : 8 ≤ d) (h12 : d < 12) (ha : a < 12) (hb : b < 12) (hl : l ≤ 496) (hp : post 1 (cc, mm, nn, wh_seg gb (d * 16) 16 (fun g => wh_oI o (gb (a * 16 + g)) (gb (b * 16 + g)) &&& wh_ma l g), upd rl (d - 8) (nI l))) : ∀ e t, t + e = 16 → wX_combine_109 post (nI o) (nI d) (nI a) (nI b) (nI l) cc mm nn (e + 1) (nI t) (wh_seg gb (d * 16) t (fun g => wh_oI o (gb (a * 16 + g)) (gb (b * 16 + g)) &&& wh_ma l g)) rl := by
  intro e
  induction e with
  | zero =>
    intro t e1
    have e2 : t = 16 := by omega
    subst e2
    refine br_t (by decide) ?_
    rw [wh_s8 h8, nI_clamp (show d - 8 < 2 ^ 31 by omega)]
    exact ⟨vp_in_nI (by omega) (by decide), nm_e hp⟩
  | succ e ih =>
    intro t e1
    refine br_f (nI_ge (b := 16) (by omega) (by decide)) ?_
    rw [wh_i16 a t, wh_i16 b t, wh_i16 d t, nI_clamp (show a * 16 + t < 2 ^ 31 by omega), nI_clamp (show b * 16 + t < 2 ^ 31 by omega), nI_clamp (show d * 16 + t < 2 ^ 31 by omega)]
    refine ⟨vp_in_nI (by omega) (by decide), nm_r (wh_segB (by omega)) ⟨vp_in_nI (by omega) (by decide), nm_r (wh_segB (by omega)) ?_⟩⟩
    refine wx_cg h1 h6 (wx_mask hl (by omega) ⟨vp_in_nI (by omega) (by decide), ?_⟩)
    exact nm_r (wh_segS gb (fun g => wh_oI o (gb (a * 16 + g)) (gb (b * 16 + g)) &&& wh_ma l g) (d * 16) t) (nm_r (nI_1 t) (ih (t + 1) (by omega)))
theorem wx_73 {post : Int32 → SX → Prop} {c m n o d a b : Nat} {L : Nat → Nat} {cc mm : Int32} {gb rl : Nat → Int32} (hN : wh_N c m n L rl) (h1 : 1 ≤ o) (h6 : o ≤ 6) (h8 : 8 ≤ d) (h12 : d < 12) (ha : wh_ok m a) (hb : wh_ok m b) (hp : post 1 (cc, mm, nI n, wh_seg gb (d * 16) 16 (fun g => wh_oI o (gb (a * 16 + g)) (gb (b * 16 + g)) &&& wh_ma (wh_ml (wh_Len n L a) (wh_Len n L b)) g), upd rl (d - 8) (nI (wh_ml (wh_Len n L a) (wh_Len n L b))))) : wX_combine_73 post (nI o) (nI d) (nI a) (nI b) cc mm (nI n) gb rl := by
  have hla := wh_Lle hN ha
  have hlb := wh_Lle hN hb
  have a12 := wh_ok12 hN.2.1 ha
  have b12 := wh_ok12 hN.2.1 hb
  have L1 := wx_cmL (cc := cc) (mm := mm) (nn := nI n) h1 h6 h8 h12 a12 b12 (wh_mlc hla hlb) hp 16 0 (by omega)
  rw [wh_seg0] at L1
  unfold wX_combine_73
  refine wx_len hN ha (wx_len hN hb ?_)
  refine pk_le (wh_Len n L a) (wh_Len n L b) (fun q => ?_) (fun q => ?_)
  · rw [wh_ml1 q] at L1
    exact ⟨17, L1⟩
  · rw [wh_ml2 (Nat.le_of_lt q)] at L1
    exact ⟨17, L1⟩
theorem wy_133 {post : Int32 → SY → Prop} {J : Int32 → (Nat → Int32) → (Nat → Int32) → (Nat → Int32) → (Nat → Int32) → Prop} {o t : Nat} (bx bo : Bool) {x2 x3 x4 x5 x7 cc mm nn : Int32} {va re rl tm : Nat → Int32} (h1 : 1 ≤ o) (h6 : o ≤ 6) (ht : t < 496) (hJ : J (nI (t + 1)) va re rl (upd tm t (wh_z (wh_op o bx bo)))) : wY_combine_133 post J (nI o) x2 x3 x4 x5 x7 (nI t) (wh_z bx) (wh_z bo) cc mm nn va re rl tm := by
  have st : ∀ z : Bool, z = wh_op o bx bo → (vp_in (nI t) 496 ∧ ∀ a : Nat → Int32, a = upd tm (nI t).toNatClampNeg (vp_nar .boolean (wh_z z)) → ∀ x : Int32, x = nI t + 1 → J x va re rl a) := by
    intro z hz
    rw [wh_vb, hz, nI_clamp (show t < 2 ^ 31 by omega)]
    exact ⟨vp_in_nI ht (by decide), nm_e (nm_r (nI_1 t) hJ)⟩
  clear hJ
  unfold wY_combine_133
  have h : o = 1 ∨ o = 2 ∨ o = 3 ∨ o = 4 ∨ o = 5 ∨ o = 6 := by omega
  rcases h with e | e | e | e | e | e
  · subst e
    refine br_t (by decide) ?_
    cases bx
    · exact br_t rfl (st false rfl)
    · refine br_f (by decide) ?_
      cases bo
      · exact br_t rfl (st false rfl)
      · exact br_f (by decide) (st true rfl)
  · subst e
    refine br_f (by decide) (br_t (by decide) ?_)
    cases bx
    · refine br_t rfl ?_
      cases bo
      · exact br_t rfl (st false rfl)
      · exact br_f (by decide) (st true rfl)
    · exact br_f (by decide) (st true rfl)
  · subst e
    refine br_f (by decide) (br_f (by decide) (br_t (by decide) ?_))
    cases bx
    · exact br_t rfl (st false rfl)
    · refine br_f (by decide) ?_
      cases bo
      · exact br_t rfl (st true rfl)
      · exact br_f (by decide) (st false rfl)
  · subst e
    refine br_f (by decide) (br_f (by decide) (br_f (by decide) (br_t (by decide) ?_)))
    cases bx <;> cases bo
    · exact br_t rfl (st false rfl)
    · exact br_f (by decide) (st true rfl)
    · exact br_f (by decide) (st true rfl)
    · exact br_t rfl (st false rfl)
  · subst e
    refine br_f (by decide) (br_f (by decide) (br_f (by decide) (br_f (by decide) (br_t (by decide) ?_))))
    cases bx
    · exact br_t rfl (st true rfl)
    · exact br_f (by decide) (st false rfl)
  · subst e
    exact br_f (by decide) (br_f (by decide) (br_f (by decide) (br_f (by decide) (br_f (by decide) (st bx rfl)))))
theorem wy_282 {post : Int32 → SY → Prop} {d l : Nat} {T : Nat → Bool} {cc mm nn : Int32} {va re rl tm : Nat → Int32} (h8 : 8 ≤ d) (h12 : d < 12) (hl : l ≤ 496) (htm : ∀ r, r < l → tm r = wh_z (T r)) (hp : post 1 (cc, mm, nn, va, wh_seg re ((d - 8) * 496) l (fun r => wh_z (T r)), upd rl (d - 8) (nI l), tm)) : ∀ e t, t + e = l → wY_combine_282 post (nI d) (nI l) (nI ((d - 8) * 496)) cc mm nn (e + 1) (nI t) va (wh_seg re ((d - 8) * 496) t (fun r => wh_z (T r))) rl tm := by
  intro e
  induction e with
  | zero =>
    intro t e1
    have e2 : t = l := by omega
    subst e2
    refine br_t (nI_le (Nat.le_refl _) (by omega)) ?_
    rw [wh_s8 h8, nI_clamp (show d - 8 < 2 ^ 31 by omega)]
    exact ⟨vp_in_nI (by omega) (by decide), nm_e hp⟩
  | succ e ih =>
    intro t e1
    refine br_f (nI_ge (by omega) (by omega)) ?_
    rw [nI_add ((d - 8) * 496) t, nI_clamp (show (d - 8) * 496 + t < 2 ^ 31 by omega), nI_clamp (show t < 2 ^ 31 by omega), htm t (by omega), wh_vb]
    exact ⟨vp_in_nI (by omega) (by decide), vp_in_nI (by omega) (by decide), nm_r (wh_segS re (fun r => wh_z (T r)) ((d - 8) * 496) t) (nm_r (nI_1 t) (ih (t + 1) (by omega)))⟩
theorem wy_99 {post : Int32 → SY → Prop} {c m n o d a l : Nat} {L : Nat → Nat} {y : Nat → Bool} {cc x4 x5 : Int32} {va re rl tm : Nat → Int32} (hN : wh_N c m n L rl) (hR : wh_Re re) (h1 : 1 ≤ o) (h6 : o ≤ 6) (h8 : 8 ≤ d) (h12 : d < 12) (ha : wh_ok m a) (hl : l ≤ 496)
    (hy : (x5 = 0 ∧ ∀ r, y r = false) ∨ (¬ x5 = 0 ∧ ∃ b, x4 = nI b ∧ wh_ok m b ∧ ∀ r, y r = wh_B n L va re b r))
    (hp : ∀ tm', post 1 (cc, nI m, nI n, va, wh_seg re ((d - 8) * 496) l (fun r => wh_z (wh_op o (wh_B n L va re a r) (y r))), upd rl (d - 8) (nI l), tm')) : ∀ e t, t + e = l → wY_combine_99 post (nI o) (nI d) (nI a) x4 x5 (nI l) cc (nI m) (nI n) (e + 1) (nI t) va re rl (wh_seg tm 0 t (fun r => wh_z (wh_op o (wh_B n L va re a r) (y r)))) := by
  intro e
  induction e with
  | zero =>
    intro t e1
    have e2 : t = l := by omega
    subst e2
    refine br_t (nI_le (Nat.le_refl _) (by omega)) (nm_r (wh_b496 h8) ⟨t + 1, ?_⟩)
    have L1 := wy_282 (post := post) (cc := cc) (mm := nI m) (nn := nI n) (va := va) (re := re) (rl := rl) (tm := wh_seg tm 0 t (fun r => wh_z (wh_op o (wh_B n L va re a r) (y r)))) (T := fun r => wh_op o (wh_B n L va re a r) (y r)) h8 h12 hl (fun r hr => ?_) (hp _) t 0 (by omega)
    · rw [wh_seg0] at L1
      exact L1
    · have q := wh_segI (f := tm) (F := fun r => wh_z (wh_op o (wh_B n L va re a r) (y r))) (b := 0) hr
      rw [Nat.zero_add] at q
      exact q
  | succ e ih =>
    intro t e1
    have q := ih (t + 1) (by omega)
    rw [← wh_segZ] at q
    refine br_f (nI_ge (by omega) (by omega)) (wy_bit hN hR ha (by omega) ?_)
    rcases hy with ⟨e5, hy⟩ | ⟨e5, b, e4, hb, hy⟩
    · rw [hy t] at q
      exact br_t e5 (wy_133 (wh_B n L va re a t) false h1 h6 (by omega) q)
    · rw [hy t] at q
      refine br_f e5 ?_
      rw [e4] at q ⊢
      exact wy_bit hN hR hb (by omega) (wy_133 (wh_B n L va re a t) (wh_B n L va re b t) h1 h6 (by omega) q)
theorem wy_61u {post : Int32 → SY → Prop} {c m n o d a : Nat} {L : Nat → Nat} {cc x4 : Int32} {va re rl tm : Nat → Int32} (hN : wh_N c m n L rl) (hR : wh_Re re) (h1 : 1 ≤ o) (h6 : o ≤ 6) (h8 : 8 ≤ d) (h12 : d < 12) (ha : wh_ok m a) (hp : ∀ tm', post 1 (cc, nI m, nI n, va, wh_seg re ((d - 8) * 496) (wh_Len n L a) (fun r => wh_z (wh_op o (wh_B n L va re a r) false)), upd rl (d - 8) (nI (wh_Len n L a)), tm')) : wY_combine_61 post (nI o) (nI d) (nI a) x4 0 cc (nI m) (nI n) va re rl tm := by
  have L1 := wy_99 (tm := tm) (x4 := x4) (x5 := 0) (y := fun _ => false) hN hR h1 h6 h8 h12 ha (wh_Lle hN ha) (Or.inl ⟨rfl, fun _ => rfl⟩) hp (wh_Len n L a) 0 (by omega)
  rw [wh_seg0] at L1
  unfold wY_combine_61
  exact wy_len hN ha (br_t rfl ⟨_, L1⟩)
theorem wy_61b {post : Int32 → SY → Prop} {c m n o d a b : Nat} {L : Nat → Nat} {cc : Int32} {va re rl tm : Nat → Int32} (hN : wh_N c m n L rl) (hR : wh_Re re) (h1 : 1 ≤ o) (h6 : o ≤ 6) (h8 : 8 ≤ d) (h12 : d < 12) (ha : wh_ok m a) (hb : wh_ok m b) (hp : ∀ tm', post 1 (cc, nI m, nI n, va, wh_seg re ((d - 8) * 496) (wh_ml (wh_Len n L a) (wh_Len n L b)) (fun r => wh_z (wh_op o (wh_B n L va re a r) (wh_B n L va re b r))), upd rl (d - 8) (nI (wh_ml (wh_Len n L a) (wh_Len n L b))), tm')) : wY_combine_61 post (nI o) (nI d) (nI a) (nI b) 1 cc (nI m) (nI n) va re rl tm := by
  have hla := wh_Lle hN ha
  have hlb := wh_Lle hN hb
  have L1 := wy_99 (tm := tm) (x4 := nI b) (x5 := 1) (y := fun r => wh_B n L va re b r) hN hR h1 h6 h8 h12 ha (wh_mlc hla hlb) (Or.inr ⟨by decide, b, rfl, hb, fun _ => rfl⟩) hp (wh_ml (wh_Len n L a) (wh_Len n L b)) 0 (by omega)
  rw [wh_seg0] at L1
  unfold wY_combine_61
  refine wy_len hN ha (br_f (by decide) (wy_len hN hb ?_))
  refine pk_le (wh_Len n L b) (wh_Len n L a) (fun q => ?_) (fun q => ?_)
  · rw [wh_ml2 q] at L1
    exact ⟨_, L1⟩
  · rw [wh_ml1 (Nat.le_of_lt q)] at L1
    exact ⟨_, L1⟩
theorem wh_cmR {k c m n o d a b l : Nat} {L : Nat → Nat} {y : Nat → Bool} {gb rl va re tm : Nat → Int32} (hN : wh_N c m n L rl) (hV : wh_Va m n va) (hR : wh_Re re) (hG : wh_Gb m n L gb va re) (h8 : 8 ≤ d) (h12 : d < 12) (ha : wh_ok m a) (hb : wh_ok m b) (hl : l ≤ c) (hy : ∀ r, wh_op o (wh_B n L va re a r) (y r) = wh_op o (wh_B n L va re a r) (wh_B n L va re b r)) : i_Rel k (nI c, nI m, nI n, wh_seg gb (d * 16) 16 (fun g => wh_oI o (gb (a * 16 + g)) (gb (b * 16 + g)) &&& wh_ma l g), upd rl (d - 8) (nI l)) (nI c, nI m, nI n, va, wh_seg re ((d - 8) * 496) l (fun r => wh_z (wh_op o (wh_B n L va re a r) (y r))), upd rl (d - 8) (nI l), tm) := by
  have h4 := hN.2.2.2.1
  refine wh_mkR (L := wh_uN L (d - 8) l) ⟨wh_Nput hN hl, hV, wh_segR _ _ hR (fun r => wh_z01 _), wh_put (l := l) hG hN.2.1 h8 h12 (fun j hj => Nat.le_trans (hN.2.2.2.2 j hj).2 h4) (fun q hq => wh_segO (by omega)) (fun g hg => wh_comb hG ha hb (fun r hr => ?_) hg)⟩
  rw [wh_segI hr, hy r]
theorem i_vc_combine {k : Nat} {u : SX} {v : SY} (I : i_Rel k u v) (hk : k + 5 ≤ 2562) (v1 : Int32) (v2 : Int32) (v3 : Int32) (v4 : Int32) : wpX_combine (fun r u' => wpY_combine (fun r' v' => r' = r ∧ i_Rel (k + 5) u' v') v v1 v2 v3 v4) u v1 v2 v3 v4 := by
  have J := I
  obtain ⟨cap, vc, rc, gb, rl⟩ := u
  obtain ⟨ycap, yvc, yn, va, re, yrl, tm⟩ := v
  obtain ⟨c, m, n, L, rfl, rfl, rfl, rfl, rfl, rfl, rfl, hN, hV, hR, hG⟩ := I
  have h2 := hN.2.1
  unfold wpX_combine wpY_combine
  rcases wh_decC (k := 6) v1 (by decide) with q | ⟨q, q2⟩ | ⟨o, o1, o6, rfl⟩
  · exact br_t q (br_t q ⟨rfl, J⟩)
  · exact br_f q (br_t q2 (br_f q (br_f (Int32.not_le.mpr q2) ⟨rfl, J⟩)))
  · have p1 : ¬ nI o < 1 := nI_nlt (b := 1) o1 (by omega)
    have p6 : ¬ 6 < nI o := nI_nlt (a := 6) o6 (by decide)
    have p6' : nI o ≤ 6 := nI_le (b := 6) o6 (by decide)
    rcases wh_decR v2 with ⟨d, rfl, h8, h12⟩ | bad
    · refine br_f p1 (br_f p6 (wx_res_t h8 h12 (br_f (by decide) ?_)))
      rcases wh_dec m v3 with ⟨a, rfl, ha⟩ | bad
      · refine wx_ok_t h2 ha (br_f (by decide) ?_)
        by_cases u5 : 5 ≤ o
        · have T := wx_73 (post := fun r u' => wpY_combine (fun r' v' => r' = r ∧ i_Rel (k + 5) u' v') (nI c, nI m, nI n, va, re, yrl, tm) (nI o) (nI d) (nI a) v4) (cc := nI c) (mm := nI m) (gb := gb) hN o1 o6 h8 h12 ha ha (by
            unfold wpY_combine
            refine br_f p1 (br_t p6' (wy_res_t h8 h12 (br_f (by decide) (wy_ok_t h2 ha (br_f (by decide) (br_t (nI_lt (a := 4) (by omega) (by omega)) ?_))))))
            unfold wY_combine_43
            refine br_t rfl (wy_61u hN hR o1 o6 h8 h12 ha (fun tm' => ⟨rfl, ?_⟩))
            rw [wh_ml1 (Nat.le_refl (wh_Len n L a))]
            exact wh_cmR hN hV hR hG h8 h12 ha ha (wh_Llc hN ha) (fun r => wh_op5 u5 _ _ _))
          have t44 : wX_combine_44 (fun r u' => wpY_combine (fun r' v' => r' = r ∧ i_Rel (k + 5) u' v') (nI c, nI m, nI n, va, re, yrl, tm) (nI o) (nI d) (nI a) v4) (nI o) (nI d) (nI a) v4 1 (nI c) (nI m) (nI n) gb yrl := by
            unfold wX_combine_44 wX_combine_62
            exact br_f (by decide) (br_f (by decide) T)
          by_cases e5 : o = 5
          · subst e5
            exact br_t (by decide) t44
          · have e6 : o = 6 := by omega
            subst e6
            exact br_f (by decide) (br_t (by decide) t44)
        · refine br_f (by rw [show (5 : Int32) = nI 5 from rfl, nI_eq (by omega) (by decide)]; omega) (br_f (by rw [show (6 : Int32) = nI 6 from rfl, nI_eq (by omega) (by decide)]; omega) ?_)
          unfold wX_combine_44 wX_combine_62
          refine br_t rfl ?_
          have p4 : ¬ 4 < nI o := nI_nlt (a := 4) (by omega) (by decide)
          rcases wh_dec m v4 with ⟨b, rfl, hb⟩ | bad
          · refine wx_ok_t h2 hb (br_f (by decide) (br_t rfl (wx_73 hN o1 o6 h8 h12 ha hb ?_)))
            refine br_f p1 (br_t p6' (wy_res_t h8 h12 (br_f (by decide) (wy_ok_t h2 ha (br_f (by decide) (br_f p4 ?_))))))
            unfold wY_combine_43
            refine br_f (by decide) (wy_ok_t h2 hb (br_f (by decide) (wy_61b hN hR o1 o6 h8 h12 ha hb (fun tm' => ⟨rfl, ?_⟩))))
            exact wh_cmR hN hV hR hG h8 h12 ha hb (wh_mlc (wh_Llc hN ha) (wh_Llc hN hb)) (fun r => rfl)
          · refine wx_ok_f bad (br_t rfl ?_)
            refine br_f p1 (br_t p6' (wy_res_t h8 h12 (br_f (by decide) (wy_ok_t h2 ha (br_f (by decide) (br_f p4 ?_))))))
            unfold wY_combine_43
            exact br_f (by decide) (wy_ok_f bad (br_t rfl ⟨rfl, J⟩))
      · exact wx_ok_f bad (br_t rfl (br_f p1 (br_t p6' (wy_res_t h8 h12 (br_f (by decide) (wy_ok_f bad (br_t rfl ⟨rfl, J⟩)))))))
    · exact br_f p1 (br_f p6 (wx_res_f bad (br_t rfl (br_f p1 (br_t p6' (wy_res_f bad (br_t rfl ⟨rfl, J⟩)))))))
end
