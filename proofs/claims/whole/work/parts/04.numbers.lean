/-! numbers as they are printed -/
theorem wh_i16 (i g : Nat) : nI i * 16 + nI g = nI (i * 16 + g) := by
  show nI i * nI 16 + nI g = _
  rw [pk_mul, nI_add]
theorem wh_d31 {r : Nat} (h : r < 2 ^ 31) : nI r / 31 = nI (r / 31) := pk_div (d := 31) h (by decide) (by decide)
theorem wh_r31 {r : Nat} (h : r < 2 ^ 31) : nI r - nI r / 31 * 31 = nI (r % 31) := pk_rem (d := 31) h (by decide) (by decide)
theorem wh_s8 {i : Nat} (h : 8 ≤ i) : nI i - 8 = nI (i - 8) := pk_sub (b := 8) h
theorem wh_m31 (g : Nat) : 31 * nI g = nI (31 * g) := pk_mul 31 g
theorem wh_31m (g : Nat) : nI g * 31 = nI (g * 31) := pk_mul g 31
theorem wh_x16 {i r : Nat} (h : r < 2 ^ 31) : nI i * 16 + nI r / 31 = nI (i * 16 + r / 31) := by
  rw [wh_d31 h, wh_i16]
theorem wh_b496 {i : Nat} (h : 8 ≤ i) : (nI i - 8) * 496 = nI ((i - 8) * 496) := by
  rw [wh_s8 h]
  exact pk_mul (i - 8) 496
theorem wh_gcX {l : Nat} (h : l ≤ 496) : (nI l + 31 - 1) / 31 = nI ((l + 30) / 31) := by
  have e : nI l + 31 - 1 = nI (l + 30) := by
    show nI l + nI 31 - nI 1 = _
    rw [nI_add, pk_sub (show 1 ≤ l + 31 by omega)]
    exact congrArg nI (by omega)
  rw [e]
  exact wh_d31 (by omega)
theorem wh_gcY {l : Nat} (h : l ≤ 496) : (nI l + 30) / 31 = nI ((l + 30) / 31) := by
  have e : nI l + 30 = nI (l + 30) := nI_add l 30
  rw [e]
  exact wh_d31 (by omega)
theorem wh_vb (b : Bool) : vp_nar .boolean (wh_z b) = wh_z b := by cases b <;> decide
theorem wh_nb (b : Bool) : narrow .boolean (.int (wh_z b)) = .int (wh_z b) := by cases b <;> rfl
theorem wh_zne (b : Bool) : (wh_z b = 0) ↔ b = false := by cases b <;> decide
theorem wh_lt8 {i : Nat} (h : i < 2 ^ 31) : nI i < 8 ↔ i < 8 := nI_ltI (b := 8) h (by decide)
theorem wh_le8 {i : Nat} (h : i < 2 ^ 31) : 8 ≤ nI i ↔ 8 ≤ i := nI_leI (a := 8) (by decide) h
theorem wh_le12 {i : Nat} (h : i < 2 ^ 31) : 12 ≤ nI i ↔ 12 ≤ i := nI_leI (a := 12) (by decide) h
theorem wh_lt12 {i : Nat} (h : i < 2 ^ 31) : nI i < 12 ↔ i < 12 := nI_ltI (b := 12) h (by decide)
theorem wh_lt0 {i : Nat} (h : i < 2 ^ 31) : nI i < 0 ↔ False := ⟨nI_pos h, False.elim⟩
theorem wh_le0 {i : Nat} (h : i < 2 ^ 31) : 0 ≤ nI i ↔ True := ⟨fun _ => trivial, fun _ => nI_pos' h⟩
/-! the groups of a bitmap, and its bits, as a function of the group -/
def wh_v (gb : Nat → Int32) (id : Nat) : Nat → Int32 := fun g => gb (id * 16 + g)
/-! cases of an argument -/
theorem wh_decC {k : Nat} (x : Int32) (hk : k < 2 ^ 31) : x < 1 ∨ (¬ x < 1 ∧ nI k < x) ∨ ∃ j, 1 ≤ j ∧ j ≤ k ∧ x = nI j := by
  by_cases h : x < 1
  · exact Or.inl h
  · have h0 : ¬ x < 0 := fun z => h (Int32.lt_trans z (by decide))
    obtain ⟨j, hj, rfl⟩ := nI_of h0
    have h1 : 1 ≤ j := by
      rcases Nat.eq_zero_or_pos j with q | q
      · subst q
        exact absurd (by decide : Int32.ofNat 0 < 1) h
      · exact q
    by_cases q : j ≤ k
    · exact Or.inr (Or.inr ⟨j, h1, q, rfl⟩)
    · exact Or.inr (Or.inl ⟨h, nI_lt (by omega) hj⟩)
theorem wh_decV {m : Nat} (x : Int32) (hm : m ≤ 8) : x = -1 ∨ (∃ v, v < m ∧ x = nI v) ∨ (¬ x = -1 ∧ x < 0) ∨ (¬ x = -1 ∧ ¬ x < 0 ∧ ¬ x < nI m) := by
  by_cases h : x = -1
  · exact Or.inl h
  · by_cases h0 : x < 0
    · exact Or.inr (Or.inr (Or.inl ⟨h, h0⟩))
    · obtain ⟨j, hj, rfl⟩ := nI_of h0
      by_cases q : j < m
      · exact Or.inr (Or.inl ⟨j, q, rfl⟩)
      · exact Or.inr (Or.inr (Or.inr ⟨h, h0, nI_nlt (by omega) hj⟩))
theorem wh_Llc {c m n : Nat} {L : Nat → Nat} {rl : Nat → Int32} {id : Nat} (h : wh_N c m n L rl) (hi : wh_ok m id) : wh_Len n L id ≤ c := by
  obtain ⟨h1, h2, h3, h4, h5⟩ := h
  have h12 := wh_ok12 h2 hi
  rcases Nat.lt_or_ge id 8 with h8 | h8
  · rw [wh_Lv h8]; exact h3
  · rw [wh_Lr h8]
    exact (h5 (id - 8) (by omega)).2
