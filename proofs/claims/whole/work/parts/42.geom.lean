/-! ===== space: cells, lines, rays ===== -/
def anyB (f : Nat → Bool) : Nat → Bool
  | 0 => false
  | n + 1 => anyB f n || f n
theorem anyB_s (f : Nat → Bool) (n : Nat) : anyB f (n + 1) = (anyB f n || f n) := rfl
theorem anyB_iff (f : Nat → Bool) : ∀ n, anyB f n = true ↔ ∃ k, k < n ∧ f k = true
  | 0 => by simp [anyB]
  | n + 1 => by
    rw [anyB_s, Bool.or_eq_true, anyB_iff f n]
    constructor
    · rintro (⟨k, h1, h2⟩ | h)
      · exact ⟨k, by omega, h2⟩
      · exact ⟨n, by omega, h⟩
    · rintro ⟨k, h1, h2⟩
      by_cases e : k = n
      · subst e; exact Or.inr h2
      · exact Or.inl ⟨k, by omega, h2⟩
theorem anyB_cong {f h : Nat → Bool} {n : Nat} (e : ∀ k, k < n → f k = h k) : anyB f n = anyB h n := by
  rw [Bool.eq_iff_iff, anyB_iff, anyB_iff]
  constructor
  · rintro ⟨k, h1, h2⟩; exact ⟨k, h1, by rw [← e k h1]; exact h2⟩
  · rintro ⟨k, h1, h2⟩; exact ⟨k, h1, by rw [e k h1]; exact h2⟩
theorem bool_ext {a b : Bool} (h : a = true ↔ b = true) : a = b := Bool.eq_iff_iff.mpr h
/-! masks -/
theorem msk_eq {f h : Nat → Bool} {m : Nat} (e : ∀ i, i < m → f i = h i) : msk f m = msk h m := by
  apply bits_eq (msk_lt _ _) (msk_lt _ _)
  intro i hi
  rw [msk_bit, msk_bit, e i hi]
theorem msk_or (f h : Nat → Bool) (m : Nat) : msk f m ||| msk h m = msk (fun i => f i || h i) m := by
  apply Nat.eq_of_testBit_eq
  intro i
  rw [Nat.testBit_or, msk_bit, msk_bit, msk_bit]
  cases decide (i < m) <;> rfl
theorem msk_one {q m : Nat} (h : q < m) : 2 ^ q = msk (fun i => i == q) m := by
  apply Nat.eq_of_testBit_eq
  intro i
  rw [msk_bit, Nat.testBit_two_pow]
  by_cases e : i = q
  · subst e; simp [h]
  · have e2 : ¬ q = i := fun x => e x.symm
    simp [e, e2]
theorem msk_no (f : Nat → Bool) (q m : Nat) : dif (msk f m) (2 ^ q) = msk (fun i => f i && i != q) m := by
  apply Nat.eq_of_testBit_eq
  intro i
  rw [dif_pow_bit, msk_bit, msk_bit]
  by_cases e : i = q
  · simp [e]
  · have e3 : (i != q) = true := by simp [e]
    rw [e3, decide_eq_true e]; simp
theorem msk_z (m : Nat) : msk (fun _ => false) m = 0 := by
  apply Nat.eq_of_testBit_eq
  intro i
  rw [msk_bit, Nat.zero_testBit]; simp
theorem msk8 (f : Nat → Bool) : msk f 8 < 256 := msk_lt f 8
/-! places -/
def cd (c a : Nat) : Nat := if a = 0 then c % 6 else if a = 1 then c / 6 % 6 else c / 36
def sd (a : Nat) : Nat := if a = 0 then 1 else if a = 1 then 6 else 36
/-- the next cell, or 216 -/
def nb (c d : Nat) : Nat := if d % 2 = 0 then (if cd c (d / 2) = 5 then 216 else c + sd (d / 2)) else (if cd c (d / 2) = 0 then 216 else c - sd (d / 2))
def nbI (c d : Nat) : Int32 := if nb c d < 216 then nI (nb c d) else -1
theorem c_nb0 : ∀ c, c < 216 → ∀ d, d < 6 → fn_X7_neighbor (nI c) (nI d) = nbI c d := by decide +kernel
theorem m_nb0 : ∀ c, c < 216 → ∀ d, d < 6 → fn_X8_step (nI c) (nI d) = nbI c d := by decide +kernel
theorem nb_le0 : ∀ c, c < 216 → ∀ d, d < 6 → nb c d ≤ 216 := by decide +kernel
theorem c_nb {c d : Nat} (hc : c < 216) (hd : d < 6) : fn_X7_neighbor (nI c) (nI d) = nbI c d := c_nb0 c hc d hd
theorem m_nb {c d : Nat} (hc : c < 216) (hd : d < 6) : fn_X8_step (nI c) (nI d) = nbI c d := m_nb0 c hc d hd
theorem nbI_m1 {c d : Nat} (h : ¬ nb c d < 216) : nbI c d = -1 := if_neg h
theorem nbI_in {c d : Nat} (h : nb c d < 216) : nbI c d = nI (nb c d) := if_pos h
/-- a ray: how many cells it has, and which -/
def rn (c d : Nat) : Nat := if d % 2 = 0 then 5 - cd c (d / 2) else cd c (d / 2)
def rc (c d j : Nat) : Nat := if d % 2 = 0 then c + (j + 1) * sd (d / 2) else c - (j + 1) * sd (d / 2)
theorem rn_le0 : ∀ c, c < 216 → ∀ d, d < 6 → rn c d ≤ 5 := by decide +kernel
theorem rc_00 : ∀ c, c < 216 → ∀ d, d < 6 → nb c d = if 0 < rn c d then rc c d 0 else 216 := by decide +kernel
theorem rc_s0 : ∀ c, c < 216 → ∀ d, d < 6 → ∀ j, j < rn c d → rc c d j < 216 ∧ nb (rc c d j) d = if j + 1 < rn c d then rc c d (j + 1) else 216 := by decide +kernel
/-- a line: its number is 36 times the axis and its number among those of the axis -/
def lst (L : Nat) : Nat := if L / 36 = 0 then 6 * (L % 36) else if L / 36 = 1 then 36 * (L % 36 / 6) + L % 36 % 6 else L % 36
def lc (L t : Nat) : Nat := lst L + t * sd (L / 36)
def lo (c a : Nat) : Nat := 36 * a + (if a = 0 then c / 6 else if a = 1 then 6 * (c / 36) + c % 6 else c % 36)
theorem lc_lt0 : ∀ L, L < 108 → ∀ t, t < 6 → lc L t < 216 := by decide +kernel
theorem lo_lt0 : ∀ c, c < 216 → ∀ a, a < 3 → lo c a < 108 ∧ lo c a / 36 = a ∧ cd c a < 6 ∧ lc (lo c a) (cd c a) = c := by decide +kernel
theorem lo_rc0 : ∀ c, c < 216 → ∀ d, d < 6 → ∀ j, j < rn c d → if d % 2 = 0 then cd c (d / 2) + 1 + j < 6 ∧ lc (lo c (d / 2)) (cd c (d / 2) + 1 + j) = rc c d j else j + 1 ≤ cd c (d / 2) ∧ lc (lo c (d / 2)) (cd c (d / 2) - 1 - j) = rc c d j := by decide +kernel
theorem lc_rc0 : ∀ L, L < 108 → ∀ t, t < 6 → ∀ t', t' < t → (t - t' - 1 < rn (lc L t) (2 * (L / 36) + 1) ∧ rc (lc L t) (2 * (L / 36) + 1) (t - t' - 1) = lc L t') ∧ (t - t' - 1 < rn (lc L t') (2 * (L / 36)) ∧ rc (lc L t') (2 * (L / 36)) (t - t' - 1) = lc L t) := by decide +kernel
theorem lc_nb0 : ∀ L, L < 108 → ∀ t, t < 5 → nb (lc L t) (2 * (L / 36)) = lc L (t + 1) ∧ nb (lc L (t + 1)) (2 * (L / 36) + 1) = lc L t := by decide +kernel
theorem lc_nb1 : ∀ L, L < 108 → nb (lc L 5) (2 * (L / 36)) = 216 ∧ nb (lc L 0) (2 * (L / 36) + 1) = 216 := by decide +kernel
theorem lst_eq0 : ∀ a, a < 3 → ∀ l, l < 36 → fn_X5_lineStart (nI a) (nI l) = nI (lst (36 * a + l)) := by decide +kernel
theorem sd_eq0 : ∀ a, a < 3 → fn_X7_stride (nI a) = nI (sd a) := by decide +kernel
theorem cd_eq0 : ∀ c, c < 216 → ∀ a, a < 3 → fn_X7_coordinate (nI c) (nI a) = nI (cd c a) ∧ cd c a < 6 := by decide +kernel
