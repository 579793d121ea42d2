/-! ===== the plan ===== -/
/-- a piece that can come to part next, so that s can be had with its fewest props; D: which sets lead on -/
def nfD (A : AB) (s : Nat) (D : Nat → Bool) (part p : Nat) : Bool := s.testBit p && (!part.testBit p && (cf A p part && (decide (pr A (part ||| 2 ^ p) ≤ (TT A s).2) && D (part ||| 2 ^ p))))
def rowL (A : AB) (s : Nat) (D : Nat → Bool) (part : Nat) : Bool := (dif part s == 0) && decide (fa_first (nfD A s D part) A.n < A.n)
def lds (A : AB) (s : Nat) : Nat → Nat → Bool
  | 0 => fun i => i == s
  | k + 1 => fun i => if i = s - (k + 1) then rowL A s (lds A s k) (s - (k + 1)) else lds A s k i
def DD (A : AB) (s part : Nat) : Bool := lds A s (s - part) part
theorem lds_at (A : AB) (s i : Nat) (hi : i ≤ s) : ∀ k, k ≤ s → s - i ≤ k → lds A s k i = DD A s i
  | 0, _, h => by have : i = s := by omega
                  subst this; unfold DD; rw [Nat.sub_self]
  | k + 1, hk, h => by
    by_cases e : s - i = k + 1
    · unfold DD; rw [e]
    · show (if i = s - (k + 1) then _ else lds A s k i) = _
      rw [if_neg (by omega)]
      exact lds_at A s i hi k (by omega) (by omega)
theorem or_gt {a p : Nat} (h : a.testBit p = false) : a < a ||| 2 ^ p := by
  have h1 : a ≤ a ||| 2 ^ p := Nat.left_le_or
  have h2 : a ≠ a ||| 2 ^ p := fun e => by
    have := congrArg (fun z => z.testBit p) e
    rw [Nat.testBit_or, Nat.testBit_two_pow, h] at this
    simp at this
  omega
theorem sub_le {a b : Nat} (h : sub a b) : a ≤ b := by
  have h2 : a ||| b = b := sub_eq (sub_or h (sub_rf b)) (sub_r _ _)
  have h3 : a ≤ a ||| b := Nat.left_le_or
  omega
theorem fa_first_cong {p q : Nat → Bool} : ∀ n, (∀ k, k < n → p k = q k) → fa_first p n = fa_first q n
  | 0, _ => rfl
  | n + 1, h => by
    have ih := fa_first_cong n (fun k hk => h k (by omega))
    simp only [fa_first]
    rw [ih, h n (by omega)]
theorem DD_s (A : AB) (s : Nat) : DD A s s = true := by
  unfold DD
  rw [Nat.sub_self]
  show (s == s) = true
  simp
def nx (A : AB) (s part : Nat) : Nat := fa_first (nfD A s (DD A s) part) A.n
theorem DD_row (A : AB) {s part : Nat} (h : part < s) : DD A s part = ((dif part s == 0) && decide (nx A s part < A.n)) := by
  obtain ⟨k, hk⟩ : ∃ k, s - part = k + 1 := ⟨s - part - 1, by omega⟩
  show lds A s (s - part) part = _
  rw [hk]
  show (if part = s - (k + 1) then rowL A s (lds A s k) (s - (k + 1)) else _) = _
  rw [if_pos (by omega), show s - (k + 1) = part by omega]
  unfold rowL
  cases hd : (dif part s == 0)
  · rfl
  · have hsub : sub part s := dif_zero.mp (by simpa using hd)
    unfold nx
    rw [fa_first_cong (p := nfD A s (lds A s k) part) (q := nfD A s (DD A s) part) A.n]
    intro p _
    unfold nfD
    cases h1 : s.testBit p
    · rfl
    · cases h2 : part.testBit p
      · have h3 := or_gt h2
        have h4 := sub_le (sub_or hsub (two_pow_sub h1))
        rw [lds_at A s _ h4 k (by omega) (by omega)]
      · rfl
theorem pr_F {A : AB} {s : Nat} : pr A s ≤ (TT A s).2 := by
  rcases Nat.eq_zero_or_pos s with h | h
  · subst h
    have : pr A 0 = 0 := fb_ct_zero.mpr (fun k _ => by unfold prf; rw [Nat.zero_testBit]; rfl)
    rw [this]; exact Nat.zero_le _
  · rw [TT_row A h]
    exact Nat.le_max_right _ _
def EE (A : AB) (s q : Nat) : Bool := decide (pr A q ≤ (TT A s).2) && DD A s q
theorem nf_eq (A : AB) (s part p : Nat) : nfD A s (DD A s) part p = (s.testBit p && (!part.testBit p && (cf A p part && EE A s (part ||| 2 ^ p)))) := rfl
/-- a piece that attains a row's minimum -/
theorem rwk_att {A : AB} (hA : okA A) {part : Nat} : ∀ p, 0 < (rwk A (TT A) part p).1 → ∃ q, q < p ∧ part.testBit q = true ∧ 0 < (TT A (dif part (2 ^ q))).1 ∧ cf A q (dif part (2 ^ q)) = true ∧ (TT A (dif part (2 ^ q))).2 ≤ (rwk A (TT A) part p).2
  | 0, h => absurd h (Nat.lt_irrefl 0)
  | p + 1, h => by
    by_cases c : part.testBit p = true ∧ 0 < (TT A (dif part (2 ^ p))).1 ∧ cf A p (dif part (2 ^ p)) = true
    · rw [rwk_y c.1 c.2.1 c.2.2]
      by_cases c2 : (TT A (dif part (2 ^ p))).2 ≤ (rwk A (TT A) part p).2
      · exact ⟨p, by omega, c.1, c.2.1, c.2.2, by show _ ≤ min _ _; omega⟩
      · by_cases c3 : 0 < (rwk A (TT A) part p).1
        · obtain ⟨q, h1, h2, h3, h4, h5⟩ := rwk_att hA p c3
          exact ⟨q, by omega, h2, h3, h4, by show _ ≤ min _ _; omega⟩
        · have e8 : ∀ j, (rwk A (TT A) part j).1 = 0 → (rwk A (TT A) part j).2 = 8 := by
            intro j
            induction j with
            | zero => intro _; rfl
            | succ j ih =>
              intro hj
              by_cases cq : part.testBit j = true ∧ 0 < (TT A (dif part (2 ^ j))).1 ∧ cf A j (dif part (2 ^ j)) = true
              · rw [rwk_y cq.1 cq.2.1 cq.2.2] at hj
                simp only [] at hj
                omega
              · rw [rwk_n cq] at hj ⊢
                exact ih hj
          have e := e8 p (by omega)
          have := TT_le hA (dif part (2 ^ p))
          omega
    · rw [rwk_n c] at h ⊢
      obtain ⟨q, h1, h2⟩ := rwk_att hA p h
      exact ⟨q, by omega, h2⟩
theorem dif_or {a p : Nat} (h : a.testBit p = true) : dif a (2 ^ p) ||| 2 ^ p = a := by
  apply Nat.eq_of_testBit_eq
  intro i
  rw [Nat.testBit_or, dif_pow_bit, Nat.testBit_two_pow]
  by_cases e : i = p
  · subst e; simp [h]
  · simp [e, Ne.symm e]
theorem nx_of {A : AB} {s part p : Nat} (hp : p < A.n) (h : nfD A s (DD A s) part p = true) : nx A s part < A.n := by
  apply Classical.byContradiction
  intro q
  have := fa_first_no (nfD A s (DD A s) part) A.n p (by show p < nx A s part; omega)
  rw [h] at this; cases this
/-- if s can be put up, the empty set leads on -/
theorem DD_0 {A : AB} (hA : okA A) {s : Nat} (hs : s < 2 ^ A.n) (hT : 0 < (TT A s).1) : DD A s 0 = true := by
  have H : ∀ m part, part ≤ m → sub part s → 0 < (TT A part).1 → (TT A part).2 ≤ (TT A s).2 → DD A s part = true → DD A s 0 = true := by
    intro m
    induction m with
    | zero =>
      intro part h1 _ _ _ h5
      have : part = 0 := by omega
      subst this; exact h5
    | succ m ih =>
      intro part h1 h2 h3 h4 h5
      rcases Nat.eq_zero_or_pos part with h0 | h0
      · subst h0; exact h5
      · have hr := TT_row A h0
        have e1 : (TT A part).1 = (rwk A (TT A) part A.n).1 := by rw [hr]; rfl
        have e2 : (TT A part).2 = max (rwk A (TT A) part A.n).2 (pr A part) := by rw [hr]; rfl
        obtain ⟨q, g1, g2, g3, g4, g5⟩ := rwk_att hA A.n (show 0 < (rwk A (TT A) part A.n).1 by omega)
        have hlt := dif_less g2
        have hsub : sub (dif part (2 ^ q)) s := sub_tr (dif_sub _ _) h2
        have hles := sub_le h2
        refine ih (dif part (2 ^ q)) (by omega) hsub g3 (by omega) ?_
        rw [DD_row A (show dif part (2 ^ q) < s by omega), dif_zero.mpr hsub]
        have : nx A s (dif part (2 ^ q)) < A.n := by
          refine nx_of g1 ?_
          unfold nfD
          rw [dif_or g2, h2 q g2, dif_pow_bit, g4, h5]
          simp
          omega
        simp [this]
  exact H s s (Nat.le_refl _) (sub_rf s) hT (Nat.le_refl _) (DD_s A s)
/-- the set before step k of the plan -/
def bf (A : AB) (s : Nat) : Nat → Nat
  | 0 => 0
  | k + 1 => bf A s k ||| 2 ^ nx A s (bf A s k)
theorem nx_yes {A : AB} {s part : Nat} (h : nx A s part < A.n) : s.testBit (nx A s part) = true ∧ part.testBit (nx A s part) = false ∧ cf A (nx A s part) part = true ∧ EE A s (part ||| 2 ^ nx A s part) = true := by
  have := fa_first_yes (nfD A s (DD A s) part) A.n h
  rw [show fa_first (nfD A s (DD A s) part) A.n = nx A s part from rfl, nf_eq, Bool.and_eq_true, Bool.and_eq_true, Bool.and_eq_true] at this
  exact ⟨this.1, by simpa using this.2.1, this.2.2.1, this.2.2.2⟩
theorem bf_ok {A : AB} (hA : okA A) {s : Nat} (hs : s < 2 ^ A.n) (hT : 0 < (TT A s).1) : ∀ k, k ≤ pop 8 s → sub (bf A s k) s ∧ DD A s (bf A s k) = true ∧ pop 8 (bf A s k) = k ∧ (k < pop 8 s → bf A s k < s ∧ nx A s (bf A s k) < A.n) := by
    have h256 := lt256 hs hA.1
    have step : ∀ k b, sub b s → DD A s b = true → pop 8 b = k → (k < pop 8 s → b < s ∧ nx A s b < A.n) := by
      intro k b h1 h2 h3 hk
      have hlt : b < s := by
        have := sub_le h1
        have : b ≠ s := fun e => by rw [e] at h3; omega
        omega
      refine ⟨hlt, ?_⟩
      rw [DD_row A hlt, Bool.and_eq_true] at h2
      simpa using h2.2
    intro k
    induction k with
    | zero =>
      intro _
      have h3 : pop 8 0 = 0 := by decide
      exact ⟨sub_0 s, DD_0 hA hs hT, h3, step 0 0 (sub_0 s) (DD_0 hA hs hT) h3⟩
    | succ k ih =>
      intro hk
      obtain ⟨g1, g2, g3, g4⟩ := ih (by omega)
      obtain ⟨g5, g6⟩ := g4 (by omega)
      obtain ⟨y1, y2, y3, y4⟩ := nx_yes g6
      have h1 : sub (bf A s (k + 1)) s := sub_or g1 (two_pow_sub y1)
      have h2 : DD A s (bf A s (k + 1)) = true := by
        unfold EE at y4
        rw [Bool.and_eq_true] at y4
        exact y4.2
      have h3 : pop 8 (bf A s (k + 1)) = k + 1 := by
        have hb : (bf A s (k + 1)).testBit (nx A s (bf A s k)) = true := by
          show (bf A s k ||| 2 ^ _).testBit _ = true
          rw [Nat.testBit_or, Nat.testBit_two_pow]; simp
        have := pop_dif (Nat.lt_of_le_of_lt (sub_le h1) h256) hb
        have e : dif (bf A s (k + 1)) (2 ^ nx A s (bf A s k)) = bf A s k := by
          apply Nat.eq_of_testBit_eq
          intro i
          rw [dif_pow_bit]
          show ((bf A s k ||| 2 ^ _).testBit i && _) = _
          rw [Nat.testBit_or, Nat.testBit_two_pow]
          by_cases e : i = nx A s (bf A s k)
          · rw [e, y2]; simp
          · simp [e, Ne.symm e]
        rw [e, g3] at this
        omega
      exact ⟨h1, h2, h3, step _ _ h1 h2 h3⟩
theorem bf_end {A : AB} (hA : okA A) {s : Nat} (hs : s < 2 ^ A.n) (hT : 0 < (TT A s).1) : bf A s (pop 8 s) = s := by
  obtain ⟨h1, h2, h3, h4⟩ := bf_ok hA hs hT (pop 8 s) (Nat.le_refl _)
  apply Classical.byContradiction
  intro e
  have := pop_strict (n := 8) h1 (lt256 hs hA.1) e
  omega
