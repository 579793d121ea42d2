/-! ===== orders: the tables ===== -/
/-- how many orders, and their fewest props before the last look, over the pieces below p that may come last -/
def rwk (A : AB) (T : Nat → Nat × Nat) (part : Nat) : Nat → Nat × Nat
  | 0 => (0, 8)
  | p + 1 => if part.testBit p && decide (0 < (T (dif part (2 ^ p))).1) && cf A p (dif part (2 ^ p)) then ((rwk A T part p).1 + (T (dif part (2 ^ p))).1, min (rwk A T part p).2 (T (dif part (2 ^ p))).2) else rwk A T part p
def row (A : AB) (T : Nat → Nat × Nat) (part : Nat) : Nat × Nat := ((rwk A T part A.n).1, max (rwk A T part A.n).2 (pr A part))
def tbs (A : AB) : Nat → Nat → Nat × Nat
  | 0 => fun i => if i = 0 then (1, 0) else (0, 0)
  | k + 1 => fun i => if i = k + 1 then row A (tbs A k) (k + 1) else tbs A k i
def TT (A : AB) (part : Nat) : Nat × Nat := tbs A part part
theorem tbs_at (A : AB) (i : Nat) : ∀ k, i ≤ k → tbs A k i = TT A i
  | 0, h => by have : i = 0 := by omega
               subst this; rfl
  | k + 1, h => by
    by_cases e : i = k + 1
    · subst e; rfl
    · show (if i = k + 1 then _ else tbs A k i) = _
      rw [if_neg e]
      exact tbs_at A i k (by omega)
theorem dif_le (a b : Nat) : dif a b ≤ a := by
  apply Classical.byContradiction
  intro h
  have h1 : sub (dif a b) a := dif_sub a b
  have h2 : dif a b ||| a = a := sub_eq (sub_or h1 (sub_rf a)) (sub_r _ _)
  have h3 : dif a b ≤ dif a b ||| a := Nat.left_le_or
  omega
theorem dif_less {a p : Nat} (h : a.testBit p = true) : dif a (2 ^ p) < a := by
  have h1 := dif_le a (2 ^ p)
  have h2 : dif a (2 ^ p) ≠ a := fun e => by
    have := congrArg (fun z => z.testBit p) e
    rw [dif_pow_bit, h] at this
    simp at this
  omega
theorem rwk_cong {A : AB} {T T' : Nat → Nat × Nat} {part : Nat} (h : ∀ q, q < part → T q = T' q) : ∀ p, rwk A T part p = rwk A T' part p
  | 0 => rfl
  | p + 1 => by
    simp only [rwk]
    rw [rwk_cong h p]
    cases hp : part.testBit p
    · simp
    · rw [h _ (dif_less hp)]
theorem TT_0 (A : AB) : TT A 0 = (1, 0) := rfl
theorem TT_row (A : AB) {part : Nat} (h : 0 < part) : TT A part = row A (TT A) part := by
  obtain ⟨k, rfl⟩ : ∃ k, part = k + 1 := ⟨part - 1, by omega⟩
  show (if k + 1 = k + 1 then row A (tbs A k) (k + 1) else _) = _
  rw [if_pos rfl]
  unfold row
  rw [rwk_cong (T := tbs A k) (T' := TT A) (fun q hq => tbs_at A q k (by omega))]
theorem rwk_y {A : AB} {T : Nat → Nat × Nat} {part p : Nat} (h1 : part.testBit p = true) (h2 : 0 < (T (dif part (2 ^ p))).1) (h3 : cf A p (dif part (2 ^ p)) = true) : rwk A T part (p + 1) = ((rwk A T part p).1 + (T (dif part (2 ^ p))).1, min (rwk A T part p).2 (T (dif part (2 ^ p))).2) := by
  simp only [rwk]
  rw [if_pos]
  simp [h1, h2, h3]
theorem rwk_n {A : AB} {T : Nat → Nat × Nat} {part p : Nat} (h : ¬ (part.testBit p = true ∧ 0 < (T (dif part (2 ^ p))).1 ∧ cf A p (dif part (2 ^ p)) = true)) : rwk A T part (p + 1) = rwk A T part p := by
  simp only [rwk]
  rw [if_neg]
  intro q
  apply h
  simp at q
  exact ⟨q.1.1, q.1.2, q.2⟩
theorem rwk_le (A : AB) (T : Nat → Nat × Nat) (part : Nat) : ∀ p, (rwk A T part p).2 ≤ 8
  | 0 => Nat.le_refl _
  | p + 1 => by
    have ih := rwk_le A T part p
    by_cases c : part.testBit p = true ∧ 0 < (T (dif part (2 ^ p))).1 ∧ cf A p (dif part (2 ^ p)) = true
    · rw [rwk_y c.1 c.2.1 c.2.2]
      exact Nat.le_trans (Nat.min_le_left _ _) ih
    · rw [rwk_n c]; exact ih
theorem TT_le {A : AB} (hA : okA A) (part : Nat) : (TT A part).2 ≤ 8 := by
  rcases Nat.eq_zero_or_pos part with h | h
  · subst h; exact Nat.zero_le _
  · rw [TT_row A h]
    exact Nat.max_le.mpr ⟨rwk_le A _ part A.n, Nat.le_trans (pr_le A part) hA.1⟩
theorem pop_dif {part p : Nat} (hlt : part < 256) (h : part.testBit p = true) : pop 8 (dif part (2 ^ p)) + 1 = pop 8 part := by
  have hp : p < 8 := bit_lt (m := 8) hlt h
  have h1 := fb_ct_upd (fun k => part.testBit k) false (i := p) (n := 8) hp
  rw [h] at h1
  have h2 : fb_ct (fun k => if k = p then false else part.testBit k) 8 = pop 8 (dif part (2 ^ p)) := by
    apply fb_ct_cong
    intro k _
    rw [dif_pow_bit]
    by_cases e : k = p
    · simp [e]
    · simp [e]
  rw [h2] at h1
  exact h1
theorem rwk_big {A : AB} {part c : Nat} (hc : ∀ p, part.testBit p = true → (TT A (dif part (2 ^ p))).1 ≤ c) : ∀ p, (rwk A (TT A) part p).1 ≤ p * c
  | 0 => by show 0 ≤ 0 * c; omega
  | p + 1 => by
    have ih := rwk_big hc p
    rw [Nat.succ_mul]
    by_cases q : part.testBit p = true ∧ 0 < (TT A (dif part (2 ^ p))).1 ∧ cf A p (dif part (2 ^ p)) = true
    · rw [rwk_y q.1 q.2.1 q.2.2]
      have := hc p q.1
      show _ + _ ≤ _
      omega
    · rw [rwk_n q]; omega
theorem TT_big {A : AB} (hA : okA A) : ∀ m part, part < 256 → part ≤ m → (TT A part).1 ≤ 8 ^ pop 8 part := by
  intro m
  induction m with
  | zero =>
    intro part _ h
    have : part = 0 := by omega
    subst this
    exact Nat.one_le_pow _ _ (by decide)
  | succ m ih =>
    intro part h256 h
    rcases Nat.eq_zero_or_pos part with h0 | h0
    · subst h0; exact Nat.one_le_pow _ _ (by decide)
    · rw [TT_row A h0]
      show (rwk A (TT A) part A.n).1 ≤ _
      obtain ⟨c, hc⟩ : ∃ c, pop 8 part = c + 1 := by
        have : pop 8 part ≠ 0 := fun e => by have := pop_zero (n := 8) h256 e; omega
        exact ⟨pop 8 part - 1, by omega⟩
      have h1 := rwk_big (A := A) (part := part) (c := 8 ^ c) (fun p hp => by
        have h2 := ih (dif part (2 ^ p)) (by have := dif_less hp; omega) (by have := dif_less hp; omega)
        have h3 := pop_dif h256 hp
        rw [show pop 8 (dif part (2 ^ p)) = c by omega] at h2
        exact h2) A.n
      rw [hc, Nat.pow_succ]
      have h4 : A.n * 8 ^ c ≤ 8 * 8 ^ c := Nat.mul_le_mul_right _ hA.1
      omega
theorem TT_lt {A : AB} (hA : okA A) {part : Nat} (h : part < 256) : (TT A part).1 < 2 ^ 25 := by
  have h1 := TT_big hA part part h (Nat.le_refl _)
  have h2 : 8 ^ pop 8 part ≤ 8 ^ 8 := Nat.pow_le_pow_right (by decide) (pop_le 8 part)
  have h3 : (8 : Nat) ^ 8 < 2 ^ 25 := by decide
  omega
theorem rwk_lt {A : AB} (hA : okA A) {part p : Nat} (hp : p ≤ 8) (h : part < 256) : (rwk A (TT A) part p).1 < 2 ^ 29 := by
  have h1 := rwk_big (A := A) (part := part) (c := 2 ^ 25) (fun q hq => Nat.le_of_lt (TT_lt hA (by have := dif_less hq; omega))) p
  have h2 : p * 2 ^ 25 ≤ 8 * 2 ^ 25 := Nat.mul_le_mul_right _ hp
  have h3 : 8 * 2 ^ 25 < 2 ^ 29 := by decide
  omega
/-- fewest props as an int -/
def LI (A : AB) (part : Nat) : Int32 := if (TT A part).1 = 0 then -9 else nI (TT A part).2
theorem LI_m9 {A : AB} (hA : okA A) (part : Nat) : LI A part = -9 ↔ (TT A part).1 = 0 := by
  unfold LI
  by_cases e : (TT A part).1 = 0
  · rw [if_pos e]; simp [e]
  · rw [if_neg e]
    have := m9_ne (TT A part).2 (by have := TT_le hA part; omega)
    simp [e, this]
def TAB (M : Mem) (A : AB) : Prop := ∀ part, part < 2 ^ A.n → M 15 part = nI (TT A part).1 ∧ M 16 part = LI A part ∧ M 19 part = nI (pr A part)
theorem mn_nI {a b : Nat} (ha : a < 2 ^ 31) (hb : b < 2 ^ 31) : mn (nI a) (nI b) = nI (min a b) := by
  unfold mn
  simp only [nI_ltI hb ha]
  by_cases h : b < a
  · rw [if_pos h, Nat.min_eq_right (by omega)]
  · rw [if_neg h, Nat.min_eq_left (by omega)]
theorem mx_nI {a b : Nat} (ha : a < 2 ^ 31) (hb : b < 2 ^ 31) : mx (nI a) (nI b) = nI (max a b) := by
  unfold mx
  simp only [nI_ltI ha hb]
  by_cases h : a < b
  · rw [if_pos h, Nat.max_eq_right (by omega)]
  · rw [if_neg h, Nat.max_eq_left (by omega)]
theorem RC_eq {M M' : Mem} {k : Nat} {A : AB} (h : RC M k A) (h0 : M' k = M k) (h2 : M' (k + 2) = M (k + 2)) (h3 : M' (k + 3) = M (k + 3)) (h4 : M' (k + 4) = M (k + 4)) : RC M' k A := by
  unfold RC at *
  rw [h0, h2, h3, h4]
  exact h
theorem dif_ne {a p : Nat} : dif a (2 ^ p) = a ↔ a.testBit p = false := by
  constructor
  · intro h
    cases q : a.testBit p
    · rfl
    · have := dif_less q; omega
  · intro h
    apply Nat.eq_of_testBit_eq
    intro i
    rw [dif_pow_bit]
    by_cases e : i = p
    · subst e; simp [h]
    · simp [e]
theorem c_fillRow {M : Mem} {A : AB} (h : RC M 9 A) (hA : okA A) {part g : Nat} (hg : 5000 < g) (h0 : 0 < part) (hp : part < 2 ^ A.n) (hT : ∀ q, q < part → M 15 q = nI (TT A q).1 ∧ M 16 q = LI A q ∧ M 19 q = nI (pr A q)) : fn_X4_fillRow g (nI part) M = some (st (st (st M 15 part (nI (TT A part).1)) 19 part (nI (pr A part))) 16 part (LI A part)) := by
  have hn := hA.1
  have h256 := lt256 hp hn
  unfold fn_X4_fillRow
  refine lp_forb (fun p => (nI (rwk A (TT A) part p).1, nI (rwk A (TT A) part p).2, nI p)) A.n (nI (rwk A (TT A) part A.n).1, nI (rwk A (TT A) part A.n).2) rfl (by omega) ?_ ?_ ?_
  · intro p hpn
    have hd := dif_le part (2 ^ p)
    have hl1 := rwk_le A (TT A) part p
    have hl2 := TT_le hA (dif part (2 ^ p))
    have hb1 := TT_lt hA (part := dif part (2 ^ p)) (by omega)
    simp only [bd_X4_fillRow_8, u3]
    rw [h.1, if_neg (nI_ge hpn (by omega)), N_sl (by omega), N_dif]
    simp only [bv]
    rw [c_firstWay h hA hg (by omega), ix_nI (by omega), if_pos (inb_nI (by omega) (by omega))]
    cases c1 : part.testBit p
    · have e := dif_ne.mpr c1
      rw [if_pos (by rw [e]), rwk_n (fun q => by rw [c1] at q; cases q.1)]
      simp [inc]
    · have hlt := dif_less c1
      have hne : ¬ nI (dif part (2 ^ p)) = nI part := fun q => by have := (nI_eq (by omega) (by omega)).mp q; omega
      rw [if_neg hne, (hT _ hlt).1, (hT _ hlt).2.1]
      by_cases c2 : 0 < (TT A (dif part (2 ^ p))).1
      · rw [if_neg (nI_nle c2 (by omega))]
        cases c3 : cf A p (dif part (2 ^ p))
        · have := (fwI_cf A p (dif part (2 ^ p))).mpr c3
          rw [rwk_n (fun q => by rw [c3] at q; cases q.2.2)]
          simp [this, inc]
        · have : ¬ fwI A p (dif part (2 ^ p)) = -9 := fun q => by rw [(fwI_cf A p _).mp q] at c3; cases c3
          rw [rwk_y c1 c2 c3]
          have e3 : LI A (dif part (2 ^ p)) = nI (TT A (dif part (2 ^ p))).2 := by unfold LI; rw [if_neg (by omega)]
          have hq : inb (nI (dif part (2 ^ p))) 256 := inb_nI (by omega) (by omega)
          simp only [Option.bind_some]
          rw [if_neg this, if_pos hq]
          rw [if_pos hq]
          simp [inc, e3, nI_add, mn_nI (show (rwk A (TT A) part p).2 < 2 ^ 31 by omega) (show (TT A (dif part (2 ^ p))).2 < 2 ^ 31 by omega)]
      · have e0 : (TT A (dif part (2 ^ p))).1 = 0 := by omega
        rw [e0, if_pos (by decide), rwk_n (fun q => c2 q.2.1)]
        simp [inc]
  · simp only [bd_X4_fillRow_8, u3]
    rw [h.1, if_pos (Int32.le_refl _)]
  · have hl1 := rwk_le A (TT A) part A.n
    have hb1 := rwk_lt hA (p := A.n) hn h256
    have hpr := pr_le A part
    have eT : (TT A part).1 = (rwk A (TT A) part A.n).1 := by rw [TT_row A h0]; rfl
    have eT2 : (TT A part).2 = max (rwk A (TT A) part A.n).2 (pr A part) := by rw [TT_row A h0]; rfl
    simp only [u2]
    rw [if_pos (inb_nI (by omega) (by omega)), ix_nI (by omega), ← eT]
    simp only [bv]
    have hRC : RC (st M 15 part (nI (TT A part).1)) 9 A := RC_eq h (st_ne _ _ _ (by decide)) (st_ne _ _ _ (by decide)) (st_ne _ _ _ (by decide)) (st_ne _ _ _ (by decide))
    rw [c_props hRC hA hg h256]
    simp only [Option.bind_some, jn_X4_fillRow_135, bv]
    rw [if_pos (inb_nI (by omega) (by omega)), if_pos (inb_nI (by omega) (by omega)), if_pos (inb_nI (by omega) (by omega)), if_pos (inb_nI (by omega) (by omega)), ix_nI (by omega), st_at, upd_at]
    by_cases c : (TT A part).1 = 0
    · rw [c, if_pos (by decide)]
      unfold LI
      rw [if_pos c]
    · rw [if_neg (fun q => c ((nI_z (by omega)).mp q)), mx_nI (by omega) (by omega), ← eT2]
      unfold LI
      rw [if_neg c]
theorem TAB_of {M M' : Mem} {A : AB} (h : TAB M A) (h1 : M' 15 = M 15) (h2 : M' 16 = M 16) (h3 : M' 19 = M 19) : TAB M' A := by
  intro part hp
  rw [h1, h2, h3]
  exact h part hp
theorem c_fillTables {M : Mem} {A : AB} (h : RC M 9 A) (hA : okA A) {g : Nat} (hg : 5000 < g) : ∃ M', fn_X4_fillTables g M = some M' ∧ eqx [14, 15, 16, 19] M M' ∧ TAB M' A ∧ M' 14 8 = -1 ∧ (∀ j, j ≠ 8 → M' 14 j = M 14 j) := by
  have hn := hA.1
  unfold fn_X4_fillTables
  simp only [bv]
  obtain ⟨M4, hM4⟩ : ∃ z, z = st (st (st (st M 14 8 (-1)) 15 (ix 0) 1) 16 (ix 0) 0) 19 (ix 0) 0 := ⟨_, rfl⟩
  rw [← hM4]
  have e4 : eqx [14, 15, 16, 19] M M4 := by
    rw [hM4]
    exact eqx_st (eqx_st (eqx_st (eqx_st (eqx_rf _ M) (by decide) _ _) (by decide) _ _) (by decide) _ _) (by decide) _ _
  have hR4 : RC M4 9 A := RC_eq h (e4 9 (by decide)) (e4 11 (by decide)) (e4 12 (by decide)) (e4 13 (by decide))
  have hz : ix (0 : Int32) = 0 := by decide
  have t4 : M4 15 0 = nI (TT A 0).1 ∧ M4 16 0 = LI A 0 ∧ M4 19 0 = nI (pr A 0) := by
    rw [hM4, hz]
    refine ⟨?_, ?_, ?_⟩
    · rw [st_ne _ _ _ (by decide), st_ne _ _ _ (by decide), st_at, upd_at]; rfl
    · rw [st_ne _ _ _ (by decide), st_at, upd_at]; rfl
    · rw [st_at, upd_at]
      have : pr A 0 = 0 := fb_ct_zero.mpr (fun k _ => by unfold prf; rw [Nat.zero_testBit]; rfl)
      rw [this]; rfl
  have h14 : M4 14 8 = -1 ∧ ∀ j, j ≠ 8 → M4 14 j = M 14 j := by
    rw [hM4]
    refine ⟨?_, fun j hj => ?_⟩
    · rw [st_ne _ _ _ (by decide), st_ne _ _ _ (by decide), st_ne _ _ _ (by decide), st_at, upd_at]
    · rw [st_ne _ _ _ (by decide), st_ne _ _ _ (by decide), st_ne _ _ _ (by decide), st_at, upd_ne _ _ hj]
  rw [hR4.1, N_sl (by omega)]
  have hpw : 2 ^ A.n ≤ 256 := Nat.pow_le_pow_right (n := 2) (by decide) hn
  have hpw0 : 0 < 2 ^ A.n := Nat.two_pow_pos _
  have t5 : ∀ q, q < 0 + 1 → M4 15 q = nI (TT A q).1 ∧ M4 16 q = LI A q ∧ M4 19 q = nI (pr A q) := by
    intro q hq
    have : q = 0 := by omega
    subst this
    exact t4
  have key : ∃ M', lpN g (bd_X4_fillTables_38 g (nI (2 ^ A.n))) ((1 : Int32), M4) = some M' ∧ (eqx [15, 16, 19] M4 M' ∧ ∀ q, q < 2 ^ A.n → M' 15 q = nI (TT A q).1 ∧ M' 16 q = LI A q ∧ M' 19 q = nI (pr A q)) := by
    refine lp_inv (fun k w => w.1 = nI (k + 1) ∧ eqx [15, 16, 19] M4 w.2 ∧ ∀ q, q < k + 1 → w.2 15 q = nI (TT A q).1 ∧ w.2 16 q = LI A q ∧ w.2 19 q = nI (pr A q)) _ (2 ^ A.n - 1) ?_ ?_ (by omega) ⟨rfl, eqx_rf _ _, t5⟩
    · rintro k ⟨v, N⟩ hk ⟨hv, hE, hT⟩
      have hv : v = nI (k + 1) := hv
      subst hv
      have hRN : RC N 9 A := RC_eq hR4 (hE 9 (by decide)) (hE 11 (by decide)) (hE 12 (by decide)) (hE 13 (by decide))
      have hfr := c_fillRow hRN hA (part := k + 1) hg (by omega) (by omega) hT
      refine ⟨(nI (k + 1 + 1), st (st (st N 15 (k + 1) (nI (TT A (k + 1)).1)) 19 (k + 1) (nI (pr A (k + 1)))) 16 (k + 1) (LI A (k + 1))), ?_, rfl, ?_, ?_⟩
      · simp only [bd_X4_fillTables_38, u2]
        rw [if_neg (show ¬ nI (2 ^ A.n) ≤ nI (k + 1) from nI_ge (by omega) (by omega)), if_neg (show ¬ (256 : Int32) ≤ nI (k + 1) from nI_ge (b := 256) (by omega) (by decide)), hfr]
        simp [inc]
      · exact eqx_st (eqx_st (eqx_st hE (by decide) _ _) (by decide) _ _) (by decide) _ _
      · intro q hq
        by_cases e : q = k + 1
        · subst e
          simp [st, upd]
        · have := hT q (by omega)
          simpa [st, upd, e] using this
    · rintro ⟨v, N⟩ ⟨hv, hE, hT⟩
      have hv : v = nI (2 ^ A.n - 1 + 1) := hv
      subst hv
      refine ⟨N, ?_, hE, fun q hq => hT q (by omega)⟩
      simp only [bd_X4_fillTables_38, u2]
      rw [if_pos (show nI (2 ^ A.n) ≤ nI (2 ^ A.n - 1 + 1) from nI_le (by omega) (by omega))]
  obtain ⟨M', h1, h2, h3⟩ := key
  refine ⟨M', ?_, eqx_tr e4 (eqx_mono h2 (by decide)), h3, ?_, ?_⟩
  · rw [h1]; rfl
  · rw [h2 14 (by decide)]; exact h14.1
  · rw [h2 14 (by decide)]; exact h14.2
