/-! ===== boxes ===== -/
def inB (v : Nat → Nat) (c : Nat) : Bool := (decide (v 0 ≤ cd c 0 ∧ cd c 0 < v 0 + v 3) && decide (v 1 ≤ cd c 1 ∧ cd c 1 < v 1 + v 4)) && decide (v 2 ≤ cd c 2 ∧ cd c 2 < v 2 + v 5)
def okB (v : Nat → Nat) : Prop := ∀ i, i < 3 → v i ≤ 5 ∧ 1 ≤ v (3 + i) ∧ v i + v (3 + i) ≤ 6
def hX (M : Mem) (k : Nat) (v : Nat → Nat) : Prop := ∀ i, i < 6 → M (k + 1) i = nI (v i)
def rng (v : Nat → Nat) (i : Nat) (x : Int32) : Bool := if i < 3 then decide (¬ x < 0 ∧ x ≤ 5) else decide (¬ x < 1 ∧ x ≤ nI (6 - v (i - 3)))
theorem c_take {M : Mem} {k i : Nat} {v : Nat → Nat} (x : Int32) (hi : i < 6) (hv : 3 ≤ i → M (k + 1) (i - 3) = nI (v (i - 3)) ∧ v (i - 3) ≤ 5) : fn_X0_take k (nI i) x M = some (if rng v i x then ((1 : Int32), st M (k + 1) i x) else ((0 : Int32), M)) := by
  have i6 : inb (nI i) 6 := inb_nI hi (by decide)
  unfold fn_X0_take
  rw [if_neg (nI_nn (by omega)), if_pos (show nI i < (6 : Int32) from nI_lt (b := 6) hi (by decide))]
  have j43 : ∀ (lo hi' : Int32), jn_X0_take_43 k hi' lo (nI i) x M = some (if decide (¬ x < lo ∧ x ≤ hi') then ((1 : Int32), st M (k + 1) i x) else ((0 : Int32), M)) := by
    intro lo hi'
    unfold jn_X0_take_43
    by_cases c1 : x < lo
    · rw [if_pos c1, if_neg (by simp [c1])]
    · rw [if_neg c1]
      by_cases c2 : x ≤ hi'
      · rw [if_pos c2, if_pos i6, ix_nI (by omega), if_pos (by simp [c1, c2])]; rfl
      · rw [if_neg c2, if_neg (by simp [c2])]
  unfold rng
  by_cases c : i < 3
  · rw [if_neg (show ¬ (3 : Int32) ≤ nI i from nI_ge (b := 3) c (by decide))]
    unfold jn_X0_take_22
    rw [if_neg (show ¬ (3 : Int32) ≤ nI i from nI_ge (b := 3) c (by decide)), j43, if_pos c]
  · obtain ⟨h1, h2⟩ := hv (by omega)
    rw [if_pos (show (3 : Int32) ≤ nI i from (nI_leI (a := 3) (by decide) (by omega)).mpr (by omega))]
    unfold jn_X0_take_22
    rw [if_pos (show (3 : Int32) ≤ nI i from (nI_leI (a := 3) (by decide) (by omega)).mpr (by omega)), show (nI i - 3 : Int32) = nI (i - 3) from nI_sub (b := 3) (by omega), if_pos (inb_nI (show i - 3 < 6 by omega) (by decide)), ix_nI (show i - 3 < 2 ^ 31 by omega), h1, show (6 - nI (v (i - 3)) : Int32) = nI (6 - v (i - 3)) from nI_sub (a := 6) (by omega), j43, if_neg c]
def vx (x1 x2 x3 x4 x5 x6 : Int32) (i : Nat) : Nat := ix (if i = 0 then x1 else if i = 1 then x2 else if i = 2 then x3 else if i = 3 then x4 else if i = 4 then x5 else x6)
def isB6 (x1 x2 x3 x4 x5 x6 : Int32) : Bool := rng (vx x1 x2 x3 x4 x5 x6) 0 x1 && (rng (vx x1 x2 x3 x4 x5 x6) 1 x2 && (rng (vx x1 x2 x3 x4 x5 x6) 2 x3 && (rng (vx x1 x2 x3 x4 x5 x6) 3 x4 && (rng (vx x1 x2 x3 x4 x5 x6) 4 x5 && rng (vx x1 x2 x3 x4 x5 x6) 5 x6))))
theorem rng_lo {v : Nat → Nat} {i : Nat} {x : Int32} (hi : i < 3) (h : rng v i x = true) : x = nI (ix x) ∧ ix x ≤ 5 := by
  unfold rng at h
  rw [if_pos hi, decide_eq_true_eq] at h
  obtain ⟨n, hn, rfl⟩ := nI_ex (x := x) (n := 6) (by decide) h.1 (fun q => (fa_of_lt (fa_trans (show (5 : Int32) < nI 6 by decide) q)).2.1 h.2)
  rw [ix_nI (by omega)]
  exact ⟨rfl, by omega⟩
theorem rng_hi {v : Nat → Nat} {i : Nat} {x : Int32} (hi : ¬ i < 3) (hv : v (i - 3) ≤ 5) (h : rng v i x = true) : x = nI (ix x) ∧ 1 ≤ ix x ∧ v (i - 3) + ix x ≤ 6 := by
  unfold rng at h
  rw [if_neg hi, decide_eq_true_eq] at h
  have h0 : ¬ x < 0 := fun q => h.1 (fa_trans q (by decide))
  obtain ⟨n, hn, rfl⟩ := nI_ex (x := x) (n := 7) (by decide) h0 (fun q => by
    have : nI (6 - v (i - 3)) < nI 7 := nI_lt (by omega) (by decide)
    exact (fa_of_lt (fa_trans this q)).2.1 h.2)
  have a := (nI_leI (by omega) (by omega)).mp h.2
  have b : ¬ n < 1 := fun q => h.1 ((nI_ltI (b := 1) (by omega) (by decide)).mpr q)
  rw [ix_nI (by omega)]
  exact ⟨rfl, by omega, by omega⟩
theorem isB6_ok {x1 x2 x3 x4 x5 x6 : Int32} (h : isB6 x1 x2 x3 x4 x5 x6 = true) : okB (vx x1 x2 x3 x4 x5 x6) ∧ x1 = nI (vx x1 x2 x3 x4 x5 x6 0) ∧ x2 = nI (vx x1 x2 x3 x4 x5 x6 1) ∧ x3 = nI (vx x1 x2 x3 x4 x5 x6 2) ∧ x4 = nI (vx x1 x2 x3 x4 x5 x6 3) ∧ x5 = nI (vx x1 x2 x3 x4 x5 x6 4) ∧ x6 = nI (vx x1 x2 x3 x4 x5 x6 5) := by
  unfold isB6 at h
  simp only [Bool.and_eq_true] at h
  obtain ⟨h1, h2, h3, h4, h5, h6⟩ := h
  have a1 := rng_lo (by omega) h1
  have a2 := rng_lo (by omega) h2
  have a3 := rng_lo (by omega) h3
  have a4 := rng_hi (by omega) (by exact a1.2) h4
  have a5 := rng_hi (by omega) (by exact a2.2) h5
  have a6 := rng_hi (by omega) (by exact a3.2) h6
  refine ⟨?_, a1.1, a2.1, a3.1, a4.1, a5.1, a6.1⟩
  intro i hi
  have c : i = 0 ∨ i = 1 ∨ i = 2 := by omega
  rcases c with rfl | rfl | rfl
  · exact ⟨a1.2, a4.2.1, a4.2.2⟩
  · exact ⟨a2.2, a5.2.1, a5.2.2⟩
  · exact ⟨a3.2, a6.2.1, a6.2.2⟩
theorem tk_bind (b : Bool) (M M' : Mem) (f : Mem → Option (Int32 × Mem)) : ((some (if b then ((1 : Int32), M') else ((0 : Int32), M))).bind (u2 fun r N => if r = 0 then some ((0 : Int32), N) else f N)) = if b then f M' else some ((0 : Int32), M) := by
  cases b
  · rfl
  · rfl
theorem c_takeAll {M : Mem} {k : Nat} (x1 x2 x3 x4 x5 x6 : Int32) : ∃ M', fn_X0_takeAll k x1 x2 x3 x4 x5 x6 M = some (if isB6 x1 x2 x3 x4 x5 x6 then 1 else 0, M') ∧ eqx [k + 1] M M' ∧ (isB6 x1 x2 x3 x4 x5 x6 = true → hX M' k (vx x1 x2 x3 x4 x5 x6)) := by
  obtain ⟨v, hv⟩ : ∃ v, v = vx x1 x2 x3 x4 x5 x6 := ⟨_, rfl⟩
  have hB : isB6 x1 x2 x3 x4 x5 x6 = (rng v 0 x1 && (rng v 1 x2 && (rng v 2 x3 && (rng v 3 x4 && (rng v 4 x5 && rng v 5 x6))))) := by rw [hv]; rfl
  have v0 : v 0 = ix x1 := by rw [hv]; rfl
  have v1 : v 1 = ix x2 := by rw [hv]; rfl
  have v2 : v 2 = ix x3 := by rw [hv]; rfl
  have v3 : v 3 = ix x4 := by rw [hv]; rfl
  have v4 : v 4 = ix x5 := by rw [hv]; rfl
  have v5 : v 5 = ix x6 := by rw [hv]; rfl
  rw [hB, ← hv]
  unfold fn_X0_takeAll
  rw [show fn_X0_take k 0 x1 M = _ from c_take (i := 0) (v := v) x1 (by omega) (fun h => by omega), tk_bind]
  cases r1 : rng v 0 x1
  · exact ⟨M, rfl, eqx_rf _ _, fun h => by cases h⟩
  rw [if_pos rfl, Bool.true_and]
  obtain ⟨M1, hM1⟩ : ∃ z, z = st M (k + 1) 0 x1 := ⟨_, rfl⟩
  rw [← hM1]
  have e1 : eqx [k + 1] M M1 := by rw [hM1]; exact eqx_st (eqx_rf _ _) (by simp) _ _
  rw [show fn_X0_take k 1 x2 M1 = _ from c_take (i := 1) (v := v) x2 (by omega) (fun h => by omega), tk_bind]
  cases r2 : rng v 1 x2
  · exact ⟨M1, rfl, e1, fun h => by cases h⟩
  rw [if_pos rfl, Bool.true_and]
  obtain ⟨M2, hM2⟩ : ∃ z, z = st M1 (k + 1) 1 x2 := ⟨_, rfl⟩
  rw [← hM2]
  have e2 : eqx [k + 1] M M2 := by rw [hM2]; exact eqx_st e1 (by simp) _ _
  rw [show fn_X0_take k 2 x3 M2 = _ from c_take (i := 2) (v := v) x3 (by omega) (fun h => by omega), tk_bind]
  cases r3 : rng v 2 x3
  · exact ⟨M2, rfl, e2, fun h => by cases h⟩
  rw [if_pos rfl, Bool.true_and]
  obtain ⟨M3, hM3⟩ : ∃ z, z = st M2 (k + 1) 2 x3 := ⟨_, rfl⟩
  rw [← hM3]
  have e3 : eqx [k + 1] M M3 := by rw [hM3]; exact eqx_st e2 (by simp) _ _
  obtain ⟨n1, l1⟩ := rng_lo (by omega) r1
  obtain ⟨n2, l2⟩ := rng_lo (by omega) r2
  obtain ⟨n3, l3⟩ := rng_lo (by omega) r3
  have w0 : M3 (k + 1) 0 = nI (v 0) := by rw [hM3, st_at, upd_ne _ _ (by decide), hM2, st_at, upd_ne _ _ (by decide), hM1, st_at, upd_at, v0]; exact n1
  have w1 : M3 (k + 1) 1 = nI (v 1) := by rw [hM3, st_at, upd_ne _ _ (by decide), hM2, st_at, upd_at, v1]; exact n2
  have w2 : M3 (k + 1) 2 = nI (v 2) := by rw [hM3, st_at, upd_at, v2]; exact n3
  rw [show fn_X0_take k 3 x4 M3 = _ from c_take (i := 3) (v := v) x4 (by omega) (fun _ => ⟨w0, by show v 0 ≤ 5; omega⟩), tk_bind]
  cases r4 : rng v 3 x4
  · exact ⟨M3, rfl, e3, fun h => by cases h⟩
  rw [if_pos rfl, Bool.true_and]
  obtain ⟨M4, hM4⟩ : ∃ z, z = st M3 (k + 1) 3 x4 := ⟨_, rfl⟩
  rw [← hM4]
  have e4 : eqx [k + 1] M M4 := by rw [hM4]; exact eqx_st e3 (by simp) _ _
  have x1' : M4 (k + 1) 1 = nI (v 1) := by rw [hM4, st_at, upd_ne _ _ (by decide), w1]
  have x2' : M4 (k + 1) 2 = nI (v 2) := by rw [hM4, st_at, upd_ne _ _ (by decide), w2]
  rw [show fn_X0_take k 4 x5 M4 = _ from c_take (i := 4) (v := v) x5 (by omega) (fun _ => ⟨x1', by show v 1 ≤ 5; omega⟩), tk_bind]
  cases r5 : rng v 4 x5
  · exact ⟨M4, rfl, e4, fun h => by cases h⟩
  rw [if_pos rfl, Bool.true_and]
  obtain ⟨M5, hM5⟩ : ∃ z, z = st M4 (k + 1) 4 x5 := ⟨_, rfl⟩
  rw [← hM5]
  have e5 : eqx [k + 1] M M5 := by rw [hM5]; exact eqx_st e4 (by simp) _ _
  have y2' : M5 (k + 1) 2 = nI (v 2) := by rw [hM5, st_at, upd_ne _ _ (by decide), x2']
  rw [show fn_X0_take k 5 x6 M5 = _ from c_take (i := 5) (v := v) x6 (by omega) (fun _ => ⟨y2', by show v 2 ≤ 5; omega⟩), tk_bind _ _ _ (fun N => some ((1 : Int32), N))]
  cases r6 : rng v 5 x6
  · exact ⟨M5, rfl, e5, fun h => by cases h⟩
  rw [if_pos rfl]
  refine ⟨_, rfl, eqx_st e5 (by simp) _ _, fun _ => ?_⟩
  obtain ⟨n4, _⟩ := rng_hi (by omega) (show v (3 - 3) ≤ 5 by show v 0 ≤ 5; omega) r4
  obtain ⟨n5, _⟩ := rng_hi (by omega) (show v (4 - 3) ≤ 5 by show v 1 ≤ 5; omega) r5
  obtain ⟨n6, _⟩ := rng_hi (by omega) (show v (5 - 3) ≤ 5 by show v 2 ≤ 5; omega) r6
  intro i hi
  have c : i = 0 ∨ i = 1 ∨ i = 2 ∨ i = 3 ∨ i = 4 ∨ i = 5 := by omega
  rcases c with rfl | rfl | rfl | rfl | rfl | rfl
  · rw [st_at, upd_ne _ _ (by decide), hM5, st_at, upd_ne _ _ (by decide), hM4, st_at, upd_ne _ _ (by decide)]; exact w0
  · rw [st_at, upd_ne _ _ (by decide), hM5, st_at, upd_ne _ _ (by decide)]; exact x1'
  · rw [st_at, upd_ne _ _ (by decide)]; exact y2'
  · rw [st_at, upd_ne _ _ (by decide), hM5, st_at, upd_ne _ _ (by decide), hM4, st_at, upd_at, v3]; exact n4
  · rw [st_at, upd_ne _ _ (by decide), hM5, st_at, upd_at, v4]; exact n5
  · rw [st_at, upd_at, v5]; exact n6
theorem in_lo (v : Nat → Nat) {i : Nat} (hi : i < 3) (x : Int32) : fn_X8_in x 0 5 = if rng v i x then 1 else 0 := by
  unfold fn_X8_in rng
  rw [if_pos hi]
  by_cases c1 : x < 0
  · rw [if_pos c1, if_neg (by simp [c1])]
  · rw [if_neg c1]
    by_cases c2 : x ≤ 5
    · rw [if_neg (fun q => (fa_of_lt q).2.1 c2), if_pos (by simp [c1, c2])]
    · rw [if_pos (fa_of_nle c2), if_neg (by simp [c2])]
theorem in_hi (v : Nat → Nat) {i : Nat} (hi : ¬ i < 3) (x : Int32) {y : Int32} (hy : y = nI (v (i - 3))) (hv : v (i - 3) ≤ 5) : fn_X8_in x 1 (6 - y) = if rng v i x then 1 else 0 := by
  unfold fn_X8_in rng
  rw [if_neg hi, hy, show (6 - nI (v (i - 3)) : Int32) = nI (6 - v (i - 3)) from nI_sub (a := 6) (by omega)]
  by_cases c1 : x < 1
  · rw [if_pos c1, if_neg (by simp [c1])]
  · rw [if_neg c1]
    by_cases c2 : x ≤ nI (6 - v (i - 3))
    · rw [if_neg (fun q => (fa_of_lt q).2.1 c2), if_pos (by simp [c1, c2])]
    · rw [if_pos (fa_of_nle c2), if_neg (by simp [c2])]
theorem m_isBox (x1 x2 x3 x4 x5 x6 : Int32) : fn_X8_isBox x1 x2 x3 x4 x5 x6 = if isB6 x1 x2 x3 x4 x5 x6 then 1 else 0 := by
  unfold fn_X8_isBox isB6 jn_X8_isBox_31 jn_X8_isBox_32
  rw [in_lo (vx x1 x2 x3 x4 x5 x6) (i := 0) (by omega), in_lo (vx x1 x2 x3 x4 x5 x6) (i := 1) (by omega), in_lo (vx x1 x2 x3 x4 x5 x6) (i := 2) (by omega)]
  cases r1 : rng (vx x1 x2 x3 x4 x5 x6) 0 x1
  · simp
  cases r2 : rng (vx x1 x2 x3 x4 x5 x6) 1 x2
  · simp
  cases r3 : rng (vx x1 x2 x3 x4 x5 x6) 2 x3
  · simp
  obtain ⟨n1, l1⟩ := rng_lo (by omega) r1
  obtain ⟨n2, l2⟩ := rng_lo (by omega) r2
  obtain ⟨n3, l3⟩ := rng_lo (by omega) r3
  rw [in_hi (vx x1 x2 x3 x4 x5 x6) (i := 3) (by omega) x4 (y := x1) n1 l1, in_hi (vx x1 x2 x3 x4 x5 x6) (i := 4) (by omega) x5 (y := x2) n2 l2, in_hi (vx x1 x2 x3 x4 x5 x6) (i := 5) (by omega) x6 (y := x3) n3 l3]
  cases rng (vx x1 x2 x3 x4 x5 x6) 3 x4 <;> cases rng (vx x1 x2 x3 x4 x5 x6) 4 x5 <;> cases rng (vx x1 x2 x3 x4 x5 x6) 5 x6 <;> simp
