/-! ===== the class reads the relations off the cells ===== -/
theorem nI_sub {a b : Nat} (h : b ≤ a) : nI a - nI b = nI (a - b) := by
  have e : nI a = nI (a - b) + nI b := by rw [nI_add]; congr 1; omega
  rw [e, Int32.add_sub_cancel]
def hB (M : Mem) (k : Nat) (E : Nat → Nat → Nat → Bool) : Prop := ∀ p d, p < 8 → d < 6 → M (k + 2) (6 * p + d) = nI (msk (E p d) 8)
def hT (M : Mem) (k : Nat) (T : Nat → Nat → Bool) : Prop := ∀ p, p < 8 → M (k + 3) p = nI (msk (T p) 8)
def hU (M : Mem) (k : Nat) (T : Nat → Nat → Bool) : Prop := ∀ p, p < 8 → M (k + 4) p = nI (msk (T p) 8)
def hC (M : Mem) (k : Nat) (C : Nat → Nat → Nat) : Prop := ∀ a b, a < 8 → b < 8 → a ≠ b → M (k + 1) (8 * a + b) = nI (C a b)
def hO (M : Mem) (k : Nat) (o : Nat → Nat) : Prop := ∀ c, c < 216 → M (k + 1) c = oI (o c)
theorem hB_c {M M' : Mem} {k : Nat} {E E' : Nat → Nat → Nat → Bool} (h : hB M k E) (hm : M' (k + 2) = M (k + 2)) (e : ∀ p d q, p < 8 → d < 6 → q < 8 → E' p d q = E p d q) : hB M' k E' := by
  intro p d hp hd
  rw [hm, h p d hp hd, msk_eq (fun q hq => e p d q hp hd hq)]
theorem hT_c {M M' : Mem} {k : Nat} {E E' : Nat → Nat → Bool} (h : hT M k E) (hm : M' (k + 3) = M (k + 3)) (e : ∀ p q, p < 8 → q < 8 → E' p q = E p q) : hT M' k E' := by
  intro p hp
  rw [hm, h p hp, msk_eq (fun q hq => e p q hp hq)]
theorem hU_c {M M' : Mem} {k : Nat} {E E' : Nat → Nat → Bool} (h : hU M k E) (hm : M' (k + 4) = M (k + 4)) (e : ∀ p q, p < 8 → q < 8 → E' p q = E p q) : hU M' k E' := by
  intro p hp
  rw [hm, h p hp, msk_eq (fun q hq => e p q hp hq)]
theorem hC_c {M M' : Mem} {k : Nat} {C C' : Nat → Nat → Nat} (h : hC M k C) (hm : M' (k + 1) = M (k + 1)) (e : ∀ a b, a < 8 → b < 8 → a ≠ b → C' a b = C a b) : hC M' k C' := by
  intro a b ha hb hn
  rw [hm, h a b ha hb hn, e a b ha hb hn]
theorem c_block {M : Mem} {k : Nat} {E : Nat → Nat → Nat → Bool} (h : hB M k E) {a d : Nat} (ha : a ≤ 8) (hd : d < 6) (P : Nat → Bool) : ∃ M', fn_X5_block k (oI a) (nI d) (nI (msk P 8)) M = some (nI (msk (fun q => P q || a == q + 1) 8), M') ∧ eqx [k + 2] M M' ∧ hB M' k (fun p d' q => E p d' q || (a == p + 1 && (d' == d && (P q && q != p)))) := by
  unfold fn_X5_block
  cases a with
  | zero =>
    rw [oI_0, if_pos rfl]
    refine ⟨M, ?_, eqx_rf _ _, hB_c h rfl (fun p d' q _ _ _ => by simp)⟩
    rw [msk_eq (f := P) (h := fun q => P q || 0 == q + 1) (fun q _ => by simp)]
  | succ p =>
    rw [oI_s, if_neg (m1_ne p (by omega)), N_sl (by omega), i6, ix_nI (by omega)]
    simp only [bv]
    rw [if_pos (inb_nI (by omega) (by omega)), if_pos (inb_nI (by omega) (by omega)), h p d (by omega) hd, N_dif, N_or, N_or, msk_no, msk_or]
    refine ⟨_, by rw [msk_one (show p < 8 by omega), msk_or]; congr 3; apply msk_eq; intro q _; congr 1; rw [Bool.eq_iff_iff]; simp; omega, eqx_st (eqx_rf _ _) (by simp) _ _, ?_⟩
    intro p' d' hp' hd'
    rw [st_at]
    by_cases e : 6 * p' + d' = 6 * p + d
    · have e1 : p' = p := by omega
      have e2 : d' = d := by omega
      subst e1; subst e2
      rw [upd_at]
      congr 1
      apply msk_eq
      intro q _
      try dsimp only
      simp
    · rw [upd_ne _ _ e, h p' d' hp' hd']
      congr 1
      apply msk_eq
      intro q _
      try dsimp only
      have : ((p + 1 == p' + 1) && (d' == d)) = false := by
        rw [Bool.eq_false_iff]
        intro q
        simp at q
        omega
      rw [← Bool.and_assoc, this]
      simp
theorem c_join {M : Mem} {k : Nat} {T U : Nat → Nat → Bool} {C : Nat → Nat → Nat} (h1 : hT M k T) (h2 : hU M k U) (h3 : hC M k C) {f s ax : Nat} (hf : f < 8) (hs : s < 8) (hn : f ≠ s) (hx : ax < 3) : ∃ M', fn_X5_join k (nI f) (nI s) (nI ax) M = some M' ∧ eqx [k + 1, k + 3, k + 4] M M' ∧ hT M' k (fun p q => T p q || ((f == p && s == q) || (f == q && s == p))) ∧ hU M' k (fun p q => U p q || (ax == 2 && (f == q && s == p))) ∧ hC M' k (fun a b => C a b + ((if f = a ∧ s = b then 1 else 0) + (if f = b ∧ s = a then 1 else 0))) := by
  have i1 : inb (nI f) 8 := inb_nI hf (by omega)
  have i2 : inb (nI s) 8 := inb_nI hs (by omega)
  unfold fn_X5_join
  rw [i8, i8, ix_nI (by omega), ix_nI (by omega), ix_nI (show f < 2 ^ 31 by omega), ix_nI (show s < 2 ^ 31 by omega), N_sl (by omega), N_sl (by omega)]
  simp only [bv]
  rw [if_pos (inb_nI (show 8 * f + s < 64 by omega) (by omega)), if_pos (inb_nI (show 8 * f + s < 64 by omega) (by omega)), if_pos (inb_nI (show 8 * s + f < 64 by omega) (by omega)), if_pos (inb_nI (show 8 * s + f < 64 by omega) (by omega)), if_pos i1, if_pos i1, if_pos i2, if_pos i2, if_pos i2, if_pos i2]
  obtain ⟨M3, hM3⟩ : ∃ z, z = st (st M (k + 1) (8 * f + s) (M (k + 1) (8 * f + s) + 1)) (k + 1) (8 * s + f) (st M (k + 1) (8 * f + s) (M (k + 1) (8 * f + s) + 1) (k + 1) (8 * s + f) + 1) := ⟨_, rfl⟩
  rw [← hM3]
  have e3 : eqx [k + 1] M M3 := by rw [hM3]; exact eqx_st (eqx_st (eqx_rf _ _) (by simp) _ _) (by simp) _ _
  have t3 : hC M3 k (fun a b => C a b + ((if f = a ∧ s = b then 1 else 0) + (if f = b ∧ s = a then 1 else 0))) := by
    intro a b ha hb hab
    dsimp only
    rw [hM3, st_at, st_at]
    by_cases q1 : 8 * a + b = 8 * s + f
    · have e1 : a = s := by omega
      have e2 : b = f := by omega
      subst e1; subst e2
      rw [upd_at, upd_ne _ _ (by omega), h3 a b ha hb hab, inc, if_neg (by omega), if_pos ⟨rfl, rfl⟩]
    · rw [upd_ne _ _ q1]
      by_cases q2 : 8 * a + b = 8 * f + s
      · have e1 : a = f := by omega
        have e2 : b = s := by omega
        subst e1; subst e2
        rw [upd_at, h3 a b ha hb hab, inc, if_pos ⟨rfl, rfl⟩, if_neg (by omega)]
      · rw [upd_ne _ _ q2, h3 a b ha hb hab, if_neg (by omega), if_neg (by omega)]
        rfl
  obtain ⟨M5, hM5⟩ : ∃ z, z = st (st M3 (k + 3) f (M3 (k + 3) f ||| nI (2 ^ s))) (k + 3) s (st M3 (k + 3) f (M3 (k + 3) f ||| nI (2 ^ s)) (k + 3) s ||| nI (2 ^ f)) := ⟨_, rfl⟩
  rw [← hM5]
  have e5 : eqx [k + 3] M3 M5 := by rw [hM5]; exact eqx_st (eqx_st (eqx_rf _ _) (by simp) _ _) (by simp) _ _
  have t5 : hT M5 k (fun p q => T p q || ((f == p && s == q) || (f == q && s == p))) := by
    intro p hp
    have hm : M3 (k + 3) = M (k + 3) := e3 _ (by simp)
    rw [hM5, st_at, st_at, hm]
    by_cases q1 : p = s
    · subst q1
      rw [upd_at, upd_ne _ _ (by omega), h1 p hp, N_or, msk_one hf, msk_or]
      congr 1
      apply msk_eq
      intro q _
      try dsimp only
      congr 1
      rw [Bool.eq_iff_iff]; simp; omega
    · rw [upd_ne _ _ q1]
      by_cases q2 : p = f
      · subst q2
        rw [upd_at, h1 p hp, N_or, msk_one hs, msk_or]
        congr 1
        apply msk_eq
        intro q _
        try dsimp only
        congr 1
        rw [Bool.eq_iff_iff]; simp; omega
      · rw [upd_ne _ _ q2, h1 p hp]
        congr 1
        apply msk_eq
        intro q _
        try dsimp only
        rw [show (f == p) = false by simp; omega, show (s == p) = false by simp; omega]
        simp
  have u5 : hU M5 k U := hU_c h2 ((e5 _ (by simp)).trans (e3 _ (by simp))) (fun _ _ _ _ => rfl)
  have c5 := hC_c t3 (e5 (k + 1) (by simp)) (fun _ _ _ _ _ => rfl)
  have ee : eqx [k + 1, k + 3, k + 4] M M5 := eqx_tr (eqx_mono e3 (by simp)) (eqx_mono e5 (by simp))
  by_cases hx2 : ax = 2
  · subst hx2
    rw [if_pos (show nI 2 = (2 : Int32) from rfl)]
    refine ⟨_, rfl, eqx_st ee (by simp) _ _, hT_c t5 (st_ne _ _ _ (by omega)) (fun _ _ _ _ => rfl), ?_, hC_c c5 (st_ne _ _ _ (by omega)) (fun _ _ _ _ _ => rfl)⟩
    intro p hp
    rw [st_at]
    by_cases q1 : p = s
    · subst q1
      rw [upd_at, u5 p hp, N_or, msk_one hf, msk_or]
      congr 1
      apply msk_eq
      intro q _
      try dsimp only
      congr 1
      rw [Bool.eq_iff_iff]; simp; omega
    · rw [upd_ne _ _ q1, u5 p hp]
      congr 1
      apply msk_eq
      intro q _
      try dsimp only
      rw [show (s == p) = false by simp; omega]
      simp
  · rw [if_neg (show ¬ nI ax = (2 : Int32) from fun q => hx2 ((nI_eq (show ax < 2 ^ 31 by omega) (show 2 < 2 ^ 31 by decide)).mp q))]
    refine ⟨_, rfl, ee, t5, hU_c u5 rfl (fun p q _ _ => ?_), c5⟩
    rw [show (ax == 2) = false by simp; omega]
    simp
