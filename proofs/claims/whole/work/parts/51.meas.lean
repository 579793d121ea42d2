/-! ===== measures ===== -/
def ceN (o : Nat → Nat) (p i : Nat) : Nat := fb_ct (fun c => o c == p + 1) i
def grN (o : Nat → Nat) (p i : Nat) : Nat := fb_ct (fun c => decide (c < 36) && o c == p + 1) i
def alN (o : Nat → Nat) (i : Nat) : Nat := fb_ct (fun c => o c != 0) i
def loN (o : Nat → Nat) (p a : Nat) : Nat → Nat
  | 0 => 6
  | i + 1 => if o i = p + 1 then min (loN o p a i) (cd i a) else loN o p a i
def hiN (o : Nat → Nat) (p a : Nat) : Nat → Nat
  | 0 => 0
  | i + 1 => if o i = p + 1 then max (hiN o p a i) (cd i a + 1) else hiN o p a i
theorem cd_lt {c a : Nat} (hc : c < 216) (ha : a < 3) : cd c a < 6 := (cd_eq0 c hc a ha).2
theorem loN_le (o : Nat → Nat) (p a : Nat) : ∀ i, loN o p a i ≤ 6
  | 0 => Nat.le_refl 6
  | i + 1 => by
    have := loN_le o p a i
    unfold loN
    split <;> omega
theorem hiN_le (o : Nat → Nat) (p : Nat) {a : Nat} (ha : a < 3) : ∀ i, i ≤ 216 → hiN o p a i ≤ 6
  | 0, _ => Nat.zero_le 6
  | i + 1, hi => by
    have := hiN_le o p ha i (by omega)
    have := cd_lt (c := i) (by omega) ha
    unfold hiN
    split <;> omega
def MEi (M : Mem) (o : Nat → Nat) (i : Nat) : Prop := (∀ p, p < 8 → M 5 p = nI (ceN o p i)) ∧ (∀ p, p < 8 → M 6 p = nI (grN o p i)) ∧ (∀ p a, p < 8 → a < 3 → M 7 (3 * p + a) = nI (loN o p a i)) ∧ (∀ p a, p < 8 → a < 3 → M 8 (3 * p + a) = oI (hiN o p a i)) ∧ M 4 4 = nI (alN o i)
theorem MEi_eq {M M' : Mem} {o : Nat → Nat} {i : Nat} (h : MEi M o i) (e : ∀ a, 4 ≤ a → a ≤ 8 → M' a = M a) : MEi M' o i := by
  unfold MEi at *
  rw [e 4 (by omega) (by omega), e 5 (by omega) (by omega), e 6 (by omega) (by omega), e 7 (by omega) (by omega), e 8 (by omega) (by omega)]
  exact h
theorem mn_n2 {a b : Nat} (ha : a < 2 ^ 31) (hb : b < 2 ^ 31) : mn (nI a) (nI b) = nI (min a b) := by
  unfold mn
  by_cases h : b < a
  · rw [if_pos ((nI_ltI hb ha).mpr h), Nat.min_eq_right (by omega)]
  · rw [if_neg (fun q => h ((nI_ltI hb ha).mp q)), Nat.min_eq_left (by omega)]
theorem mx_oI {a b : Nat} (ha : a < 2 ^ 31) (hb : b < 2 ^ 31) : mx (oI a) (nI b) = oI (max a (b + 1)) := by
  unfold mx
  cases a with
  | zero =>
    rw [oI_0, if_pos (by rw [fa_lt, nI_toInt hb]; have : (-1 : Int32).toInt = -1 := by decide
                         omega), Nat.max_eq_right (by omega), oI_s]
  | succ a =>
    rw [oI_s]
    by_cases h : a < b
    · rw [if_pos ((nI_ltI (by omega) hb).mpr h), Nat.max_eq_right (by omega), oI_s]
    · rw [if_neg (fun q => h ((nI_ltI (by omega) hb).mp q)), Nat.max_eq_left (by omega), oI_s]
theorem i3 (p d : Nat) : (3 : Int32) * nI p + nI d = nI (3 * p + d) := by
  show nI 3 * nI p + nI d = _
  rw [pk_mul, nI_add]
theorem c_measure {M : Mem} {o : Nat → Nat} {i p g : Nat} (hg : 5000 < g) (hi : i < 216) (hp : p < 8) (hoi : o i = p + 1) (h : MEi M o i) : ∃ M', fn_X3_measure g (nI i) (nI p) M = some M' ∧ eqx [4, 5, 6, 7, 8] M M' ∧ MEi M' o (i + 1) := by
  obtain ⟨h1, h2, h3, h4, h5⟩ := h
  have ip : inb (nI p) 8 := inb_nI hp (by decide)
  unfold fn_X3_measure
  simp only [bv]
  rw [if_pos ip, if_pos ip, ix_nI (by omega)]
  obtain ⟨M1, hM1⟩ : ∃ z, z = st (st M 4 4 (M 4 4 + 1)) 5 p (st M 4 4 (M 4 4 + 1) 5 p + 1) := ⟨_, rfl⟩
  rw [← hM1]
  have e1 : eqx [4, 5] M M1 := by rw [hM1]; exact eqx_st (eqx_st (eqx_rf _ _) (by decide) _ _) (by decide) _ _
  have a1 : M1 4 4 = nI (alN o (i + 1)) := by
    rw [hM1, st_ne _ _ _ (by decide), st_at, upd_at, h5, inc]
    unfold alN
    rw [fb_ct_succ, hoi]; rfl
  have a2 : ∀ q, q < 8 → M1 5 q = nI (ceN o q (i + 1)) := by
    intro q hq
    rw [hM1, st_at]
    unfold ceN
    rw [fb_ct_succ, hoi]
    by_cases e : q = p
    · subst e; rw [upd_at, st_ne _ _ _ (by decide), h1 q hq, inc]; simp [ceN]
    · rw [upd_ne _ _ e, st_ne _ _ _ (by decide), h1 q hq, show (p + 1 == q + 1) = false by simp; omega]; rfl
  have mid : ∀ N, eqx [6] M1 N → (∀ q, q < 8 → N 6 q = nI (grN o q (i + 1))) → ∃ M', jn_X3_measure_36 g (nI i) (nI p) N = some M' ∧ eqx [4, 5, 6, 7, 8] M M' ∧ MEi M' o (i + 1) := by
    intro N hN hgr
    unfold jn_X3_measure_36
    have b7 : ∀ q a, q < 8 → a < 3 → N 7 (3 * q + a) = nI (loN o q a i) := by
      intro q a hq ha; rw [hN 7 (by decide), e1 7 (by decide)]; exact h3 q a hq ha
    have b8 : ∀ q a, q < 8 → a < 3 → N 8 (3 * q + a) = oI (hiN o q a i) := by
      intro q a hq ha; rw [hN 8 (by decide), e1 8 (by decide)]; exact h4 q a hq ha
    have key : ∃ M', lpN g (bd_X3_measure_38 (nI i) (nI p)) ((0 : Int32), N) = some M' ∧ (eqx [7, 8] N M' ∧ (∀ q a, q < 8 → a < 3 → M' 7 (3 * q + a) = nI (loN o q a (i + 1))) ∧ (∀ q a, q < 8 → a < 3 → M' 8 (3 * q + a) = oI (hiN o q a (i + 1)))) := by
      refine lp_inv (fun j w => w.1 = nI j ∧ eqx [7, 8] N w.2 ∧ (∀ q a, q < 8 → a < 3 → w.2 7 (3 * q + a) = nI (if a < j then loN o q a (i + 1) else loN o q a i)) ∧ (∀ q a, q < 8 → a < 3 → w.2 8 (3 * q + a) = oI (if a < j then hiN o q a (i + 1) else hiN o q a i))) _ 3 ?_ ?_ (by omega) ⟨rfl, eqx_rf _ _, ?_, ?_⟩
      · rintro j ⟨v, N1⟩ hj ⟨q1, q2, q3, q4⟩
        dsimp only at q1 q2 q3 q4
        subst q1
        have i24 : inb (nI (3 * p + j)) 24 := inb_nI (by omega) (by decide)
        simp only [bd_X3_measure_38, u2]
        rw [if_neg (show ¬ (3 : Int32) ≤ nI j from nI_ge (b := 3) hj (by decide)), i3]
        simp only [bv]
        rw [if_pos i24, if_pos i24, if_pos i24, if_pos i24, ix_nI (by omega), (cd_eq0 i hi j hj).1, q3 p j hp hj, st_ne _ _ _ (by decide), q4 p j hp hj, if_neg (by omega), if_neg (by omega)]
        have hl := loN_le o p j i
        have hh := hiN_le o p hj i (by omega)
        have hc := cd_lt hi hj
        rw [mn_n2 (by omega) (by omega), mx_oI (by omega) (by omega)]
        refine ⟨_, rfl, inc j, eqx_st (eqx_st q2 (by decide) _ _) (by decide) _ _, ?_, ?_⟩
        · intro q a hq ha
          dsimp only
          rw [st_ne _ _ _ (by decide), st_at]
          by_cases e : 3 * q + a = 3 * p + j
          · have w1 : q = p := by omega
            have w2 : a = j := by omega
            subst w1; subst w2
            rw [upd_at, if_pos (by omega)]
            conv => rhs; unfold loN
            rw [if_pos hoi]
          · rw [upd_ne _ _ e, q3 q a hq ha]
            by_cases w : a < j
            · rw [if_pos w, if_pos (by omega)]
            · rw [if_neg w]
              by_cases w2 : a = j
              · rw [if_pos (by omega)]
                conv => rhs; unfold loN
                rw [if_neg (by omega)]
              · rw [if_neg (by omega)]
        · intro q a hq ha
          dsimp only
          rw [st_at]
          by_cases e : 3 * q + a = 3 * p + j
          · have w1 : q = p := by omega
            have w2 : a = j := by omega
            subst w1; subst w2
            rw [upd_at, if_pos (by omega)]
            conv => rhs; unfold hiN
            rw [if_pos hoi]
          · rw [upd_ne _ _ e, st_ne _ _ _ (by decide), q4 q a hq ha]
            by_cases w : a < j
            · rw [if_pos w, if_pos (by omega)]
            · rw [if_neg w]
              by_cases w2 : a = j
              · rw [if_pos (by omega)]
                conv => rhs; unfold hiN
                rw [if_neg (by omega)]
              · rw [if_neg (by omega)]
      · rintro ⟨v, N1⟩ ⟨q1, q2, q3, q4⟩
        dsimp only at q1 q2 q3 q4
        subst q1
        refine ⟨N1, ?_, q2, ?_, ?_⟩
        · simp only [bd_X3_measure_38, u2]
          rw [if_pos (by decide)]
        · intro q a hq ha; rw [q3 q a hq ha, if_pos ha]
        · intro q a hq ha; rw [q4 q a hq ha, if_pos ha]
      · intro q a hq ha; rw [if_neg (by omega)]; exact b7 q a hq ha
      · intro q a hq ha; rw [if_neg (by omega)]; exact b8 q a hq ha
    obtain ⟨M', z1, z2, z3, z4⟩ := key
    rw [z1]
    refine ⟨M', rfl, eqx_tr (eqx_mono e1 (by decide)) (eqx_tr (eqx_mono hN (by decide)) (eqx_mono z2 (by decide))), ?_, ?_, z3, z4, ?_⟩
    · intro q hq; rw [z2 5 (by decide), hN 5 (by decide)]; exact a2 q hq
    · intro q hq; rw [z2 6 (by decide)]; exact hgr q hq
    · rw [z2 4 (by decide), hN 4 (by decide)]; exact a1
  by_cases c36 : 36 ≤ i
  · rw [if_pos (show (36 : Int32) ≤ nI i from (nI_leI (a := 36) (by decide) (by omega)).mpr c36)]
    refine mid M1 (eqx_rf _ _) ?_
    intro q hq
    rw [e1 6 (by decide), h2 q hq]
    unfold grN
    rw [fb_ct_succ, decide_eq_false (by omega)]; rfl
  · rw [if_neg (show ¬ (36 : Int32) ≤ nI i from fun q => c36 ((nI_leI (a := 36) (by decide) (by omega)).mp q)), if_pos ip, if_pos ip]
    refine mid _ (eqx_st (eqx_rf _ _) (by decide) _ _) ?_
    intro q hq
    unfold grN
    rw [st_at, fb_ct_succ, decide_eq_true (by omega), hoi]
    by_cases e : q = p
    · subst e; rw [upd_at, e1 6 (by decide), h2 q hq, inc]; simp [grN]
    · rw [upd_ne _ _ e, e1 6 (by decide), h2 q hq, show (p + 1 == q + 1) = false by simp; omega]; rfl
theorem c_mread {M : Mem} {o : Nat → Nat} {g : Nat} (hg : 5000 < g) (ho : ∀ c, c < 216 → o c ≤ 8) (h0 : hO M 1 o) : ∃ M', fn_X3_read g 1 M = some M' ∧ eqx [4, 5, 6, 7, 8] M M' ∧ MEi M' o 216 := by
  unfold fn_X3_read
  have two : ∀ (b : (Int32 × Mem) → Option ((Int32 × Mem) ⊕ Mem)) (k n : Nat) (x y : Int32) (N : Mem), n < g → (∀ i N', i < n → b (nI i, N') = some (.inl (nI (i + 1), st (st N' k i x) (k + 1) i y))) → (∀ N', b (nI n, N') = some (.inr N')) → ∃ N', lpN g b ((0 : Int32), N) = some N' ∧ (eqx [k, k + 1] N N' ∧ (∀ i, i < n → N' k i = x ∧ N' (k + 1) i = y)) := by
    intro b k n x y N hn hs he
    refine lp_inv (fun j w => w.1 = nI j ∧ eqx [k, k + 1] N w.2 ∧ (∀ i, i < j → w.2 k i = x ∧ w.2 (k + 1) i = y)) _ n ?_ ?_ hn ⟨rfl, eqx_rf _ _, fun i hi => by omega⟩
    · rintro j ⟨v, N1⟩ hj ⟨q1, q2, q3⟩
      dsimp only at q1 q2 q3
      subst q1
      refine ⟨_, hs j N1 hj, rfl, eqx_st (eqx_st q2 (by simp) _ _) (by simp) _ _, ?_⟩
      intro i hi
      dsimp only
      rw [st_ne _ _ _ (by omega), st_at, st_at, st_ne _ _ _ (by omega)]
      by_cases e : i = j
      · subst e; rw [upd_at, upd_at]; exact ⟨rfl, rfl⟩
      · rw [upd_ne _ _ e, upd_ne _ _ e]; exact q3 i (by omega)
    · rintro ⟨v, N1⟩ ⟨q1, q2, q3⟩
      dsimp only at q1 q2 q3
      subst q1
      exact ⟨N1, he N1, q2, q3⟩
  obtain ⟨M1, a1, a2, a3⟩ := two bd_X3_read_2 5 8 0 0 M (by omega) (by
    intro i N' hi
    simp only [bd_X3_read_2, u2]
    rw [if_neg (show ¬ (8 : Int32) ≤ nI i from nI_ge (b := 8) hi (by decide)), if_pos (inb_nI hi (by decide)), ix_nI (by omega), inc]
    simp only [bv]
    rw [if_pos (inb_nI hi (by decide))]) (by
    intro N'
    simp only [bd_X3_read_2, u2]
    rw [if_pos (by decide)])
  rw [a1]
  simp only [Option.bind_some, u1]
  obtain ⟨M2, b1, b2, b3⟩ := two bd_X3_read_30 7 24 6 (-1) M1 (by omega) (by
    intro i N' hi
    simp only [bd_X3_read_30, u2]
    rw [if_neg (show ¬ (24 : Int32) ≤ nI i from nI_ge (b := 24) hi (by decide)), if_pos (inb_nI hi (by decide)), ix_nI (by omega), inc]
    simp only [bv]
    rw [if_pos (inb_nI hi (by decide))]) (by
    intro N'
    simp only [bd_X3_read_30, u2]
    rw [if_pos (by decide)])
  rw [b1]
  simp only [Option.bind_some, u1, bv]
  obtain ⟨M3, hM3⟩ : ∃ z, z = st M2 4 4 0 := ⟨_, rfl⟩
  rw [← hM3]
  have e3 : eqx [4, 5, 6, 7, 8] M M3 := by
    rw [hM3]; exact eqx_st (eqx_tr (eqx_mono a2 (by decide)) (eqx_mono b2 (by decide))) (by decide) _ _
  have m3 : MEi M3 o 0 := by
    refine ⟨?_, ?_, ?_, ?_, ?_⟩
    · intro p hp; rw [hM3, st_ne _ _ _ (by decide), b2 5 (by decide), (a3 p hp).1]; rfl
    · intro p hp; rw [hM3, st_ne _ _ _ (by decide), b2 6 (by decide), (a3 p hp).2]; rfl
    · intro p a hp ha; rw [hM3, st_ne _ _ _ (by decide), (b3 _ (by omega)).1]; rfl
    · intro p a hp ha; rw [hM3, st_ne _ _ _ (by decide), (b3 _ (by omega)).2]; rfl
    · rw [hM3, st_at, upd_at]; rfl
  have key : ∃ M', lpN g (bd_X3_read_64 g 1) ((0 : Int32), M3) = some M' ∧ (eqx [4, 5, 6, 7, 8] M M' ∧ MEi M' o 216) := by
    refine lp_inv (fun i w => w.1 = nI i ∧ eqx [4, 5, 6, 7, 8] M w.2 ∧ MEi w.2 o i) _ 216 ?_ ?_ (by omega) ⟨rfl, e3, m3⟩
    · rintro i ⟨v, N⟩ hi ⟨q1, q2, q3⟩
      dsimp only at q1 q2 q3
      subst q1
      have hoi := ho i hi
      simp only [bd_X3_read_64, u2]
      rw [if_neg (show ¬ (216 : Int32) ≤ nI i from nI_ge (b := 216) hi (by decide)), if_pos (inb_nI hi (by decide)), ix_nI (by omega), q2 (1 + 1) (by decide), h0 i hi]
      by_cases c : o i = 0
      · rw [if_pos ((oI_m1 (by omega)).mpr c)]
        refine ⟨_, rfl, inc i, q2, ?_⟩
        obtain ⟨q4, q5, q6, q7, q8⟩ := q3
        refine ⟨?_, ?_, ?_, ?_, ?_⟩
        · intro p hp; dsimp only; rw [q4 p hp]; unfold ceN; rw [fb_ct_succ, c]; rfl
        · intro p hp; dsimp only; rw [q5 p hp]; unfold grN; rw [fb_ct_succ, c]; simp
        · intro p a hp ha; dsimp only; rw [q6 p a hp ha]; conv => rhs; unfold loN
          rw [if_neg (by omega)]
        · intro p a hp ha; dsimp only; rw [q7 p a hp ha]; conv => rhs; unfold hiN
          rw [if_neg (by omega)]
        · dsimp only; rw [q8]; unfold alN; rw [fb_ct_succ, c]; rfl
      · obtain ⟨p, hp⟩ : ∃ p, o i = p + 1 := ⟨o i - 1, by omega⟩
        rw [if_neg (fun q => c ((oI_m1 (by omega)).mp q)), if_pos (inb_nI hi (by decide)), hp, oI_s]
        obtain ⟨N1, z1, z2, z3⟩ := c_measure hg hi (show p < 8 by omega) hp q3
        rw [z1]
        exact ⟨_, rfl, inc i, eqx_tr q2 z2, z3⟩
    · rintro ⟨v, N⟩ ⟨q1, q2, q3⟩
      dsimp only at q1 q2 q3
      subst q1
      refine ⟨N, ?_, q2, q3⟩
      simp only [bd_X3_read_64, u2]
      rw [if_pos (by decide)]
  obtain ⟨M', z1, z2⟩ := key
  rw [z1]
  exact ⟨M', rfl, z2⟩
