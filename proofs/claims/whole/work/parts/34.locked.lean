/-! ===== locked pieces ===== -/
theorem dif_sub (a b : Nat) : sub (dif a b) a := fun i q => by rw [dif_bit, Bool.and_eq_true] at q; exact q.1
theorem dif_pow_bit (a k i : Nat) : (dif a (2 ^ k)).testBit i = (a.testBit i && decide (i ≠ k)) := by
  rw [dif_bit, Nat.testBit_two_pow]
  congr 1
  by_cases e : k = i
  · subst e; simp
  · simp [e, Ne.symm e]
theorem dif_xor {a k : Nat} (h : a.testBit k = true) : a ^^^ 2 ^ k = dif a (2 ^ k) := by
  apply Nat.eq_of_testBit_eq
  intro i
  rw [dif_pow_bit, Nat.testBit_xor, Nat.testBit_two_pow]
  by_cases e : k = i
  · subst e; simp [h]
  · simp [e, Ne.symm e]
theorem fr_anti {A : AB} {p a b d : Nat} (h : sub a b) (q : fr A p b d = true) : fr A p a d = true := by
  unfold fr at *
  cases e : (A.B p d &&& a == 0)
  · have := nz_mono h e
    rw [this] at q; cases q
  · rfl
theorem cf_anti {A : AB} {p a b : Nat} (h : sub a b) (q : cf A p b = true) : cf A p a = true := by
  obtain ⟨d, h1, h2⟩ := (cf_iff A p b).mp q
  exact (cf_iff A p a).mpr ⟨d, h1, fr_anti h h2⟩
def lkd (A : AB) (L : Nat) : Prop := ∀ k, k < A.n → L.testBit k = true → cf A k L = false
def psR (A : AB) (T : Nat) : Nat → Nat
  | 0 => T
  | k + 1 => if (psR A T k).testBit k && cf A k (psR A T k) then dif (psR A T k) (2 ^ k) else psR A T k
theorem psR_sub (A : AB) (T : Nat) : ∀ k, sub (psR A T k) T
  | 0 => sub_rf T
  | k + 1 => by
    show sub (if _ then _ else _) T
    split
    · exact sub_tr (dif_sub _ _) (psR_sub A T k)
    · exact psR_sub A T k
theorem psR_sub2 (A : AB) (T j : Nat) : ∀ k, sub (psR A T (j + k)) (psR A T j)
  | 0 => sub_rf _
  | k + 1 => by
    show sub (if _ then _ else _) _
    split
    · exact sub_tr (dif_sub _ _) (psR_sub2 A T j k)
    · exact psR_sub2 A T j k
theorem lkd_dif {A : AB} {L T k : Nat} (hL : lkd A L) (hk : k < A.n) (h : sub L T) (hc : cf A k T = true) : sub L (dif T (2 ^ k)) := by
  intro i hi
  rw [dif_pow_bit, h i hi]
  by_cases e : i = k
  · subst e
    have := hL i hk hi
    rw [cf_anti h hc] at this
    cases this
  · simp [e]
theorem psR_in {A : AB} {L T : Nat} (hL : lkd A L) (h : sub L T) : ∀ k, k ≤ A.n → sub L (psR A T k)
  | 0, _ => h
  | k + 1, hk => by
    show sub L (if _ then _ else _)
    split
    · rename_i q
      rw [Bool.and_eq_true] at q
      exact lkd_dif hL (by omega) (psR_in hL h k (by omega)) q.2
    · exact psR_in hL h k (by omega)
theorem psR_fix {A : AB} {T : Nat} (h : psR A T A.n = T) : lkd A T := by
  intro k hk hT
  have h1 : psR A T k = T := sub_eq (psR_sub A T k) (by
    have := psR_sub2 A T k (A.n - k)
    rw [show k + (A.n - k) = A.n by omega, h] at this
    exact this)
  have h2 : sub T (psR A T (k + 1)) := by
    have := psR_sub2 A T (k + 1) (A.n - (k + 1))
    rw [show k + 1 + (A.n - (k + 1)) = A.n by omega, h] at this
    exact this
  have h3 := h2 k hT
  cases hc : cf A k T
  · rfl
  · have e : psR A T (k + 1) = dif T (2 ^ k) := by
      show (if (psR A T k).testBit k && cf A k (psR A T k) then _ else _) = _
      rw [h1, hT, hc]; rfl
    rw [e, dif_pow_bit] at h3
    simp at h3
def rdR (A : AB) (T : Nat) : Nat → Nat
  | 0 => T
  | m + 1 => psR A (rdR A T m) A.n
theorem rdR_sub (A : AB) (T : Nat) : ∀ m, sub (rdR A T m) T
  | 0 => sub_rf T
  | m + 1 => sub_tr (psR_sub A _ _) (rdR_sub A T m)
theorem rdR_in {A : AB} {L T : Nat} (hL : lkd A L) (h : sub L T) : ∀ m, sub L (rdR A T m)
  | 0 => h
  | m + 1 => psR_in hL (rdR_in hL h m) A.n (Nat.le_refl _)
theorem rdR_fix {A : AB} {T : Nat} (h : T < 2 ^ A.n) : ∀ m, psR A (rdR A T m) A.n = rdR A T m ∨ pop A.n (rdR A T m) + m ≤ A.n
  | 0 => Or.inr (by have := pop_le A.n T; show pop A.n T + 0 ≤ A.n; omega)
  | m + 1 => by
    rcases rdR_fix h m with q | q
    · left
      show psR A (psR A (rdR A T m) A.n) A.n = psR A (rdR A T m) A.n
      rw [q, q]
    · by_cases e : psR A (rdR A T m) A.n = rdR A T m
      · left
        show psR A (psR A (rdR A T m) A.n) A.n = psR A (rdR A T m) A.n
        rw [e, e]
      · right
        have := pop_strict (psR_sub A (rdR A T m) A.n) (sub_lt (rdR_sub A T m) h) e
        show pop A.n (psR A (rdR A T m) A.n) + (m + 1) ≤ A.n
        omega
theorem pop_zero {n a : Nat} (ha : a < 2 ^ n) (h : pop n a = 0) : a = 0 := by
  apply Nat.eq_of_testBit_eq
  intro i
  rw [Nat.zero_testBit]
  cases q : a.testBit i
  · rfl
  · have := (fb_ct_zero.mp h) i (bit_lt ha q)
    rw [q] at this; cases this
def lk (A : AB) (s : Nat) : Nat := rdR A s A.n
theorem lk_lkd {A : AB} {s : Nat} (hs : s < 2 ^ A.n) : lkd A (lk A s) := by
  rcases rdR_fix hs A.n with q | q
  · exact psR_fix q
  · have : lk A s = 0 := pop_zero (sub_lt (rdR_sub A s A.n) hs) (by show pop A.n (rdR A s A.n) = 0; omega)
    intro k _ hk
    rw [this, Nat.zero_testBit] at hk
    cases hk
theorem lk_sub (A : AB) (s : Nat) : sub (lk A s) s := rdR_sub A s A.n
theorem lk_lt {A : AB} {s : Nat} (hs : s < 2 ^ A.n) : lk A s < 2 ^ A.n := sub_lt (lk_sub A s) hs
theorem lk_one {A : AB} {s R : Nat} (hs : s < 2 ^ A.n) (h1 : lkd A R) (h2 : sub R s) (h3 : ∀ L, lkd A L → sub L s → sub L R) : R = lk A s :=
  sub_eq (rdR_in h1 h2 A.n) (h3 _ (lk_lkd hs) (lk_sub A s))
theorem c_locked {M : Mem} {k : Nat} {A : AB} (h : RC M k A) (hA : okA A) {s g : Nat} (hg : 5000 < g) (hs : s < 2 ^ A.n) : fn_X5_lockedOf g k (nI s) M = some (nI (lk A s)) := by
  have hn := hA.1
  unfold fn_X5_lockedOf
  refine lp_forb (fun i => (nI (rdR A s i), nI i)) A.n (nI (lk A s)) rfl (by omega) ?_ ?_ rfl
  · intro i hi
    simp only [bd_X5_lockedOf_4, u2]
    rw [h.1, if_neg (nI_ge hi (by omega))]
    refine lp_forb (fun p => (nI (psR A (rdR A s i) p), nI p)) A.n (nI (rdR A s (i + 1))) rfl (by omega) ?_ ?_ (by simp [u1, inc])
    · intro p hp
      have hT := lt256 (sub_lt (sub_tr (psR_sub A _ p) (rdR_sub A s i)) hs) hn
      simp only [bd_X5_lockedOf_15, u2, psR]
      generalize psR A (rdR A s i) p = T at hT ⊢
      rw [h.1, if_neg (nI_ge hp (by omega)), has7 (by omega) (by omega), c_firstWay h hA hg (by omega)]
      cases h1 : T.testBit p
      · simp [inc]
      · cases h2 : cf A p T
        · have := (fwI_cf A p T).mpr h2
          simp [inc, this]
        · have : ¬ fwI A p T = -9 := fun q => by rw [(fwI_cf A p T).mp q] at h2; cases h2
          simp [inc, this, bv]
          rw [N_sl (by omega), N_xor, dif_xor h1]
    · simp only [bd_X5_lockedOf_15, u2]
      rw [h.1, if_pos (Int32.le_refl _)]
      rfl
  · simp only [bd_X5_lockedOf_4, u2]
    rw [h.1, if_pos (Int32.le_refl _)]
    rfl
theorem N_dif' (a b : Nat) : nI a &&& ~~~(nI b) = nI (dif a b) := by
  rw [← N_dif, Int32.xor_neg_one]
theorem and_m1 (x : Int32) : x &&& (-1) = x := by
  apply b_ext
  intro i hi
  rw [b_and, b_m1 i hi, Bool.and_true]
theorem m_locked {M : Mem} {A : AB} (h : LC M A) (hA : okA A) {s g : Nat} (hg : 5000 < g) (hs : s < 2 ^ A.n) : fn_X8_lockedOf g (nI s) M = some (nI (lk A s)) := by
  have hn := hA.1
  have h0 : M 62 (ix (0 : Int32)) = nI A.n := h.1
  unfold fn_X8_lockedOf
  -- the inner loop
  have inner : ∀ T, T < 2 ^ A.n → ∃ r : Int32 × Int32, lpN g (bd_X8_lockedOf_13 g M) (nI T, (0 : Int32), (0 : Int32)) = some r ∧ ((r = (nI T, 0) ∧ lkd A T) ∨ ∃ j, j < A.n ∧ T.testBit j = true ∧ cf A j T = true ∧ r = (nI (dif T (2 ^ j)), 1)) := by
    intro T hT
    have hT8 := lt256 hT hn
    refine lp_meas (fun w : Int32 × Int32 × Int32 => (∃ p, p ≤ A.n ∧ w = (nI T, 0, nI p) ∧ ∀ i, i < p → T.testBit i = true → cf A i T = false) ∨ ∃ j, j < A.n ∧ T.testBit j = true ∧ cf A j T = true ∧ w = (nI (dif T (2 ^ j)), 1, nI (j + 1))) _ (fun w => 10 - w.2.2.toNatClampNeg) ?_ g _ (by show 10 - _ < g; omega) (Or.inl ⟨0, by omega, rfl, fun i hi => by omega⟩)
    rintro w (⟨p, hp, rfl, hI⟩ | ⟨j, hj, h1, h2, rfl⟩)
    · by_cases e : p = A.n
      · subst e
        right
        refine ⟨(nI T, 0), ?_, Or.inl ⟨rfl, hI⟩⟩
        simp only [bd_X8_lockedOf_13, u3]
        rw [h0, if_pos (Int32.le_refl _)]
      · left
        have hp' : p < A.n := by omega
        have hmu : ∀ z : Int32 × Int32, 10 - (nI (p + 1)).toNatClampNeg < 10 - (nI p).toNatClampNeg := by
          intro _
          rw [nI_clamp (by omega), nI_clamp (by omega)]; omega
        have hb : bd_X8_lockedOf_13 g M (nI T, 0, nI p) = if T.testBit p && cf A p T then some (.inl (nI (dif T (2 ^ p)), 1, nI (p + 1))) else some (.inl (nI T, 0, nI (p + 1))) := by
          simp only [bd_X8_lockedOf_13, u3]
          rw [h0, if_neg (nI_ge hp' (by omega)), has8 (by omega) (by omega), m_waysOf h hA hg (by omega)]
          cases h1 : T.testBit p
          · simp [inc, jn_X8_lockedOf_51, jn_X8_lockedOf_52, jn_X8_lockedOf_68, bv, and_m1]
          · cases h2 : cf A p T
            · have := (nI_wm_zero A p T).mpr h2
              simp [inc, this, jn_X8_lockedOf_51, jn_X8_lockedOf_52, jn_X8_lockedOf_68, bv, and_m1]
            · have : ¬ nI (wm A p T) = 0 := fun q => by rw [(nI_wm_zero A p T).mp q] at h2; cases h2
              simp [inc, this, jn_X8_lockedOf_52, jn_X8_lockedOf_68, bv]
              rw [N_sl (by omega), N_dif']
        cases h1 : T.testBit p && cf A p T
        · rw [h1] at hb
          refine ⟨_, hb, Or.inl ⟨p + 1, by omega, rfl, fun i hi hti => ?_⟩, hmu (0, 0)⟩
          by_cases e2 : i = p
          · subst e2; rw [hti] at h1; simpa using h1
          · exact hI i (by omega) hti
        · rw [h1] at hb
          rw [Bool.and_eq_true] at h1
          exact ⟨_, hb, Or.inr ⟨p, hp', h1.1, h1.2, rfl⟩, hmu (0, 0)⟩
    · right
      refine ⟨(nI (dif T (2 ^ j)), 1), ?_, Or.inr ⟨j, hj, h1, h2, rfl⟩⟩
      simp only [bd_X8_lockedOf_13, u3]
      rw [h0]
      by_cases e : nI A.n ≤ nI (j + 1)
      · rw [if_pos e]
      · rw [if_neg e, if_neg (by decide)]
  have key : ∃ r, lpN g (bd_X8_lockedOf_4 g M) (nI s, (1 : Int32)) = some r ∧ r = nI (lk A s) := by
   refine lp_meas (b := bd_X8_lockedOf_4 g M) (fun w : Int32 × Int32 => ∃ T, T < 2 ^ A.n ∧ sub T s ∧ (∀ L, lkd A L → sub L s → sub L T) ∧ w.1 = nI T ∧ (w.2 = 1 ∨ (w.2 = 0 ∧ lkd A T))) (fun r => r = nI (lk A s)) (fun w => 2 * pop A.n w.1.toNatClampNeg + w.2.toNatClampNeg) ?_ g (nI s, (1 : Int32)) ?_ ⟨s, hs, sub_rf s, fun L _ q => q, rfl, Or.inl rfl⟩
   · rintro ⟨l, mo⟩ ⟨T, hT, hsub, hall, hl, hm⟩
     have hl : l = nI T := hl
     have hT8 := lt256 hT hn
     rcases hm with hm | ⟨hm, hlk⟩
     · left
       have hm : mo = 1 := hm
       subst hl; subst hm
       obtain ⟨r, hr, hq⟩ := inner T hT
       have hb : bd_X8_lockedOf_4 g M (nI T, 1) = some (.inl r) := by
         simp only [bd_X8_lockedOf_4, u2]
         rw [if_neg (by decide), hr]
         rfl
       refine ⟨r, hb, ?_⟩
       rcases hq with ⟨rfl, hlk⟩ | ⟨j, hj, h1, h2, rfl⟩
       · refine ⟨⟨T, hT, hsub, hall, rfl, Or.inr ⟨rfl, hlk⟩⟩, ?_⟩
         show 2 * pop A.n (nI T).toNatClampNeg + (0 : Int32).toNatClampNeg < 2 * pop A.n (nI T).toNatClampNeg + (1 : Int32).toNatClampNeg
         have e0 : (0 : Int32).toNatClampNeg = 0 := by decide
         have e1 : (1 : Int32).toNatClampNeg = 1 := by decide
         omega
       · have hd := sub_lt (dif_sub T (2 ^ j)) hT
         have hd8 := lt256 hd hn
         refine ⟨⟨dif T (2 ^ j), hd, sub_tr (dif_sub _ _) hsub, fun L q1 q2 => lkd_dif q1 hj (hall L q1 q2) h2, rfl, Or.inl rfl⟩, ?_⟩
         show 2 * pop A.n (nI (dif T (2 ^ j))).toNatClampNeg + (1 : Int32).toNatClampNeg < 2 * pop A.n (nI T).toNatClampNeg + (1 : Int32).toNatClampNeg
         rw [nI_clamp (by omega), nI_clamp (by omega)]
         have := pop_strict (dif_sub T (2 ^ j)) hT (fun e => by
           have := congrArg (fun z => z.testBit j) e
           rw [dif_pow_bit] at this
           simp [h1] at this)
         omega
     · right
       have hm : mo = 0 := hm
       subst hl; subst hm
       refine ⟨nI T, ?_, ?_⟩
       · simp only [bd_X8_lockedOf_4, u2]
         rw [if_pos trivial]
       · rw [lk_one hs hlk hsub hall]
   · show 2 * pop A.n (nI s).toNatClampNeg + (1 : Int32).toNatClampNeg < g
     have := pop_le A.n (nI s).toNatClampNeg
     have e1 : (1 : Int32).toNatClampNeg = 1 := by decide
     omega
  obtain ⟨r, hr, hq⟩ := key
  rw [hr, hq]
  rfl
