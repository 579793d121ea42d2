/-! ===== putAll ===== -/
def npf (A : AB) (b p : Nat) : Bool := !b.testBit p && cf A p b
def np (A : AB) (b : Nat) : Nat := fa_first (npf A b) A.n
def bq (A : AB) (b : Nat) : Nat → Nat
  | 0 => b
  | k + 1 => bq A b k ^^^ 2 ^ np A (bq A b k)
def KK (A : AB) (b : Nat) : Nat := fa_first (fun k => !decide (np A (bq A b k) < A.n)) 8
theorem np_yes {A : AB} {b : Nat} (h : np A b < A.n) : b.testBit (np A b) = false ∧ cf A (np A b) b = true := by
  have := fa_first_yes _ _ h
  unfold npf at this
  rw [Bool.and_eq_true, Bool.not_eq_true'] at this
  exact this
theorem pop_flip {b p : Nat} (hp : p < 8) (h : b.testBit p = false) : pop 8 (b ^^^ 2 ^ p) = pop 8 b + 1 := by
  unfold pop
  have e := fb_ct_upd (fun i => b.testBit i) true (i := p) (n := 8) hp
  have e2 : fb_ct (fun i => (b ^^^ 2 ^ p).testBit i) 8 = fb_ct (fun k => if k = p then true else b.testBit k) 8 := by
    apply fb_ct_cong
    intro k _
    rw [fb_bit_flip]
    by_cases q : k = p
    · subst q; rw [h]; simp
    · simp [q]
  rw [e2]
  rw [h] at e
  simp only [Bool.false_eq_true, if_false, if_true, Nat.add_zero] at e
  exact e
theorem bq_ok {A : AB} {b : Nat} (hn : A.n ≤ 8) (hb : b < 2 ^ A.n) : ∀ k, k ≤ KK A b → bq A b k < 2 ^ A.n ∧ k ≤ pop 8 (bq A b k)
  | 0, _ => ⟨hb, Nat.zero_le _⟩
  | k + 1, hk => by
    obtain ⟨h1, h2⟩ := bq_ok hn hb k (by omega)
    have h3 := fa_first_no _ _ k (show k < fa_first (fun k => !decide (np A (bq A b k) < A.n)) 8 from hk)
    have h3 : np A (bq A b k) < A.n := by simpa using h3
    refine ⟨xor_lt' h1 h3, ?_⟩
    show k + 1 ≤ pop 8 (bq A b k ^^^ 2 ^ np A (bq A b k))
    rw [pop_flip (by omega) (np_yes h3).1]
    omega
theorem KK_le (A : AB) (b : Nat) : KK A b ≤ 8 := fa_first_le _ _
theorem KK_go {A : AB} {b k : Nat} (h : k < KK A b) : np A (bq A b k) < A.n := by
  have h3 := fa_first_no _ _ k (show k < fa_first (fun k => !decide (np A (bq A b k) < A.n)) 8 from h)
  simpa using h3
theorem KK_end {A : AB} {b : Nat} (hn : A.n ≤ 8) (hb : b < 2 ^ A.n) : ¬ np A (bq A b (KK A b)) < A.n := by
  by_cases c : KK A b < 8
  · have this : (!decide (np A (bq A b (KK A b)) < A.n)) = true := fa_first_yes (fun k => !decide (np A (bq A b k) < A.n)) 8 c
    simpa using this
  · intro q
    obtain ⟨h1, h2⟩ := bq_ok hn hb (KK A b) (Nat.le_refl _)
    obtain ⟨h3, _⟩ := np_yes q
    have h4 : fb_ct (fun i => (bq A b (KK A b)).testBit i) 8 = 8 := by
      have := pop_le 8 (bq A b (KK A b))
      unfold pop at this h2
      omega
    have := fb_ct_all.mp h4 (np A (bq A b (KK A b))) (by omega)
    rw [h3] at this
    cases this
def aPal (S : ST) : Int32 := nI (KK S.F.A S.F.b)
def nPal (S : ST) : ST := rcd S (bF S.F (bq S.F.A S.F.b (KK S.F.A S.F.b)) (S.F.s + nI (KK S.F.A S.F.b)))
theorem c_next2 {M : Mem} {A : AB} {b g : Nat} (hg : 5000 < g) (h : RC M 9 A) (hA : okA A) (hn : M 1 2 = nI A.n) (hb : M 1 3 = nI b) (hb8 : b < 256) : (lpN g (bd_X7_nextToPut_7 g M) (0 : Int32)).bind (el (fun (_ : Unit) => some ((-9 : Int32), M)) (fun rr => some rr)) = some (if np A b < A.n then nI (np A b) else -9, M) := by
  have h8 := hA.1
  have hle : np A b ≤ A.n := fa_first_le _ _
  have bd : ∀ p, p < A.n → bd_X7_nextToPut_7 g M (nI p) = if npf A b p then some (.inr (.inr (nI p, M))) else some (.inl (nI (p + 1))) := by
    intro p hp
    simp only [bd_X7_nextToPut_7, u1]
    rw [hn, hb, if_neg (nI_ge hp (by omega)), has7 (by omega) (by omega), c_firstWay h hA hg (by omega)]
    unfold npf
    cases b.testBit p
    · simp only [Bool.false_eq_true, if_false, if_true, Option.bind_some, Bool.not_false, Bool.true_and]
      cases q : cf A p b
      · rw [if_pos ((fwI_cf A p b).mpr q), inc]; rfl
      · rw [if_neg (fun z => by rw [(fwI_cf A p b).mp z] at q; cases q)]; rfl
    · simp only [if_true, Bool.not_true, Bool.false_and, Bool.false_eq_true, if_false]
      rw [if_neg (by decide), inc]
  have hst : ∀ p, p < np A b → bd_X7_nextToPut_7 g M (nI p) = some (.inl (nI (p + 1))) := by
    intro p hp
    rw [bd p (by omega), fa_first_no _ _ _ hp]; rfl
  by_cases c : np A b < A.n
  · rw [if_pos c]
    refine lp_forb (fun p => nI p) (np A b) (.inr (nI (np A b), M)) rfl (by omega) hst ?_ rfl
    rw [bd _ c, show npf A b (np A b) = true from fa_first_yes _ _ c]; rfl
  · rw [if_neg c]
    refine lp_forb (fun p => nI p) A.n (.inl ()) rfl (by omega) (fun p hp => hst p (by omega)) ?_ rfl
    simp only [bd_X7_nextToPut_7, u1]
    rw [hn, if_pos (Int32.le_refl _)]
theorem tc_pal {g : Nat} (hg : 5000 < g) : TC (fn_X7_putAll g) aPal nPal := by
  intro M S h
  unfold fn_X7_putAll aPal nPal
  obtain ⟨M1, a1, a2, a3⟩ := c_record h.1.2.1 h.2.2.1 h.2.1
  rw [a1]
  simp only [Option.bind_some]
  have h8 : S.F.A.n ≤ 8 := h.1.1.1
  have hb0 : S.F.b < 2 ^ S.F.A.n := h.1.1.2.1
  have kle := KK_le S.F.A S.F.b
  have kok := fun k => bq_ok h8 hb0 k
  have kgo := fun k (hk : k < KK S.F.A S.F.b) => KK_go hk
  have kend := KK_end h8 hb0
  generalize KK S.F.A S.F.b = K at kle kok kgo kend ⊢
  have key : ∃ o : Int32 × Mem, lpN g (bd_X7_putAll_15 g) ((0 : Int32), (0 : Int32), M1) = some o ∧ (o.1 = nI K ∧ JC o.2 (rcd S (bF S.F (bq S.F.A S.F.b K) (S.F.s + nI K))) ∧ hiE M1 o.2) := by
    refine lp_inv (fun k w => w.1 = nI k ∧ w.2.1 = nI k ∧ JC w.2.2 (rcd S (bF S.F (bq S.F.A S.F.b k) (S.F.s + nI k))) ∧ hiE M1 w.2.2) _ K ?_ ?_ (by omega) ⟨rfl, rfl, ?_, hiE_rf _⟩
    · rintro k ⟨v, w, N⟩ hk ⟨q1, q2, q3, q4⟩
      dsimp only at q1 q2 q3 q4
      subst q1; subst q2
      obtain ⟨b1, b2⟩ := kok k (by omega)
      have hgo := kgo k hk
      have hgo' : np S.F.A (bq S.F.A S.F.b k) < S.F.n := hgo
      simp only [bd_X7_putAll_15, u3]
      rw [if_neg (show ¬ (8 : Int32) ≤ nI k from nI_ge (b := 8) (by omega) (by decide))]
      unfold fn_X7_nextToPut
      obtain ⟨N1, c1, c2, c3, c4⟩ := c_kR hg q3
      rw [c1]
      simp only [Option.bind_some]
      rw [c_next2 (A := S.F.A) (b := bq S.F.A S.F.b k) hg c3.1 (okA_F h.1.1) c4.2.1.1 c4.2.1.2.1 (lt256 b1 h8), if_pos hgo]
      simp only [Option.bind_some, u2]
      rw [if_neg (m9_ne _ (by omega))]
      obtain ⟨N2, d1, d2, d3⟩ := c_turn (p := np S.F.A (bq S.F.A S.F.b k)) (by omega) c4.2.1
      rw [d1]
      simp only [Option.bind_some]
      have es : S.F.s + nI k + 1 = S.F.s + nI (k + 1) := by rw [Int32.add_assoc, inc]
      have d3 : fC N2 1 (bF S.F (bq S.F.A S.F.b (k + 1)) (S.F.s + nI (k + 1))) := by rw [← es]; exact d3
      refine ⟨_, rfl, inc k, inc k, ?_, hiE_tr q4 (hiE_tr (hiE_of c2 (by decide)) (hiE_of d2 (by decide)))⟩
      obtain ⟨j1, j2, j3, j4, j5, j6, j7⟩ := c4
      obtain ⟨b3, b4⟩ := kok (k + 1) (by omega)
      refine ⟨okS_rcd h.1 (okF_b' h.1.1 b3 _), d3, ring_eq j3 (fun a x y => d2 a (by simp; omega)), ?_, ?_, ?_, ?_⟩
      · dsimp only
        rw [d2 47 (by decide), d2 48 (by decide)]; exact j4
      · dsimp only
        rw [d2 0 (by decide)]
        rcases j5 with q | q
        · exact Or.inl q
        · exact Or.inr (MEi_eq q (fun a x y => d2 a (by simp; omega)))
      · dsimp only
        rw [d2 0 (by decide)]
        rcases j6 with q | q
        · exact Or.inl q
        · exact Or.inr (cR_eq (F := S.F) q (fun a x y => d2 a (by simp; omega)))
      · dsimp only
        rw [d2 0 (by decide)]
        rcases j7 with q | q
        · exact Or.inl q
        · exact Or.inr ⟨cR_eq (F := S.F) q.1 (fun a x y => d2 a (by simp; omega)), PLok_eq q.2 (fun a x y => d2 a (by simp; omega))⟩
    · rintro ⟨v, w, N⟩ ⟨q1, q2, q3, q4⟩
      dsimp only at q1 q2 q3 q4
      subst q1; subst q2
      obtain ⟨b1, b2⟩ := kok K (Nat.le_refl K)
      simp only [bd_X7_putAll_15, u3]
      by_cases c : (8 : Int32) ≤ nI K
      · rw [if_pos c]
        exact ⟨_, rfl, rfl, q3, q4⟩
      · rw [if_neg c]
        unfold fn_X7_nextToPut
        obtain ⟨N1, c1, c2, c3, c4⟩ := c_kR hg q3
        rw [c1]
        simp only [Option.bind_some]
        rw [c_next2 (A := S.F.A) (b := bq S.F.A S.F.b K) hg c3.1 (okA_F h.1.1) c4.2.1.1 c4.2.1.2.1 (lt256 b1 h8), if_neg kend]
        simp only [Option.bind_some, u2]
        rw [if_pos trivial]
        exact ⟨_, rfl, rfl, c4, hiE_tr q4 (hiE_of c2 (by decide))⟩
    · refine JC_bld h a2 a3 (eqx_rf _ _) hb0 ?_
      have f1 : fC M1 1 S.F := fC_eq h.2.1 (a2 _ (by decide)) (a2 _ (by decide)) (a2 _ (by decide))
      have : S.F.s + nI 0 = S.F.s := Int32.add_zero _
      dsimp only
      rw [this]
      exact f1
  obtain ⟨o, k1, k2, k3, k4⟩ := key
  rw [k1]
  refine ⟨o.2, ?_, k3, hiE_tr (hiE_of a2 LR_lo) k4⟩
  simp only [Option.bind_some, u2]
  rw [k2]
theorem m_next {M : Mem} {A : AB} {b g : Nat} (hg : 5000 < g) (h : LC M A) (hA : okA A) (hb : M 62 1 = nI b) (hb8 : b < 256) : lpN g (bd_X8_putAll_16 g) ((0 : Int32), (0 : Int32), M) = some (if np A b < A.n then ((1 : Int32), st M 62 1 (nI (b ^^^ 2 ^ np A b))) else ((0 : Int32), M)) := by
  have h8 := hA.1
  have hle : np A b ≤ A.n := fa_first_le _ _
  have hn : M 62 (ix 0) = nI A.n := h.1
  have hb1 : M 62 (ix 1) = nI b := hb
  have e1 : ix (1 : Int32) = 1 := rfl
  have i1 : inb (1 : Int32) 2270 := inb_nI (a := 1) (by decide) (by decide)
  have go : ∀ p, p < np A b → bd_X8_putAll_16 g ((0 : Int32), nI p, M) = some (.inl ((0 : Int32), nI (p + 1), M)) := by
    intro p hp
    have hno := fa_first_no _ _ _ hp
    unfold npf at hno
    simp only [bd_X8_putAll_16, u3]
    rw [hn, hb1, if_neg (nI_ge (show p < A.n by omega) (by omega)), if_pos trivial, has8 (by omega) (by omega), m_waysOf h hA hg (by omega)]
    have fin : jn_X8_putAll_61 (nI p) M = some (.inl ((0 : Int32), nI (p + 1), M)) := by
      unfold jn_X8_putAll_61 jn_X8_putAll_62
      rw [if_pos rfl]
      unfold jn_X8_putAll_81
      rw [if_pos i1, hb1, e1, inc]
      simp only [bv]
      rw [st_same (by rw [hb]; simp)]
    cases q : b.testBit p
    · rw [q] at hno
      simp only [Bool.false_eq_true, if_false, if_true, Option.bind_some]
      rw [if_pos ((nI_wm_zero A p b).mpr (by simpa using hno))]
      exact fin
    · simp only [if_true]
      rw [if_neg (by decide)]
      exact fin
  by_cases c : np A b < A.n
  · rw [if_pos c]
    obtain ⟨y1, y2⟩ := np_yes c
    have hb' : st M 62 1 (nI (b ^^^ 2 ^ np A b)) 62 0 = nI A.n := by rw [st_at, upd_ne _ _ (by decide)]; exact h.1
    refine lp_for (fun p => if p ≤ np A b then ((0 : Int32), nI p, M) else ((1 : Int32), nI (np A b + 1), st M 62 1 (nI (b ^^^ 2 ^ np A b)))) (np A b + 1) ?_ ?_ (by omega) (by rw [if_pos (Nat.zero_le _)]; rfl)
    · intro p hp
      rw [if_pos (by omega)]
      by_cases e : p < np A b
      · rw [if_pos (by omega)]; exact go p e
      · have e : p = np A b := by omega
        rw [if_neg (by omega), e]
        simp only [bd_X8_putAll_16, u3]
        rw [hn, hb1, if_neg (nI_ge c (by omega)), if_pos trivial, has8 (by omega) (by omega), m_waysOf h hA hg (by omega), y1]
        simp only [Bool.false_eq_true, if_false, if_true, Option.bind_some]
        rw [if_neg (fun q => by rw [(nI_wm_zero A _ b).mp q] at y2; cases y2)]
        unfold jn_X8_putAll_62
        rw [if_neg (by decide)]
        unfold jn_X8_putAll_81
        rw [if_pos i1, hb1, e1, inc, N_sl (by omega), N_or, or_xor y1]
        rfl
    · rw [if_neg (by omega)]
      simp only [bd_X8_putAll_16, u3]
      rw [show st M 62 1 (nI (b ^^^ 2 ^ np A b)) 62 (ix 0) = nI A.n from hb']
      by_cases e : nI A.n ≤ nI (np A b + 1)
      · rw [if_pos e]
      · rw [if_neg e, if_neg (by decide)]
  · rw [if_neg c]
    refine lp_for (fun p => ((0 : Int32), nI p, M)) A.n (fun p hp => go p (by omega)) ?_ (by omega) rfl
    simp only [bd_X8_putAll_16, u3]
    rw [hn, if_pos (Int32.le_refl _)]
theorem tm_pal {g : Nat} (hg : 5000 < g) : TM (fn_X8_putAll g) aPal nPal := by
  intro M S ok h
  unfold fn_X8_putAll aPal nPal
  obtain ⟨M1, a1, a2, a3, a4, a5, a6⟩ := m_records hg ok.2.1 h.2.1 h.1
  rw [a1]
  simp only [Option.bind_some]
  have h8 : S.F.A.n ≤ 8 := ok.1.1
  have hb0 : S.F.b < 2 ^ S.F.A.n := ok.1.2.1
  have hK := KK_le S.F.A S.F.b
  have kok := fun k => bq_ok h8 hb0 k
  have kgo := fun k (hk : k < KK S.F.A S.F.b) => KK_go hk
  have kend := KK_end h8 hb0
  generalize KK S.F.A S.F.b = K at hK kok kgo kend ⊢
  have l1 : LC M1 S.F.A := LC_bld h.2.2.2 ((fM_n a4).trans (fM_n h.1).symm) (a2 _ (by decide)) (a2 _ (by decide)) (a2 _ (by decide))
  have key : ∃ o : Int32 × Mem, lpN g (bd_X8_putAll_8 g) ((0 : Int32), (1 : Int32), M1) = some o ∧ (o.1 = nI (K) ∧ o.2 = st M1 62 1 (nI (bq S.F.A S.F.b (K)))) := by
    refine lp_inv (fun k w => if k ≤ K then w = (nI k, (1 : Int32), st M1 62 1 (nI (bq S.F.A S.F.b k))) else w = (nI (K), (0 : Int32), st M1 62 1 (nI (bq S.F.A S.F.b (K))))) _ (K + 1) ?_ ?_ (by omega) ?_
    · intro k w hk hI
      rw [if_pos (by omega)] at hI
      subst hI
      obtain ⟨b1, b2⟩ := kok k (by omega)
      obtain ⟨N, hN⟩ : ∃ z, z = st M1 62 1 (nI (bq S.F.A S.F.b k)) := ⟨_, rfl⟩
      rw [← hN]
      have lN' : LC N S.F.A := by rw [hN]; exact LC_bld l1 (by rw [st_at, upd_ne _ _ (by decide)]) (st_ne _ _ _ (by decide)) (st_ne _ _ _ (by decide)) (st_ne _ _ _ (by decide))
      simp only [bd_X8_putAll_8, u3]
      rw [if_neg (by decide), m_next (b := bq S.F.A S.F.b k) hg lN' (okA_F ok.1) (by rw [hN, st_at, upd_at]) (lt256 b1 h8)]
      by_cases c : k < K
      · rw [if_pos (kgo k c)]
        simp only [Option.bind_some, u2]
        rw [if_neg (by decide)]
        unfold jn_X8_putAll_99
        simp only [bv]
        refine ⟨_, rfl, ?_⟩
        rw [if_pos (by omega), inc, hN]
        congr 2
        rw [st_eq, st_eq, stf_at, stf_stf, fa_upd_twice, ← st_eq]
        rfl
      · have c : k = K := by omega
        subst c
        rw [if_neg kend]
        simp only [Option.bind_some, u2]
        rw [if_pos trivial]
        unfold jn_X8_putAll_99
        simp only [bv]
        refine ⟨_, rfl, ?_⟩
        rw [if_neg (by omega), hN, show ∀ a : Int32, a + 0 = a from Int32.add_zero]
    · intro w hI
      rw [if_neg (by omega)] at hI
      subst hI
      refine ⟨(nI (K), st M1 62 1 (nI (bq S.F.A S.F.b (K)))), ?_, rfl, rfl⟩
      simp only [bd_X8_putAll_8, u3]
      rw [if_pos trivial]
    · rw [if_pos (Nat.zero_le _), show bq S.F.A S.F.b 0 = S.F.b from rfl, st_same (fM_b a4)]
      rfl
  obtain ⟨⟨o1, o2⟩, k1, k2, k3⟩ := key
  dsimp only at k2 k3
  subst k2; subst k3
  rw [k1]
  simp only [Option.bind_some, u2, bv]
  have e2 : ix (2 : Int32) = 2 := rfl
  rw [e2]
  have es : st M1 62 1 (nI (bq S.F.A S.F.b (K))) 62 2 = S.F.s := by
    rw [st_at, upd_ne _ _ (by decide)]
    exact fM_s a4
  rw [es]
  exact ⟨_, rfl, JM_bld h a2 a3 a4 a5, loE_tr (loE_of a2 (by decide)) (loE_of (eqx_st (eqx_st (eqx_rf [62] M1) (by decide) _ _) (by decide) _ _) (by decide))⟩
/-! pieceAt -/
def aAt (x y z : Int32) (S : ST) : Int32 := if dcl x = 0 then -1 else if dcl y = 0 then -1 else if dcl z = 0 then -1 else if S.F.o (ix x + 6 * ix y + 36 * ix z) = 0 then -9 else oI (S.F.o (ix x + 6 * ix y + 36 * ix z))
theorem in5 (x : Int32) : fn_X8_in x 0 5 = dcl x := m_dcl x
theorem c_pat {M : Mem} {S : ST} (h : JC M S) (x y z : Int32) : fn_X7_pieceAt x y z M = some (aAt x y z S) := by
  unfold fn_X7_pieceAt aAt
  rw [show fn_X7_isCoordinate x = dcl x from rfl, show fn_X7_isCoordinate y = dcl y from rfl, show fn_X7_isCoordinate z = dcl z from rfl]
  by_cases c1 : dcl x = 0
  · rw [if_pos c1, if_pos c1]
  by_cases c2 : dcl y = 0
  · rw [if_neg c1, if_neg c1, if_pos c2, if_pos c2]
  by_cases c3 : dcl z = 0
  · rw [if_neg c1, if_neg c1, if_neg c2, if_neg c2, if_pos c3, if_pos c3]
  rw [if_neg c1, if_neg c1, if_neg c2, if_neg c2, if_neg c3, if_neg c3]
  obtain ⟨a, ha, rfl⟩ := dcl_ex c1
  obtain ⟨b, hb, rfl⟩ := dcl_ex c2
  obtain ⟨c, hc, rfl⟩ := dcl_ex c3
  have e : nI a + 6 * nI b + 36 * nI c = nI (a + 6 * b + 36 * c) := by
    rw [show (6 : Int32) = nI 6 from rfl, show (36 : Int32) = nI 36 from rfl, pk_mul, pk_mul, nI_add, nI_add]
  have ho := okF_o h.1.1 (a + 6 * b + 36 * c) (by omega)
  rw [e, if_pos (inb_nI (show a + 6 * b + 36 * c < 216 by omega) (by decide)), ix_nI (show a < 2 ^ 31 by omega), ix_nI (show b < 2 ^ 31 by omega), ix_nI (show c < 2 ^ 31 by omega), ix_nI (by omega)]
  simp only [bv]
  rw [show M 2 (a + 6 * b + 36 * c) = oI (S.F.o (a + 6 * b + 36 * c)) from h.2.1.2.2.2.2 _ (by omega)]
  by_cases q : S.F.o (a + 6 * b + 36 * c) = 0
  · rw [if_pos q, if_pos ((oI_m1 (by omega)).mpr q)]
  · rw [if_neg q, if_neg (fun w => q ((oI_m1 (by omega)).mp w))]
theorem m_place {a b c : Nat} : fn_X8_place (nI a) (nI b) (nI c) = nI (a + 6 * b + 36 * c) := by
  unfold fn_X8_place
  rw [show (6 : Int32) = nI 6 from rfl, pk_mul, nI_add, pk_mul, nI_add]
  congr 1
  omega
theorem m_pat {M : Mem} {S : ST} (ok : okS S) (h : JM M S) (x y z : Int32) : fn_X8_pieceAt x y z M = some (aAt x y z S) := by
  unfold fn_X8_pieceAt aAt
  rw [in5, in5, in5]
  by_cases c1 : dcl x = 0
  · rw [if_pos c1, if_pos c1]
  by_cases c2 : dcl y = 0
  · rw [if_neg c1, if_neg c1, if_pos c2, if_pos c2]
  by_cases c3 : dcl z = 0
  · rw [if_neg c1, if_neg c1, if_neg c2, if_neg c2, if_pos c3, if_pos c3]
  rw [if_neg c1, if_neg c1, if_neg c2, if_neg c2, if_neg c3, if_neg c3]
  obtain ⟨a, ha, rfl⟩ := dcl_ex c1
  obtain ⟨b, hb, rfl⟩ := dcl_ex c2
  obtain ⟨c, hc, rfl⟩ := dcl_ex c3
  have ho := okF_o ok.1 (a + 6 * b + 36 * c) (by omega)
  rw [m_place, m_at (fM_o h.1) (by omega), ix_nI (show a < 2 ^ 31 by omega), ix_nI (show b < 2 ^ 31 by omega), ix_nI (show c < 2 ^ 31 by omega)]
  simp only [Option.bind_some]
  by_cases q : S.F.o (a + 6 * b + 36 * c) = 0
  · rw [if_pos q, if_neg (fun w => (oI_ge0 (by omega)).mp w q)]
  · rw [if_neg q, if_pos ((oI_ge0 (by omega)).mpr q)]
