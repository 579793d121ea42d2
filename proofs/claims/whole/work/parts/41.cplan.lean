/-! ===== the plan: the class ===== -/
def nxI (A : AB) (s part : Nat) : Int32 := if nx A s part < A.n then nI (nx A s part) else -9
theorem c_next {M : Mem} {A : AB} (h : RC M 9 A) (hA : okA A) {s part g : Nat} (hg : 5000 < g) (hs : s < 2 ^ A.n) (hsub : sub part s) (h20 : ∀ p, p < A.n → s.testBit p = true → part.testBit p = false → M 20 (part ||| 2 ^ p) = if EE A s (part ||| 2 ^ p) then 1 else 0) : fn_X4_nextPlanned g (nI s) (nI part) M = some (nxI A s part) := by
  have hn := hA.1
  have h256 := lt256 hs hn
  have hple := sub_le hsub
  unfold fn_X4_nextPlanned
  have hb : ∀ p, p < A.n → bd_X4_nextPlanned_2 g (nI s) (nI part) M (nI p) = if nfD A s (DD A s) part p then some (.inr (.inr (nI p))) else some (.inl (nI (p + 1))) := by
    intro p hp
    have hor := lt256 (or_lt (s := s) (show part < 2 ^ A.n by omega) hp) hn
    simp only [bd_X4_nextPlanned_2, u1]
    rw [h.1, if_neg (nI_ge hp (by omega)), N_dif, has7 (Nat.lt_trans (lt256 (dif_lt hs) hn) (by decide)) (by omega), N_sl (by omega), N_or, if_pos (inb_nI hor (by omega)), ix_nI (by omega), dif_bit, nf_eq]
    have h43 : ∀ b : Bool, jn_X4_nextPlanned_43 g (if b then 1 else 0) (nI p) (nI part) M = if b && cf A p part then some (.inr (.inr (nI p))) else some (.inl (nI (p + 1))) := by
      intro b
      unfold jn_X4_nextPlanned_43
      rw [c_firstWay h hA hg (by omega)]
      cases b
      · simp [inc]
      · cases c : cf A p part
        · have := (fwI_cf A p part).mpr c
          simp [this, inc]
        · have : ¬ fwI A p part = -9 := fun q => by rw [(fwI_cf A p part).mp q] at c; cases c
          simp [this, inc]
    have h43f := h43 false
    have h43t := h43 true
    simp only [Bool.false_eq_true, if_false, if_true, Bool.false_and, Bool.true_and] at h43f h43t
    cases q1 : s.testBit p
    · simp [jn_X4_nextPlanned_42, h43f]
    · cases q2 : part.testBit p
      · rw [h20 p hp q1 q2]
        cases q3 : EE A s (part ||| 2 ^ p)
        · simp [jn_X4_nextPlanned_42, h43f]
        · simp [h43t]
      · simp [jn_X4_nextPlanned_42, h43f]
  have hle : nx A s part ≤ A.n := fa_first_le _ _
  have hst : ∀ p, p < nx A s part → bd_X4_nextPlanned_2 g (nI s) (nI part) M (nI p) = some (.inl (nI (p + 1))) := by
    intro p hp
    rw [hb p (by omega), fa_first_no _ _ _ hp]; rfl
  unfold nxI
  by_cases hc : nx A s part < A.n
  · refine lp_forb (fun p => nI p) (nx A s part) (.inr (nI (nx A s part))) rfl (by omega) hst (by rw [hb _ hc, show nfD A s (DD A s) part (nx A s part) = true from fa_first_yes _ _ hc]; rfl) ?_
    simp [el, hc]
  · refine lp_forb (fun p => nI p) A.n (.inl ()) rfl (by omega) (fun p hp => hst p (by omega)) ?_ ?_
    · simp only [bd_X4_nextPlanned_2, u1]
      rw [h.1, if_pos (Int32.le_refl _)]
    · simp [el, hc]
theorem nxI_m9 {A : AB} (hA : okA A) (s part : Nat) : nxI A s part = -9 ↔ ¬ nx A s part < A.n := by
  unfold nxI
  have := hA.1
  by_cases hc : nx A s part < A.n
  · rw [if_pos hc]
    have := m9_ne (nx A s part) (by omega)
    simp [hc, this]
  · rw [if_neg hc]; simp [hc]
def LEk (M : Mem) (A : AB) (s k : Nat) : Prop := ∀ q, q ≤ s → s ≤ q + k → sub q s → M 20 q = if EE A s q then 1 else 0
theorem EE_s (A : AB) (s : Nat) : EE A s s = true := by
  unfold EE
  rw [DD_s, decide_eq_true pr_F]; rfl
theorem nI_sub1 (s : Nat) : nI s - 1 = oI s := rfl
theorem c_mark {M : Mem} {A : AB} (h : RC M 9 A) (hA : okA A) (hTab : TAB M A) {s g : Nat} (hg : 5000 < g) (hs : s < 2 ^ A.n) (hT : 0 < (TT A s).1) : ∃ M', fn_X4_markLeading g (nI s) M = some M' ∧ eqx [20] M M' ∧ LEk M' A s s := by
  have hn := hA.1
  have h256 := lt256 hs hn
  unfold fn_X4_markLeading
  rw [if_pos (inb_nI (by omega) (by omega)), ix_nI (by omega)]
  simp only [bv]
  rw [nI_sub1]
  obtain ⟨M1, hM1⟩ : ∃ z, z = st M 20 s 1 := ⟨_, rfl⟩
  rw [← hM1]
  have e1 : eqx [20] M M1 := by rw [hM1]; exact eqx_st (eqx_rf _ M) (by decide) _ _
  have t1 : LEk M1 A s 0 := by
    intro q h1 h2 _
    have : q = s := by omega
    subst this
    rw [hM1, st_at, upd_at, EE_s]; rfl
  have key : ∃ M', lpN g (bd_X4_markLeading_11 g (nI s)) (oI s, M1) = some M' ∧ (eqx [20] M M' ∧ LEk M' A s s) := by
    refine lp_inv (fun k w => w.1 = oI (s - k) ∧ eqx [20] M w.2 ∧ LEk w.2 A s k) _ s ?_ ?_ (by omega) ⟨rfl, e1, t1⟩
    · rintro k ⟨v, N⟩ hk ⟨hv, hE, hL⟩
      obtain ⟨part, hpart⟩ : ∃ part, part = s - (k + 1) := ⟨_, rfl⟩
      have hv2 : v = nI part := by
        have hv : v = oI (s - k) := hv
        rw [hv, show s - k = part + 1 by omega, oI_s]
      subst hv2
      have hE : eqx [20] M N := hE
      have hL : LEk N A s k := hL
      have hR : RC N 9 A := RC_eq h (hE 9 (by decide)) (hE 11 (by decide)) (hE 12 (by decide)) (hE 13 (by decide))
      have hin : inb (nI part) 256 := inb_nI (by omega) (by omega)
      have hvv : nI part + (-1 : Int32) = oI (s - (k + 1)) := by rw [oI_dec, hpart]
      simp only [bd_X4_markLeading_11, u2]
      rw [if_neg (nI_nn (show part < 2 ^ 31 by omega)), N_dif]
      have hd : dif part s < 2 ^ 31 := Nat.lt_trans (lt256 (dif_lt (show part < 2 ^ A.n by omega)) hn) (by decide)
      by_cases cs : sub part s
      · rw [if_pos ((nI_z hd).mpr (dif_zero.mpr cs)), if_pos hin, if_pos (inb_nI (show s < 256 by omega) (by omega)), ix_nI (by omega), ix_nI (by omega)]
        have hN := hTab s hs
        have hNp := hTab part (by omega)
        have hF8 := TT_le hA s
        have hpr := pr_le A part
        rw [hE 16 (by decide), hE 19 (by decide), hN.2.1, hNp.2.2]
        have hLI : LI A s = nI (TT A s).2 := by unfold LI; rw [if_neg (by omega)]
        rw [hLI]
        simp only [nI_ltI (show (TT A s).2 < 2 ^ 31 by omega) (show pr A part < 2 ^ 31 by omega)]
        have hst : ∀ b : Bool, b = EE A s part → ∃ s' : Int32 × Mem, jn_X4_markLeading_59 (if b then 1 else 0) (nI part) (nI part) N = some (.inl s') ∧ s'.1 = oI (s - (k + 1)) ∧ eqx [20] M s'.2 ∧ LEk s'.2 A s (k + 1) := by
          intro b hb
          refine ⟨(oI (s - (k + 1)), st N 20 part (if b then 1 else 0)), ?_, rfl, eqx_st hE (by decide) _ _, ?_⟩
          · unfold jn_X4_markLeading_59
            rw [if_pos hin, if_pos (ite_b b), ix_nI (by omega)]
            simp only [bv]
            rw [hvv]
          · intro q h1 h2 h3
            show st N 20 part _ 20 q = _
            rw [st_at]
            by_cases e : q = part
            · subst e; rw [upd_at, hb]
            · rw [upd_ne _ _ e]; exact hL q h1 (by omega) h3
        have hE1 : EE A s part = (decide (pr A part ≤ (TT A s).2) && decide (nx A s part < A.n)) := by
          unfold EE
          rw [DD_row A (by omega), dif_zero.mpr cs]; simp
        by_cases c1 : (TT A s).2 < pr A part
        · rw [if_pos c1]
          have := hst false (by rw [hE1, decide_eq_false (by omega)]; rfl)
          simpa [jn_X4_markLeading_58] using this
        · rw [if_neg c1, c_next hR hA hg hs cs (fun p hp q1 q2 => hL _ (sub_le (sub_or cs (two_pow_sub q1))) (by have := or_gt q2; omega) (sub_or cs (two_pow_sub q1)))]
          simp only [Option.bind_some]
          by_cases c2 : nx A s part < A.n
          · rw [if_neg (fun q => (nxI_m9 hA s part).mp q c2)]
            have := hst true (by rw [hE1, decide_eq_true (by omega), decide_eq_true c2]; rfl)
            simpa using this
          · rw [if_pos ((nxI_m9 hA s part).mpr c2)]
            have := hst false (by rw [hE1, decide_eq_false c2]; simp)
            simpa [jn_X4_markLeading_58] using this
      · rw [if_neg (fun q => cs (dif_zero.mp ((nI_z hd).mp q))), hvv]
        refine ⟨_, rfl, rfl, hE, ?_⟩
        intro q h1 h2 h3
        by_cases e : q = part
        · subst e; exact absurd h3 cs
        · exact hL q h1 (by omega) h3
    · rintro ⟨v, N⟩ ⟨hv, hE, hL⟩
      have hv : v = oI (s - s) := hv
      rw [Nat.sub_self, oI_0] at hv
      subst hv
      refine ⟨N, ?_, hE, hL⟩
      simp only [bd_X4_markLeading_11, u2]
      rw [if_pos (by decide)]
  obtain ⟨M', k1, k2, k3⟩ := key
  exact ⟨M', by rw [k1]; rfl, k2, k3⟩
def PLN (M : Mem) (A : AB) (s : Nat) : Prop := M 14 4 = nI (if (TT A s).1 = 0 then 0 else pop 8 s) ∧ ((TT A s).1 ≠ 0 → ∀ j, j < pop 8 s → M 17 j = nI (nx A s (bf A s j)) ∧ M 18 j = fwI A (nx A s (bf A s j)) (bf A s j))
theorem c_follow {M : Mem} {A : AB} (h : RC M 9 A) (hA : okA A) {s g : Nat} (hg : 5000 < g) (hs : s < 2 ^ A.n) (hT : 0 < (TT A s).1) (hL : LEk M A s s) (h14 : M 14 4 = 0) : ∃ M', fn_X4_followLeading g (nI s) M = some M' ∧ eqx [14, 17, 18] M M' ∧ (∀ j, j ≠ 4 → M' 14 j = M 14 j) ∧ PLN M' A s := by
  have hn := hA.1
  have h256 := lt256 hs hn
  have hpop := pop_le 8 s
  unfold fn_X4_followLeading
  have key : ∃ o : Mem ⊕ Mem, lpN g (bd_X4_followLeading_4 g (nI s)) ((0 : Int32), (0 : Int32), M) = some o ∧ (∃ M', o = .inl M' ∧ eqx [14, 17, 18] M M' ∧ (∀ j, j ≠ 4 → M' 14 j = M 14 j) ∧ PLN M' A s) := by
    refine lp_inv (fun k w => w.1 = nI (bf A s k) ∧ w.2.1 = nI k ∧ eqx [14, 17, 18] M w.2.2 ∧ (∀ j, j ≠ 4 → w.2.2 14 j = M 14 j) ∧ w.2.2 14 4 = nI k ∧ ∀ j, j < k → w.2.2 17 j = nI (nx A s (bf A s j)) ∧ w.2.2 18 j = fwI A (nx A s (bf A s j)) (bf A s j)) _ (pop 8 s) ?_ ?_ (by omega) ⟨rfl, rfl, eqx_rf _ _, fun _ _ => rfl, h14, fun j hj => by omega⟩
    · rintro k ⟨v, w, N⟩ hk ⟨hv, hw, hE, h14', h4, hJ⟩
      have hv : v = nI (bf A s k) := hv
      have hw : w = nI k := hw
      subst hv; subst hw
      have hE : eqx [14, 17, 18] M N := hE
      have h14' : ∀ j, j ≠ 4 → N 14 j = M 14 j := h14'
      have hJ : ∀ j, j < k → N 17 j = nI (nx A s (bf A s j)) ∧ N 18 j = fwI A (nx A s (bf A s j)) (bf A s j) := hJ
      obtain ⟨b1, b2, b3, b4⟩ := bf_ok hA hs hT k (by omega)
      obtain ⟨b5, b6⟩ := b4 hk
      obtain ⟨y1, y2, y3, y4⟩ := nx_yes b6
      have hR : RC N 9 A := RC_eq h (hE 9 (by decide)) (hE 11 (by decide)) (hE 12 (by decide)) (hE 13 (by decide))
      have hin : inb (nI k) 8 := inb_nI (by omega) (by omega)
      simp only [bd_X4_followLeading_4, u3]
      rw [if_neg (show ¬ (8 : Int32) ≤ nI k from nI_ge (b := 8) (by omega) (by decide)), if_neg (fun q => by have := (nI_eq (by omega) (by omega)).mp q; omega), c_next hR hA hg hs b1 (fun p hp q1 q2 => by rw [hE 20 (by decide)]; exact hL _ (sub_le (sub_or b1 (two_pow_sub q1))) (by omega) (sub_or b1 (two_pow_sub q1)))]
      simp only [Option.bind_some]
      have hxi : nxI A s (bf A s k) = nI (nx A s (bf A s k)) := by unfold nxI; rw [if_pos b6]
      rw [if_neg (fun q => (nxI_m9 hA s _).mp q b6), if_pos hin, ix_nI (by omega), hxi]
      simp only [bv]
      have hR2 : RC (st N 17 k (nI (nx A s (bf A s k)))) 9 A := RC_eq hR (st_ne _ _ _ (by decide)) (st_ne _ _ _ (by decide)) (st_ne _ _ _ (by decide)) (st_ne _ _ _ (by decide))
      rw [c_firstWay hR2 hA hg (by omega)]
      simp only [Option.bind_some]
      rw [if_pos hin, N_sl (by omega), N_or, inc]
      refine ⟨_, rfl, rfl, rfl, eqx_st (eqx_st (eqx_st hE (by decide) _ _) (by decide) _ _) (by decide) _ _, ?_, ?_, ?_⟩
      · intro j hj
        have := h14' j hj
        simpa [st, upd, hj] using this
      · simp [st, upd]
      · intro j hj
        by_cases e : j = k
        · subst e; simp [st, upd]
        · have := hJ j (by omega)
          simpa [st, upd, e] using this
    · rintro ⟨v, w, N⟩ ⟨hv, hw, hE, h14', h4, hJ⟩
      have hv : v = nI (bf A s (pop 8 s)) := hv
      have hw : w = nI (pop 8 s) := hw
      rw [bf_end hA hs hT] at hv
      subst hv; subst hw
      refine ⟨.inl N, ?_, N, rfl, hE, h14', ?_, fun _ => hJ⟩
      · simp only [bd_X4_followLeading_4, u3]
        by_cases c8 : (8 : Int32) ≤ nI (pop 8 s)
        · rw [if_pos c8]
        · rw [if_neg c8, if_pos trivial]
      · show N 14 4 = _
        rw [if_neg (by omega)]
        exact h4
  obtain ⟨o, k1, M', rfl, k2⟩ := key
  exact ⟨M', by rw [k1]; rfl, k2⟩
/-- the planner is filled, and its plan is that of the set that it names -/
def PLok (M : Mem) (A : AB) : Prop := TAB M A ∧ (M 14 8 = -1 ∨ ∃ s, s < 2 ^ A.n ∧ M 14 8 = nI s ∧ PLN M A s)
theorem PLN_eq {M M' : Mem} {A : AB} {s : Nat} (h : PLN M A s) (h1 : M' 14 = M 14) (h2 : M' 17 = M 17) (h3 : M' 18 = M 18) : PLN M' A s := by
  unfold PLN at *
  rw [h1, h2, h3]
  exact h
theorem c_plan {M : Mem} {A : AB} (h : RC M 9 A) (hA : okA A) (hP : PLok M A) {s g : Nat} (hg : 5000 < g) (hs : s < 2 ^ A.n) : ∃ M', fn_X4_plan g (nI s) M = some M' ∧ eqx [14, 17, 18, 20] M M' ∧ M' 14 8 = nI s ∧ PLN M' A s := by
  have hn := hA.1
  have h256 := lt256 hs hn
  unfold fn_X4_plan
  by_cases c0 : nI s = M 14 8
  · rw [if_pos c0]
    refine ⟨M, rfl, eqx_rf _ _, c0.symm, ?_⟩
    rcases hP.2 with q | ⟨s', h1, h2, h3⟩
    · rw [q] at c0; exact absurd c0 (m1_ne s (by omega))
    · rw [h2] at c0
      have := lt256 h1 hn
      have e := (nI_eq (by omega) (by omega)).mp c0
      subst e
      exact h3
  · rw [if_neg c0, if_neg (nI_nn (by omega)), if_pos (show nI s < (256 : Int32) from nI_lt (b := 256) (by omega) (by decide))]
    simp only [bv]
    rw [if_pos (inb_nI (by omega) (by omega)), ix_nI (by omega)]
    obtain ⟨M5, hM5⟩ : ∃ z, z = st (st M 14 8 (nI s)) 14 4 0 := ⟨_, rfl⟩
    rw [← hM5]
    have e5 : eqx [14] M M5 := by rw [hM5]; exact eqx_st (eqx_st (eqx_rf _ M) (by decide) _ _) (by decide) _ _
    have a8 : M5 14 8 = nI s := by rw [hM5]; simp [st, upd]
    have a4 : M5 14 4 = 0 := by rw [hM5]; simp [st, upd]
    have hT5 : TAB M5 A := TAB_of hP.1 (e5 15 (by decide)) (e5 16 (by decide)) (e5 19 (by decide))
    have hR5 : RC M5 9 A := RC_eq h (e5 9 (by decide)) (e5 11 (by decide)) (e5 12 (by decide)) (e5 13 (by decide))
    rw [(hT5 s hs).1]
    by_cases cT : (TT A s).1 = 0
    · rw [cT, if_pos (by decide)]
      refine ⟨M5, rfl, eqx_mono e5 (by decide), a8, ?_, fun q => absurd cT q⟩
      rw [a4, if_pos cT]; rfl
    · have hT : 0 < (TT A s).1 := by omega
      have hb := TT_lt hA h256
      rw [if_neg (nI_nle hT (by omega))]
      obtain ⟨M8, i1, i2, i3⟩ := c_mark hR5 hA hT5 hg hs hT
      have hR8 : RC M8 9 A := RC_eq hR5 (i2 9 (by decide)) (i2 11 (by decide)) (i2 12 (by decide)) (i2 13 (by decide))
      obtain ⟨M9, j1, j2, j3, j4⟩ := c_follow hR8 hA hg hs hT i3 (by rw [i2 14 (by decide)]; exact a4)
      rw [i1]
      simp only [Option.bind_some]
      rw [j1]
      refine ⟨M9, rfl, eqx_tr (eqx_mono e5 (by decide)) (eqx_tr (eqx_mono i2 (by decide)) (eqx_mono j2 (by decide))), ?_, j4⟩
      rw [j3 8 (by decide), i2 14 (by decide)]
      exact a8
