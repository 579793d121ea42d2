theorem u_at0 : ∀ c, c < 216 → if 36 ≤ c then 1 ≤ cd c 2 ∧ lc (lo c 2) (cd c 2 - 1) = c - 36 else True := by decide +kernel
theorem u_at1 : ∀ l, l < 36 → ∀ t, t < 5 → lc (72 + l) (t + 1) = lc (72 + l) t + 36 := by decide +kernel
theorem rB_bL (o : Nat → Nat) {p d q : Nat} (hd : d < 6) : rB o 216 p d q = bL o p d q := by
  unfold rB bL
  refine congrArg (fun z => (q != p && z)) ?_
  apply bool_ext
  rw [anyB_iff, anyB_iff]
  constructor
  · rintro ⟨c, hc, h⟩
    rw [Bool.and_eq_true, anyB_iff] at h
    obtain ⟨h1, j, hj, h2⟩ := h
    obtain ⟨l1, l2, l3, l4⟩ := lo_lt0 c hc (d / 2) (by omega)
    have l5 := lo_rc0 c hc d hd j hj
    refine ⟨lo c (d / 2), l1, ?_⟩
    unfold lnB
    rw [Bool.or_eq_true, Bool.and_eq_true, Bool.and_eq_true, l2]
    by_cases e : d % 2 = 0
    · rw [if_pos e] at l5
      obtain ⟨l5, l6⟩ := l5
      refine Or.inr ⟨by simp; omega, ?_⟩
      rw [anyB_iff]
      refine ⟨5 - cd c (d / 2), by omega, ?_⟩
      rw [Bool.and_eq_true, anyB_iff, show 5 - (5 - cd c (d / 2)) = cd c (d / 2) by omega, l4]
      refine ⟨h1, 5 - (cd c (d / 2) + 1 + j), by omega, ?_⟩
      rw [show 5 - (5 - (cd c (d / 2) + 1 + j)) = cd c (d / 2) + 1 + j by omega, l6]
      exact h2
    · rw [if_neg e] at l5
      obtain ⟨l5, l6⟩ := l5
      refine Or.inl ⟨by simp; omega, ?_⟩
      rw [anyB_iff]
      refine ⟨cd c (d / 2), by omega, ?_⟩
      rw [Bool.and_eq_true, anyB_iff, l4]
      refine ⟨h1, cd c (d / 2) - 1 - j, by omega, ?_⟩
      rw [l6]
      exact h2
  · rintro ⟨L, hL, h⟩
    unfold lnB at h
    rw [Bool.or_eq_true, Bool.and_eq_true, Bool.and_eq_true] at h
    rcases h with ⟨e, h⟩ | ⟨e, h⟩
    · rw [anyB_iff] at h
      obtain ⟨t, ht, h⟩ := h
      rw [Bool.and_eq_true, anyB_iff] at h
      obtain ⟨h1, t', ht', h2⟩ := h
      have ed : d = 2 * (L / 36) + 1 := by simpa using e
      obtain ⟨z1, z2⟩ := (lc_rc0 L hL t ht t' ht').1
      refine ⟨lc L t, lc_lt0 L hL t ht, ?_⟩
      rw [Bool.and_eq_true, anyB_iff]
      exact ⟨h1, t - t' - 1, by rw [ed]; exact z1, by rw [ed, z2]; exact h2⟩
    · rw [anyB_iff] at h
      obtain ⟨t, ht, h⟩ := h
      rw [Bool.and_eq_true, anyB_iff] at h
      obtain ⟨h1, t', ht', h2⟩ := h
      have ed : d = 2 * (L / 36) := by simpa using e
      obtain ⟨z1, z2⟩ := (lc_rc0 L hL (5 - t') (by omega) (5 - t) (by omega)).2
      refine ⟨lc L (5 - t), lc_lt0 L hL _ (by omega), ?_⟩
      rw [Bool.and_eq_true, anyB_iff]
      exact ⟨h1, _, by rw [ed]; exact z1, by rw [ed, z2]; exact h2⟩
theorem rU_uL (o : Nat → Nat) (p q : Nat) : rU o 216 p q = uL o p q := by
  unfold rU uL
  refine congrArg (fun z => (q != p && z)) ?_
  apply bool_ext
  rw [anyB_iff, anyB_iff]
  constructor
  · rintro ⟨c, hc, h⟩
    simp only [Bool.and_eq_true, decide_eq_true_eq, beq_iff_eq] at h
    obtain ⟨h1, h2, h3⟩ := h
    obtain ⟨l1, l2, l3, l4⟩ := lo_lt0 c hc 2 (by omega)
    have l5 := u_at0 c hc
    rw [if_pos h1] at l5
    refine ⟨lo c 2, l1, ?_⟩
    unfold lnU wl
    rw [Bool.and_eq_true, anyB_iff, l2]
    refine ⟨rfl, cd c 2, l3, ?_⟩
    rw [if_neg (by omega), l5.2, l4]
    simp [h2, h3]
  · rintro ⟨L, hL, h⟩
    unfold lnU wl at h
    rw [Bool.and_eq_true, anyB_iff] at h
    obtain ⟨h1, t, ht, h2⟩ := h
    have h1 : L / 36 = 2 := by simpa using h1
    simp only [Bool.and_eq_true, beq_iff_eq] at h2
    obtain ⟨h2, h3⟩ := h2
    cases t with
    | zero => simp at h2
    | succ t =>
      rw [if_neg (by omega)] at h2
      have e := u_at1 (L - 72) (by omega) t (by omega)
      rw [show 72 + (L - 72) = L by omega] at e
      refine ⟨lc L (t + 1), lc_lt0 L hL _ ht, ?_⟩
      simp only [Bool.and_eq_true, decide_eq_true_eq, beq_iff_eq]
      refine ⟨by omega, h3, ?_⟩
      rw [show lc L (t + 1) - 36 = lc L t by omega]
      exact h2
theorem rG_gL (o : Nat → Nat) (p : Nat) : rG o 216 p = gL o p := by
  unfold rG gL
  apply bool_ext
  rw [anyB_iff, anyB_iff]
  constructor
  · rintro ⟨c, hc, h⟩
    rw [Bool.and_eq_true, decide_eq_true_eq] at h
    exact ⟨c, h.1, h.2⟩
  · rintro ⟨c, hc, h⟩
    exact ⟨c, by omega, by rw [Bool.and_eq_true, decide_eq_true_eq]; exact ⟨hc, h⟩⟩
theorem m_lays {M : Mem} {n g : Nat} {o : Nat → Nat} (hg : 5000 < g) (hn : M 62 0 = nI n) (ho : ∀ c, c < 216 → o c ≤ 8) (h0 : hP M o) : ∃ M', fn_X8_lays g M = some M' ∧ eqx [63, 64, 65] M M' ∧ LC M' (AO n o) := by
  unfold fn_X8_lays
  have r1 : lpN g bd_X8_lays_2 ((0 : Int32), M) = some (stf M 63 (fa_fill (fun _ => 0) (M 63) 48)) := by
    refine lp_fill _ (by omega) M ?_ ?_
    · intro i f hi
      simp only [bd_X8_lays_2, u2]
      rw [if_neg (show ¬ (48 : Int32) ≤ nI i from nI_ge (b := 48) hi (by decide)), if_pos (inb_nI hi (by omega)), ix_nI (by omega), inc]
      rfl
    · intro f
      simp only [bd_X8_lays_2, u2]
      rw [if_pos (by decide)]
  rw [r1]
  simp only [Option.bind_some, u1]
  obtain ⟨M1, hM1⟩ : ∃ z, z = stf M 63 (fa_fill (fun _ => 0) (M 63) 48) := ⟨_, rfl⟩
  rw [← hM1]
  have r3 : lpN g bd_X8_lays_23 ((0 : Int32), M1) = some (stf (stf M1 64 (fa_fill (fun _ => 0) (M1 64) 8)) 65 (fa_fill (fun _ => 0) (M1 65) 8)) := by
    refine lp_for (fun i => (nI i, stf (stf M1 64 (fa_fill (fun _ => 0) (M1 64) i)) 65 (fa_fill (fun _ => 0) (M1 65) i))) 8 ?_ ?_ (by omega) ?_
    · intro i hi
      simp only [bd_X8_lays_23, u2]
      rw [if_neg (show ¬ (8 : Int32) ≤ nI i from nI_ge (b := 8) hi (by decide)), if_pos (inb_nI hi (by omega)), ix_nI (by omega), inc]
      simp only [bv]
      rw [if_pos (inb_nI hi (by omega))]
      congr 4
      funext a
      simp only [st, stf]
      by_cases e1 : a = 65
      · subst e1
        simp
        rw [← fa_fill_succ]
      · by_cases e2 : a = 64
        · subst e2
          simp
          rw [← fa_fill_succ]
        · simp [e1, e2]
    · simp only [bd_X8_lays_23, u2]
      rw [if_pos (by decide)]
    · rw [fa_fill_0, fa_fill_0, stf_self]
      congr 1
      exact (stf_self _ _).symm
  rw [r3]
  simp only [Option.bind_some, u1]
  obtain ⟨M2, hM2⟩ : ∃ z, z = stf (stf M1 64 (fa_fill (fun _ => 0) (M1 64) 8)) 65 (fa_fill (fun _ => 0) (M1 65) 8) := ⟨_, rfl⟩
  rw [← hM2]
  have e2 : eqx [63, 64, 65] M M2 := by
    intro a ha
    simp only [List.mem_cons, List.not_mem_nil, or_false, not_or] at ha
    rw [hM2, stf_ne _ _ ha.2.2, stf_ne _ _ ha.2.1, hM1, stf_ne _ _ ha.1]
  have h02 : hP M2 o := fun c hc => by rw [e2 _ (by decide)]; exact h0 c hc
  have b2 : mB M2 (rB o 0) := by
    intro p d hp hd
    rw [hM2, stf_ne _ _ (by decide), stf_ne _ _ (by decide), hM1, stf_at, fa_fill_in (by omega), msk_eq (h := fun _ => false) (fun q _ => by simp [rB, anyB]), msk_z]; rfl
  have u2' : mU M2 (rU o 0) := by
    intro p hp
    rw [hM2, stf_ne _ _ (by decide), stf_at, fa_fill_in (by omega), msk_eq (h := fun _ => false) (fun q _ => by simp [rU, anyB]), msk_z]; rfl
  have g2 : mG M2 (rG o 0) := by
    intro p hp
    rw [hM2, stf_at, fa_fill_in (by omega)]; rfl
  have key : ∃ M', lpN g (bd_X8_lays_51 g) ((0 : Int32), M2) = some M' ∧ (eqx [63, 64, 65] M M' ∧ mB M' (rB o 216) ∧ mU M' (rU o 216) ∧ mG M' (rG o 216)) := by
    refine lp_inv (fun c w => w.1 = nI c ∧ eqx [63, 64, 65] M w.2 ∧ mB w.2 (rB o c) ∧ mU w.2 (rU o c) ∧ mG w.2 (rG o c)) _ 216 ?_ ?_ (by omega) ⟨rfl, e2, b2, u2', g2⟩
    · rintro c ⟨v, N⟩ hc ⟨q1, q2, q3, q4, q5⟩
      dsimp only at q1 q2 q3 q4 q5
      subst q1
      have h0n : hP N o := fun c hc => by rw [q2 _ (by decide)]; exact h0 c hc
      have hoc := ho c hc
      simp only [bd_X8_lays_51, u2]
      rw [if_neg (show ¬ (216 : Int32) ≤ nI c from nI_ge (b := 216) hc (by decide)), m_at h0n hc]
      simp only [Option.bind_some]
      by_cases c1 : o c = 0
      · rw [if_pos ((oI_lt0 (by omega)).mpr c1)]
        refine ⟨_, rfl, inc c, q2, mB_c q3 rfl ?_, mU_c q4 rfl ?_, mG_c q5 rfl ?_⟩
        · intro p d q _ _ _
          unfold rB
          rw [anyB_s, c1]; simp
        · intro p q _ _
          unfold rU
          rw [anyB_s, c1]; simp
        · intro p _
          unfold rG
          rw [anyB_s, c1]; simp
      · obtain ⟨p, hp⟩ : ∃ p, o c = p + 1 := ⟨o c - 1, by omega⟩
        rw [hp, oI_s, if_neg (nI_nn (by omega)), if_pos (inb_nI (show p < 8 by omega) (by omega)), ix_nI (by omega), q5 p (by omega)]
        have hG : rG o (c + 1) p = (rG o c p || decide (c < 36)) := by
          unfold rG
          rw [anyB_s, hp]; simp
        have fin := fun b hb => m_cell hg hc hp ho h0n q3 q4 q5 b hb
        have use : ∀ z, (∃ b, b = rG o (c + 1) p ∧ z = jn_X8_lays_93 g (if b then 1 else 0) (nI p) (nI c) (nI p) N) → ∃ s', z = some (Sum.inl s' : (Int32 × Mem) ⊕ Mem) ∧ s'.1 = nI (c + 1) ∧ eqx [63, 64, 65] M s'.2 ∧ mB s'.2 (rB o (c + 1)) ∧ mU s'.2 (rU o (c + 1)) ∧ mG s'.2 (rG o (c + 1)) := by
          rintro z ⟨b, hb, hz⟩
          obtain ⟨N', z1, z2, z3, z4, z5⟩ := fin b hb
          exact ⟨(nI (c + 1), N'), by rw [hz]; exact z1, rfl, eqx_tr q2 z2, z3, z4, z5⟩
        apply use
        cases hb : rG o c p
        · rw [hb] at hG
          by_cases c36 : 36 ≤ c
          · refine ⟨false, by rw [hG]; simp; omega, ?_⟩
            simp only [Bool.false_eq_true, if_false]
            rw [if_pos trivial, if_pos (show (36 : Int32) ≤ nI c from (nI_leI (a := 36) (by decide) (by omega)).mpr c36)]
          · refine ⟨true, by rw [hG]; simp; omega, ?_⟩
            simp only [Bool.false_eq_true, if_false, if_true]
            rw [if_neg (show ¬ (36 : Int32) ≤ nI c from fun q => c36 ((nI_leI (a := 36) (by decide) (by omega)).mp q))]
            rfl
        · refine ⟨true, by rw [hG, hb]; rfl, ?_⟩
          simp only [if_true]
          rw [if_neg (by decide)]
          rfl
    · rintro ⟨v, N⟩ ⟨q1, q2, q3, q4, q5⟩
      dsimp only at q1 q2 q3 q4 q5
      subst q1
      refine ⟨N, ?_, q2, q3, q4, q5⟩
      simp only [bd_X8_lays_51, u2]
      rw [if_pos (by decide)]
  obtain ⟨M', z1, z2, z3, z4, z5⟩ := key
  rw [z1]
  refine ⟨M', rfl, z2, ?_, ?_, ?_, ?_⟩
  · rw [z2 _ (by decide)]; exact hn
  · intro p d hp hd
    rw [z3 p d hp hd]
    show nI _ = nI (msk (bL o p d) 8)
    rw [msk_eq (fun q _ => rB_bL o hd)]
  · intro p hp
    rw [z4 p hp]
    show nI _ = nI (msk (uL o p) 8)
    rw [msk_eq (fun q _ => rU_uL o p q)]
  · intro p hp
    rw [z5 p hp, rG_gL]
    show _ = if (msk (gL o) 8).testBit p = true then _ else _
    rw [msk_bit, decide_eq_true hp, Bool.true_and]
