/-! the class's relations, whole -/
def bL (o : Nat → Nat) (p d q : Nat) : Bool := q != p && anyB (fun L => lnB o L p d q 6) 108
def tL (o : Nat → Nat) (p q : Nat) : Bool := q != p && anyB (fun L => lnT o L p q 6) 108
def uL (o : Nat → Nat) (p q : Nat) : Bool := q != p && anyB (fun L => L / 36 == 2 && lnU o L p q 6) 108
def gL (o : Nat → Nat) (p : Nat) : Bool := anyB (fun c => o c == p + 1) 36
def CL (o : Nat → Nat) (a b : Nat) : Nat := fb_sm (fun L => lnC o L a b 6) 108
def AO (n : Nat) (o : Nat → Nat) : AB := (n, fun p d => msk (bL o p d) 8, fun p => msk (uL o p) 8, fun p => msk (tL o p) 8, msk (gL o) 8)
theorem okAO {n : Nat} (hn : n ≤ 8) (o : Nat → Nat) : okA (AO n o) := ⟨hn, fun _ _ => msk8 _, fun _ => msk8 _, fun _ => msk8 _, msk8 _⟩
/-- a loop that writes one row of numbers -/
theorem lp_fill {b : (Int32 × Mem) → Option ((Int32 × Mem) ⊕ Mem)} {k N g : Nat} (v : Nat → Int32) (hg : N < g) (M : Mem) (hs : ∀ i f, i < N → b (nI i, stf M k f) = some (.inl (nI (i + 1), st (stf M k f) k i (v i)))) (he : ∀ f, b (nI N, stf M k f) = some (.inr (stf M k f))) : lpN g b ((0 : Int32), M) = some (stf M k (fa_fill v (M k) N)) := by
  refine lp_for (fun i => (nI i, stf M k (fa_fill v (M k) i))) N ?_ ?_ hg ?_
  · intro i hi
    try dsimp only
    rw [hs i _ hi, st_eq, stf_at, stf_stf, fa_fill_succ]
  · exact he _
  · try dsimp only
    rw [fa_fill_0, stf_self]; rfl
theorem c_reset {M : Mem} {k g : Nat} (hg : 5000 < g) : ∃ M', fn_X5_reset g k M = some M' ∧ eqx [k, k + 1, k + 2, k + 3, k + 4] M M' ∧ M' k = upd (M k) 4 0 ∧ (∀ j, j < 64 → M' (k + 1) j = 0) ∧ (∀ j, j < 48 → M' (k + 2) j = 0) ∧ (∀ p, p < 8 → M' (k + 3) p = 0) ∧ (∀ p, p < 8 → M' (k + 4) p = 0) := by
  unfold fn_X5_reset
  have r1 : lpN g (bd_X5_reset_2 k) ((0 : Int32), M) = some (stf M (k + 1) (fa_fill (fun _ => 0) (M (k + 1)) 64)) := by
    refine lp_fill _ (by omega) M ?_ ?_
    · intro i f hi
      simp only [bd_X5_reset_2, u2]
      rw [if_neg (show ¬ (64 : Int32) ≤ nI i from nI_ge (b := 64) hi (by decide)), if_pos (inb_nI hi (by omega)), ix_nI (by omega), inc]
      rfl
    · intro f
      simp only [bd_X5_reset_2, u2]
      rw [if_pos (by decide)]
  rw [r1]
  simp only [Option.bind_some, u1]
  obtain ⟨M1, hM1⟩ : ∃ z, z = stf M (k + 1) (fa_fill (fun _ => 0) (M (k + 1)) 64) := ⟨_, rfl⟩
  rw [← hM1]
  have r2 : lpN g (bd_X5_reset_23 k) ((0 : Int32), M1) = some (stf M1 (k + 2) (fa_fill (fun _ => 0) (M1 (k + 2)) 48)) := by
    refine lp_fill _ (by omega) M1 ?_ ?_
    · intro i f hi
      simp only [bd_X5_reset_23, u2]
      rw [if_neg (show ¬ (48 : Int32) ≤ nI i from nI_ge (b := 48) hi (by decide)), if_pos (inb_nI hi (by omega)), ix_nI (by omega), inc]
      rfl
    · intro f
      simp only [bd_X5_reset_23, u2]
      rw [if_pos (by decide)]
  rw [r2]
  simp only [Option.bind_some, u1]
  obtain ⟨M2, hM2⟩ : ∃ z, z = stf M1 (k + 2) (fa_fill (fun _ => 0) (M1 (k + 2)) 48) := ⟨_, rfl⟩
  rw [← hM2]
  have r3 : lpN g (bd_X5_reset_44 k) ((0 : Int32), M2) = some (stf (stf M2 (k + 3) (fa_fill (fun _ => 0) (M2 (k + 3)) 8)) (k + 4) (fa_fill (fun _ => 0) (M2 (k + 4)) 8)) := by
    refine lp_for (fun i => (nI i, stf (stf M2 (k + 3) (fa_fill (fun _ => 0) (M2 (k + 3)) i)) (k + 4) (fa_fill (fun _ => 0) (M2 (k + 4)) i))) 8 ?_ ?_ (by omega) ?_
    · intro i hi
      simp only [bd_X5_reset_44, u2]
      rw [if_neg (show ¬ (8 : Int32) ≤ nI i from nI_ge (b := 8) hi (by decide)), if_pos (inb_nI hi (by omega)), ix_nI (by omega), inc]
      simp only [bv]
      rw [if_pos (inb_nI hi (by omega))]
      congr 4
      funext a
      simp only [st, stf]
      by_cases e1 : a = k + 4
      · subst e1
        simp
        rw [← fa_fill_succ]
      · by_cases e2 : a = k + 3
        · subst e2
          simp
          rw [← fa_fill_succ]
        · simp [e1, e2]
    · simp only [bd_X5_reset_44, u2]
      rw [if_pos (by decide)]
    · try dsimp only
      rw [fa_fill_0, fa_fill_0, stf_self]
      congr 1
      exact (stf_self _ _).symm
  rw [r3]
  simp only [Option.bind_some, bv]
  refine ⟨_, rfl, ?_, ?_, ?_, ?_, ?_, ?_⟩
  · intro a ha
    simp only [List.mem_cons, List.not_mem_nil, or_false, not_or] at ha
    obtain ⟨a1, a2, a3, a4, a5⟩ := ha
    rw [st_ne _ _ _ a1, stf_ne _ _ a5, stf_ne _ _ a4, hM2, stf_ne _ _ a3, hM1, stf_ne _ _ a2]
  · rw [st_at, stf_ne _ _ (by omega), stf_ne _ _ (by omega), hM2, stf_ne _ _ (by omega), hM1, stf_ne _ _ (by omega)]
  · intro j hj
    rw [st_ne _ _ _ (by omega), stf_ne _ _ (by omega), stf_ne _ _ (by omega), hM2, stf_ne _ _ (by omega), hM1, stf_at, fa_fill_in hj]
  · intro j hj
    rw [st_ne _ _ _ (by omega), stf_ne _ _ (by omega), stf_ne _ _ (by omega), hM2, stf_at, fa_fill_in hj]
  · intro j hj
    rw [st_ne _ _ _ (by omega), stf_ne _ _ (by omega), stf_at, fa_fill_in hj]
  · intro j hj
    rw [st_ne _ _ _ (by omega), stf_at, fa_fill_in hj]
def SRl (k : Nat) : List Nat := [k, k + 1, k + 2, k + 3, k + 4]
theorem c_read {M : Mem} {k k1 n g : Nat} {o : Nat → Nat} (hg : 5000 < g) (hk : k1 + 1 ∉ SRl k) (hk0 : k1 ∉ SRl k) (hn : M k1 2 = nI n) (ho : ∀ c, c < 216 → o c ≤ 8) (h0 : hO M k1 o) : ∃ M', fn_X5_read g k k1 M = some M' ∧ eqx (SRl k) M M' ∧ RC M' k (AO n o) ∧ hC M' k (CL o) := by
  unfold fn_X5_read
  obtain ⟨M1, a1, a2, a3, a4, a5, a6, a7⟩ := c_reset (M := M) (k := k) hg
  rw [a1]
  simp only [Option.bind_some, bv]
  have hk1' : M1 k1 = M k1 := a2 _ hk0
  obtain ⟨M2, hM2⟩ : ∃ z, z = st M1 k 5 (M1 k1 2) := ⟨_, rfl⟩
  rw [← hM2]
  have e2 : eqx (SRl k) M M2 := by rw [hM2]; exact eqx_st a2 (by simp [SRl]) _ _
  have s1 : M2 (k + 1) = M1 (k + 1) := by rw [hM2]; exact st_ne _ _ _ (by omega)
  have s2 : M2 (k + 2) = M1 (k + 2) := by rw [hM2]; exact st_ne _ _ _ (by omega)
  have s3 : M2 (k + 3) = M1 (k + 3) := by rw [hM2]; exact st_ne _ _ _ (by omega)
  have s4 : M2 (k + 4) = M1 (k + 4) := by rw [hM2]; exact st_ne _ _ _ (by omega)
  have s5 : M2 k 5 = nI n := by rw [hM2, st_at, upd_at, hk1', hn]
  have s6 : M2 k 4 = 0 := by rw [hM2, st_at, upd_ne _ _ (by omega), a3, upd_at]
  have h02 : hO M2 k1 o := fun c hc => by rw [e2 _ hk]; exact h0 c hc
  -- the ground
  have gr : ∃ M3, lpN g (bd_X5_read_14 k k1) ((0 : Int32), M2) = some M3 ∧ (eqx [k] M2 M3 ∧ M3 k 5 = nI n ∧ M3 k 4 = nI (msk (gL o) 8)) := by
    refine lp_inv (fun i w => w.1 = nI i ∧ eqx [k] M2 w.2 ∧ w.2 k 5 = nI n ∧ w.2 k 4 = nI (msk (fun p => anyB (fun c => o c == p + 1) i) 8)) _ 36 ?_ ?_ (by omega) ⟨rfl, eqx_rf _ _, s5, by show M2 k 4 = _; rw [s6, show (fun p => anyB (fun c => o c == p + 1) 0) = fun _ => false from rfl, msk_z]; rfl⟩
    · rintro i ⟨v, N⟩ hi ⟨q1, q2, q3, q4⟩
      dsimp only at q1 q2 q3 q4
      subst q1
      have hN : N (k1 + 1) = M2 (k1 + 1) := q2 _ (fun q => hk (by simp at q; simp [SRl, q]))
      have hoi := ho i (by omega)
      simp only [bd_X5_read_14, u2]
      rw [if_neg (show ¬ (36 : Int32) ≤ nI i from nI_ge (b := 36) hi (by decide)), if_pos (inb_nI (show i < 216 by omega) (by omega)), ix_nI (by omega), hN, h02 i (by omega), inc]
      by_cases c : o i = 0
      · rw [if_pos ((oI_m1 (by omega)).mpr c)]
        refine ⟨_, rfl, rfl, q2, q3, ?_⟩
        try dsimp only
        rw [q4, msk_eq]
        intro p _
        try dsimp only
        rw [anyB_s, c]; simp
      · rw [if_neg (fun q => c ((oI_m1 (by omega)).mp q)), if_pos (inb_nI (show i < 216 by omega) (by omega))]
        obtain ⟨p, hp⟩ : ∃ p, o i = p + 1 := ⟨o i - 1, by omega⟩
        simp only [bv]
        refine ⟨_, rfl, rfl, eqx_st q2 (by simp) _ _, ?_, ?_⟩
        · try dsimp only
          rw [st_at, upd_ne _ _ (by omega)]; exact q3
        · try dsimp only
          rw [st_at, upd_at, q4, hp, oI_s, N_sl (by omega), N_or, msk_one (show p < 8 by omega), msk_or, msk_eq]
          intro p' _
          try dsimp only
          rw [anyB_s, hp]
          congr 1
          rw [Bool.eq_iff_iff]; simp; omega
    · rintro ⟨v, N⟩ ⟨q1, q2, q3, q4⟩
      dsimp only at q1 q2 q3 q4
      subst q1
      refine ⟨N, ?_, q2, q3, q4⟩
      simp only [bd_X5_read_14, u2]
      rw [if_pos (by decide)]
  obtain ⟨M3, b1, b2, b3, b4⟩ := gr
  rw [b1]
  simp only [Option.bind_some, u1]
  have r1 : M3 (k + 1) = M1 (k + 1) := (b2 _ (by simp)).trans s1
  have r2 : M3 (k + 2) = M1 (k + 2) := (b2 _ (by simp)).trans s2
  have r3 : M3 (k + 3) = M1 (k + 3) := (b2 _ (by simp)).trans s3
  have r4 : M3 (k + 4) = M1 (k + 4) := (b2 _ (by simp)).trans s4
  have h03 : hO M3 k1 o := fun c hc => by rw [b2 _ (fun q => hk (by simp at q; simp [SRl, q]))]; exact h02 c hc
  have hk' : k1 + 1 ∉ [k + 1, k + 2, k + 3, k + 4] := fun q => hk (by simp [SRl] at q ⊢; omega)
  have ln : ∃ M4, lpN g (bd_X5_read_55 g k k1) ((0 : Int32), M3) = some M4 ∧ (eqx [k + 1, k + 2, k + 3, k + 4] M3 M4 ∧ hB M4 k (bL o) ∧ hT M4 k (tL o) ∧ hU M4 k (uL o) ∧ hC M4 k (CL o)) := by
    refine lp_inv (fun a w => w.1 = nI a ∧ eqx [k + 1, k + 2, k + 3, k + 4] M3 w.2 ∧ hB w.2 k (fun p d q => q != p && anyB (fun L => lnB o L p d q 6) (36 * a)) ∧ hT w.2 k (fun p q => q != p && anyB (fun L => lnT o L p q 6) (36 * a)) ∧ hU w.2 k (fun p q => q != p && anyB (fun L => L / 36 == 2 && lnU o L p q 6) (36 * a)) ∧ hC w.2 k (fun a' b' => fb_sm (fun L => lnC o L a' b' 6) (36 * a))) _ 3 ?_ ?_ (by omega) ?_
    · rintro a ⟨v, N⟩ ha ⟨q1, q2, q3, q4, q5, q6⟩
      dsimp only at q1 q2 q3 q4 q5 q6
      subst q1
      simp only [bd_X5_read_55, u2]
      rw [if_neg (show ¬ (3 : Int32) ≤ nI a from nI_ge (b := 3) ha (by decide))]
      have inn : ∃ N', lpN g (bd_X5_read_62 g k k1 (nI a)) ((0 : Int32), N) = some N' ∧ (eqx [k + 1, k + 2, k + 3, k + 4] M3 N' ∧ hB N' k (fun p d q => q != p && anyB (fun L => lnB o L p d q 6) (36 * (a + 1))) ∧ hT N' k (fun p q => q != p && anyB (fun L => lnT o L p q 6) (36 * (a + 1))) ∧ hU N' k (fun p q => q != p && anyB (fun L => L / 36 == 2 && lnU o L p q 6) (36 * (a + 1))) ∧ hC N' k (fun a' b' => fb_sm (fun L => lnC o L a' b' 6) (36 * (a + 1)))) := by
        refine lp_inv (fun l w => w.1 = nI l ∧ eqx [k + 1, k + 2, k + 3, k + 4] M3 w.2 ∧ hB w.2 k (fun p d q => q != p && anyB (fun L => lnB o L p d q 6) (36 * a + l)) ∧ hT w.2 k (fun p q => q != p && anyB (fun L => lnT o L p q 6) (36 * a + l)) ∧ hU w.2 k (fun p q => q != p && anyB (fun L => L / 36 == 2 && lnU o L p q 6) (36 * a + l)) ∧ hC w.2 k (fun a' b' => fb_sm (fun L => lnC o L a' b' 6) (36 * a + l))) _ 36 ?_ ?_ (by omega) ⟨rfl, q2, q3, q4, q5, q6⟩
        · rintro l ⟨v, N1⟩ hl ⟨w1, w2, w3, w4, w5, w6⟩
          dsimp only at w1 w2 w3 w4 w5 w6
          subst w1
          have hdv : (36 * a + l) / 36 = a := by omega
          simp only [bd_X5_read_62, u2]
          rw [if_neg (show ¬ (36 : Int32) ≤ nI l from nI_ge (b := 36) hl (by decide)), lst_eq0 a ha l hl]
          have h0n : hO N1 k1 o := fun c hc => by rw [w2 _ hk']; exact h03 c hc
          obtain ⟨N2, c1, c2, c3, c4, c5, c6⟩ := c_line (L := 36 * a + l) hg (by omega) hk' ho h0n w3 w4 w5 w6
          rw [hdv] at c1
          rw [c1]
          simp only [Option.bind_some]
          refine ⟨_, rfl, inc l, eqx_tr w2 c2, hB_c c3 rfl ?_, hT_c c4 rfl ?_, hU_c c5 rfl ?_, hC_c c6 rfl ?_⟩
          · intro p d q _ _ _
            rw [← Nat.add_assoc, anyB_s, Bool.and_or_distrib_left]
          · intro p q _ _
            rw [← Nat.add_assoc, anyB_s, Bool.and_or_distrib_left]
          · intro p q _ _
            rw [← Nat.add_assoc, anyB_s, Bool.and_or_distrib_left]
          · intro a' b' _ _ _
            rw [← Nat.add_assoc, fb_sm_succ]
        · rintro ⟨v, N1⟩ ⟨w1, w2, w3, w4, w5, w6⟩
          dsimp only at w1 w2 w3 w4 w5 w6
          subst w1
          refine ⟨N1, ?_, w2, w3, w4, w5, w6⟩
          simp only [bd_X5_read_62, u2]
          rw [if_pos (by decide)]
      obtain ⟨N', z1, z2⟩ := inn
      rw [z1]
      exact ⟨_, rfl, inc a, z2⟩
    · rintro ⟨v, N⟩ ⟨q1, q2, q3, q4, q5, q6⟩
      dsimp only at q1 q2 q3 q4 q5 q6
      subst q1
      refine ⟨N, ?_, q2, q3, q4, q5, q6⟩
      simp only [bd_X5_read_55, u2]
      rw [if_pos (by decide)]
    · refine ⟨rfl, eqx_rf _ _, ?_, ?_, ?_, ?_⟩
      · intro p d hp hd
        try dsimp only
        rw [r2, a5 _ (by omega), msk_eq (h := fun _ => false) (fun q _ => by simp [anyB]), msk_z]; rfl
      · intro p hp
        try dsimp only
        rw [r3, a6 _ (by omega), msk_eq (h := fun _ => false) (fun q _ => by simp [anyB]), msk_z]; rfl
      · intro p hp
        try dsimp only
        rw [r4, a7 _ (by omega), msk_eq (h := fun _ => false) (fun q _ => by simp [anyB]), msk_z]; rfl
      · intro a b ha hb _
        try dsimp only
        rw [r1, a4 _ (by omega)]; rfl
  obtain ⟨M4, d1, d2, d3, d4, d5, d6⟩ := ln
  rw [d1]
  simp only [Option.bind_some]
  refine ⟨M4, rfl, eqx_tr e2 (eqx_tr (eqx_mono b2 (by simp [SRl])) (eqx_mono d2 (by simp [SRl]))), ⟨?_, d3, d4, d5, ?_⟩, d6⟩
  · rw [d2 _ (by simp)]; exact b3
  · rw [d2 _ (by simp)]; exact b4
