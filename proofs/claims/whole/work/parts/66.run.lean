/-- kind of fault, where, and the frame -/
def run (tx : Nat → Nat) : Nat → Nat → QS → Nat × Nat × FR
  | 0, i, Q => (if Q.pl = 1 ∨ Q.pl = 2 then 1 else 0, i, Q.F)
  | m + 1, i, Q => if (stp Q (tx i)).1 = 0 then run tx m (i + 1) (stp Q (tx i)).2 else ((stp Q (tx i)).1, i, Q.F)
def Q0 : QS := (0, 0, 0, fZ, fun _ => 0)
theorem okQ_0 : okQ Q0 := ⟨okF_Z, Nat.le_refl 0, by show 0 ≤ 0 + 1; omega, by show 0 < 8; omega, fun z => absurd z (by show ¬ (0 = 3); omega), fun _ => by show 0 < 4; omega, by show 0 < 6; omega, fun _ => rfl, fun i hi => by have : i < 0 := hi; omega, by show 0 ≤ 3; omega⟩
theorem stp_le (Q : QS) (c : Nat) : (stp Q c).1 ≤ 4 := by
  unfold stp
  repeat' split
  all_goals simp
theorem run_ok (tx : Nat → Nat) : ∀ m i Q, okQ Q → (run tx m i Q).1 = 0 → okF (run tx m i Q).2.2
  | 0, i, Q, h, _ => h.1
  | m + 1, i, Q, h, h0 => by
    unfold run at h0 ⊢
    by_cases c : (stp Q (tx i)).1 = 0
    · rw [if_pos c] at h0 ⊢
      exact run_ok tx m (i + 1) _ (okQ_stp h _ c) h0
    · rw [if_neg c] at h0
      exact absurd h0 c
theorem run_le (tx : Nat → Nat) : ∀ m i Q, (run tx m i Q).1 ≤ 4 ∧ (run tx m i Q).2.1 ≤ i + m
  | 0, i, Q => by
    refine ⟨?_, Nat.le_refl _⟩
    show (if Q.pl = 1 ∨ Q.pl = 2 then 1 else 0) ≤ 4
    split <;> omega
  | m + 1, i, Q => by
    unfold run
    by_cases c : (stp Q (tx i)).1 = 0
    · rw [if_pos c]
      have := run_le tx m (i + 1) (stp Q (tx i)).2
      exact ⟨this.1, by omega⟩
    · rw [if_neg c]
      exact ⟨stp_le _ _, by show i ≤ i + (m + 1); omega⟩
theorem c_loop {tx : Nat → Nat} {tl g : Nat} (hg : 5000 < g) (ht : tl ≤ 80) (htx : ∀ j, j < tl → 32 ≤ tx j ∧ tx j ≤ 126) : ∀ (m i : Nat) (Q : QS) (M : Mem) (f : Nat), i + m = tl → m < f → okQ Q → cQ M Q → M 47 0 = nI tl → (∀ j, j < tl → M 48 j = nI (tx j)) →
    ∃ o, lpN f (bd_X6_readInto_21 g 53) (nI i, M) = some o ∧ ((∃ M', o = .inr (nI (run tx m i Q).2.1, M') ∧ (run tx m i Q).1 ≠ 0 ∧ M' 47 1 = nI (run tx m i Q).1 ∧ M' 47 0 = nI tl ∧ eqx LQ M M') ∨ (∃ M' Q', o = .inl M' ∧ (run tx m i Q) = run tx 0 tl Q' ∧ okQ Q' ∧ cQ M' Q' ∧ M' 47 0 = nI tl ∧ eqx LQ M M')) := by
  intro m
  induction m with
  | zero =>
    intro i Q M f hi hf hQ hc h0 hx
    obtain ⟨f, rfl⟩ : ∃ x, f = x + 1 := ⟨f - 1, by omega⟩
    have : i = tl := by omega
    subst this
    refine ⟨.inl M, lp_stop ?_ f, Or.inr ⟨M, Q, rfl, rfl, hQ, hc, h0, eqx_rf _ _⟩⟩
    simp only [bd_X6_readInto_21, u2]
    rw [h0, if_pos (Int32.le_refl _)]
  | succ m ih =>
    intro i Q M f hi hf hQ hc h0 hx
    obtain ⟨f, rfl⟩ : ∃ x, f = x + 1 := ⟨f - 1, by omega⟩
    obtain ⟨M1, a1, a2, a3, a4⟩ := c_sign hg hc hQ (htx i (by omega))
    have hs := stp_le Q (tx i)
    have body : bd_X6_readInto_21 g 53 (nI i, M) = if (stp Q (tx i)).1 = 0 then some (.inl (nI (i + 1), st M1 47 1 (nI (stp Q (tx i)).1))) else some (.inr (.inr (nI i, st M1 47 1 (nI (stp Q (tx i)).1)))) := by
      simp only [bd_X6_readInto_21, u2]
      rw [h0, if_neg (nI_ge (show i < tl by omega) (by omega)), if_neg (show ¬ (80 : Int32) ≤ nI i from nI_ge (b := 80) (by omega) (by decide)), if_pos (inb_nI (show i < 80 by omega) (by decide)), ix_nI (by omega), hx i (by omega), a1]
      simp only [Option.bind_some, bv, u2]
      rw [st_at, upd_at, inc]
      by_cases c : (stp Q (tx i)).1 = 0
      · rw [if_pos ((nI_z (by omega)).mpr c), if_pos c]
      · rw [if_neg (fun q => c ((nI_z (by omega)).mp q)), if_neg c]
    have e2 : eqx LQ M (st M1 47 1 (nI (stp Q (tx i)).1)) := eqx_st a2 (by decide) _ _
    have z0 : st M1 47 1 (nI (stp Q (tx i)).1) 47 0 = nI tl := by rw [st_at, upd_ne _ _ (by decide), a3]; exact h0
    by_cases c : (stp Q (tx i)).1 = 0
    · rw [if_pos c] at body
      have er : run tx (m + 1) i Q = run tx m (i + 1) (stp Q (tx i)).2 := by
        conv => lhs; unfold run
        rw [if_pos c]
      rw [er, lp_go body]
      obtain ⟨b1, b2, b3, b4, b5⟩ := a4 c
      obtain ⟨o, k1, k2⟩ := ih (i + 1) (stp Q (tx i)).2 (st M1 47 1 (nI (stp Q (tx i)).1)) f (by omega) (by omega) (okQ_stp hQ _ c) ⟨fC_eq b1 (st_ne _ _ _ (by decide)) (st_ne _ _ _ (by decide)) (st_ne _ _ _ (by decide)), by rw [st_at, upd_ne _ _ (by decide)]; exact b2, by rw [st_at, upd_ne _ _ (by decide)]; exact b3, by rw [st_at, upd_ne _ _ (by decide)]; exact b4, fun j hj => by rw [st_ne _ _ _ (by decide)]; exact b5 j hj⟩ z0 (fun j hj => by rw [e2 48 (by decide)]; exact hx j hj)
      refine ⟨o, k1, ?_⟩
      rcases k2 with ⟨M', q1, q2, q3, q4, q5⟩ | ⟨M', Q', q1, q2, q3, q4, q5, q6⟩
      · exact Or.inl ⟨M', q1, q2, q3, q4, eqx_tr e2 q5⟩
      · exact Or.inr ⟨M', Q', q1, q2, q3, q4, q5, eqx_tr e2 q6⟩
    · rw [if_neg c] at body
      have er : run tx (m + 1) i Q = ((stp Q (tx i)).1, i, Q.F) := by
        conv => lhs; unfold run
        rw [if_neg c]
      rw [er]
      exact ⟨_, lp_stop body f, Or.inl ⟨_, rfl, c, by rw [st_at, upd_at], z0, e2⟩⟩
theorem c_into {M : Mem} {tx : Nat → Nat} {tl g : Nat} (hg : 5000 < g) (ht : tl ≤ 80) (htx : ∀ j, j < tl → 32 ≤ tx j ∧ tx j ≤ 126) (h0 : M 47 0 = nI tl) (hx : ∀ j, j < tl → M 48 j = nI (tx j)) : ∃ M', fn_X6_readInto g 53 M = some (nI (run tx tl 0 Q0).2.1, M') ∧ eqx LQ M M' ∧ M' 47 0 = nI tl ∧ M' 47 1 = nI (run tx tl 0 Q0).1 ∧ ((run tx tl 0 Q0).1 = 0 → fC M' 53 (run tx tl 0 Q0).2.2) := by
  unfold fn_X6_readInto
  obtain ⟨M1, a1, a2, a3⟩ := c_empty (M := M) (k := 53) hg
  rw [a1]
  simp only [Option.bind_some, bv]
  obtain ⟨M2, hM2⟩ : ∃ z, z = st (st (st M1 47 4 0) 47 5 0) 47 6 0 := ⟨_, rfl⟩
  rw [← hM2]
  have e2 : eqx [47] M1 M2 := by rw [hM2]; exact eqx_st (eqx_st (eqx_st (eqx_rf _ _) (by decide) _ _) (by decide) _ _) (by decide) _ _
  have ee : eqx LQ M M2 := eqx_tr (eqx_mono a2 (by decide)) (eqx_mono e2 (by decide))
  have c2 : cQ M2 Q0 := by
    refine ⟨fC_eq a3 (e2 _ (by decide)) (e2 _ (by decide)) (e2 _ (by decide)), ?_, ?_, ?_, fun i hi => by have : i < 0 := hi; omega⟩
    · rw [hM2, st_at, upd_ne _ _ (by decide), st_at, upd_ne _ _ (by decide), st_at, upd_at]; rfl
    · rw [hM2, st_at, upd_ne _ _ (by decide), st_at, upd_at]; rfl
    · rw [hM2, st_at, upd_at]; rfl
  have z0 : M2 47 0 = nI tl := by rw [hM2, st_at, upd_ne _ _ (by decide), st_at, upd_ne _ _ (by decide), st_at, upd_ne _ _ (by decide), a2 47 (by decide)]; exact h0
  obtain ⟨o, k1, k2⟩ := c_loop hg ht htx tl 0 Q0 M2 g (by omega) (by omega) okQ_0 c2 z0 (fun j hj => by rw [ee 48 (by decide)]; exact hx j hj)
  rw [show ((0 : Int32), M2) = (nI 0, M2) from rfl, k1]
  simp only [Option.bind_some]
  rcases k2 with ⟨M', q1, q2, q3, q4, q5⟩ | ⟨M', Q', q1, q2, q3, q4, q5, q6⟩
  · subst q1
    exact ⟨M', rfl, eqx_tr ee q5, q4, q3, fun z => absurd z q2⟩
  · subst q1
    have hpl := q3.2.2.2.2.2.2.2.2.2
    simp only [el, u1]
    rw [q4.2.1, q2]
    have fin : ∀ k : Nat, k = (if Q'.pl = 1 ∨ Q'.pl = 2 then 1 else 0) → ∃ M'', jn_X6_readInto_87 (nI k) M' = some (nI (run tx 0 tl Q').2.1, M'') ∧ eqx LQ M M'' ∧ M'' 47 0 = nI tl ∧ M'' 47 1 = nI (run tx 0 tl Q').1 ∧ ((run tx 0 tl Q').1 = 0 → fC M'' 53 (run tx 0 tl Q').2.2) := by
      intro k hk
      unfold jn_X6_readInto_87
      simp only [bv]
      refine ⟨st M' 47 1 (nI k), ?_, eqx_st (eqx_tr ee q6) (by decide) _ _, ?_, ?_, fun _ => fC_eq q4.1 (st_ne _ _ _ (by decide)) (st_ne _ _ _ (by decide)) (st_ne _ _ _ (by decide))⟩
      · rw [st_at, upd_ne _ _ (by decide), q5]; rfl
      · rw [st_at, upd_ne _ _ (by decide), q5]
      · rw [st_at, upd_at, hk]; rfl
    by_cases c1 : Q'.pl = 1
    · rw [if_pos (show nI Q'.pl = (1 : Int32) from by rw [c1]; rfl)]
      exact fin 1 (by rw [if_pos (Or.inl c1)])
    · rw [if_neg (show ¬ nI Q'.pl = (1 : Int32) from fun q => c1 ((nI_eq (b := 1) (by omega) (by decide)).mp q))]
      by_cases c2 : Q'.pl = 2
      · rw [if_pos (show nI Q'.pl = (2 : Int32) from by rw [c2]; rfl)]
        exact fin 1 (by rw [if_pos (Or.inr c2)])
      · rw [if_neg (show ¬ nI Q'.pl = (2 : Int32) from fun q => c2 ((nI_eq (b := 2) (by omega) (by decide)).mp q))]
        exact fin 0 (by rw [if_neg (by omega)])
def aLod (S : ST) : Int32 := if (run S.tx S.tl 0 Q0).1 = 0 then nI (run S.tx S.tl 0 Q0).2.2.n else -10 - nI (run S.tx S.tl 0 Q0).2.1
def wfk (S : ST) (k : Int32) : ST := (S.F, S.h, S.hs, S.tl, S.tx, k)
def nLod (S : ST) : ST := if (run S.tx S.tl 0 Q0).1 = 0 then rcd (wfk S 0) (run S.tx S.tl 0 Q0).2.2 else wfk S (nI (run S.tx S.tl 0 Q0).1)
theorem JC_fk {M M' : Mem} {S : ST} {k : Int32} (h : JC M S) (e : ∀ a, a ≤ 48 → a ≠ 47 → M' a = M a) (e0 : M' 47 0 = M 47 0) (e1 : M' 47 1 = k) : JC M' (wfk S k) := by
  obtain ⟨h1, h2, h3, h4, h5, h6, h7⟩ := h
  refine ⟨h1, fC_eq h2 (e _ (by omega) (by omega)) (e _ (by omega) (by omega)) (e _ (by omega) (by omega)), ring_eq h3 (fun a x y => e a (by omega) (by omega)), ?_, ?_, ?_, ?_⟩
  · refine ⟨e0.trans h4.1, e1, ?_⟩
    rw [e 48 (by omega) (by omega)]; exact h4.2.2
  · rw [e 0 (by omega) (by omega)]
    rcases h5 with q | q
    · exact Or.inl q
    · exact Or.inr (MEi_eq q (fun a x y => e a (by omega) (by omega)))
  · rw [e 0 (by omega) (by omega)]
    rcases h6 with q | q
    · exact Or.inl q
    · exact Or.inr (cR_eq (F := S.F) q (fun a x y => e a (by omega) (by omega)))
  · rw [e 0 (by omega) (by omega)]
    rcases h7 with q | q
    · exact Or.inl q
    · exact Or.inr ⟨cR_eq (F := S.F) q.1 (fun a x y => e a (by omega) (by omega)), PLok_eq q.2 (fun a x y => e a (by omega) (by omega))⟩
theorem tc_lod {g : Nat} (hg : 5000 < g) : TC (fn_X7_load g) aLod nLod := by
  intro M S h
  unfold fn_X7_load aLod nLod
  obtain ⟨M1, a1, a2, a3, a4, a5⟩ := c_into (M := M) (tx := S.tx) (tl := S.tl) hg h.1.2.2.2.1 h.1.2.2.2.2 h.2.2.2.1.1 h.2.2.2.1.2.2
  have rl := run_le S.tx S.tl 0 Q0
  have rok := run_ok S.tx S.tl 0 Q0 okQ_0
  generalize run S.tx S.tl 0 Q0 = R at *
  rw [a1]
  simp only [Option.bind_some, u2]
  have j1 : JC M1 (wfk S (nI R.1)) := JC_fk h (fun a x y => a2 a (by simp [LQ]; omega)) (a3.trans h.2.2.2.1.1.symm) a4
  have hh := hiE_of a2 (by decide)
  rw [a4]
  by_cases c : R.1 = 0
  · rw [if_pos ((nI_z (by omega)).mpr c), if_pos c, if_pos c]
    rw [c] at j1
    obtain ⟨M2, b1, b2, b3⟩ := c_record j1.1.2.1 j1.2.2.1 j1.2.1
    rw [b1]
    simp only [Option.bind_some]
    obtain ⟨M3, d1, d2, d3⟩ := c_copy (k0 := 1) (k1 := 53) (by omega) (fC_eq (a5 c) (b2 _ (by decide)) (b2 _ (by decide)) (b2 _ (by decide)))
    rw [d1]
    simp only [Option.bind_some]
    obtain ⟨M4, g1, g2, g3, g4, g5⟩ := c_forget M3
    rw [g1]
    simp only [Option.bind_some]
    have jc := JC_chg j1 b2 b3 (fun a x y => d2 a (by simp; omega)) (rok c) d3 g2 g3 g4 g5
    rw [show M4 1 2 = nI R.2.2.n from jc.2.1.1]
    exact ⟨M4, rfl, jc, hiE_tr hh (hiE_tr (hiE_of b2 LR_lo) (hiE_tr (hiE_of d2 (by decide)) (hiE_of g2 (by decide))))⟩
  · rw [if_neg (fun q => c ((nI_z (by omega)).mp q)), if_neg c, if_neg c]
    exact ⟨M1, rfl, j1, hh⟩
