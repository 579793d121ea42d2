/-! ===== reading the text, sign by sign ===== -/
/-- place (0 start, 1 box due, 2 in box, 3 behind box), digits, piece, frame, box -/
abbrev QS : Type := Nat × Nat × Nat × FR × (Nat → Nat)
abbrev QS.pl (Q : QS) : Nat := Q.1
abbrev QS.dg (Q : QS) : Nat := Q.2.1
abbrev QS.pc (Q : QS) : Nat := Q.2.2.1
abbrev QS.F (Q : QS) : FR := Q.2.2.2.1
abbrev QS.v (Q : QS) : Nat → Nat := Q.2.2.2.2
def rgN (v : Nat → Nat) (i n : Nat) : Bool := if i < 3 then decide (n ≤ 5) else decide (1 ≤ n ∧ v (i - 3) + n ≤ 6)
def vst (v : Nat → Nat) (i n : Nat) : Nat → Nat := fun j => if j = i then n else v j
def stp (Q : QS) (c : Nat) : Nat × QS :=
  if c = 32 ∧ Q.pl ≠ 2 then (0, Q)
  else if Q.pl = 3 then
    (if c = 59 then (if Q.pc < 7 then (0, (1, Q.dg, Q.pc + 1, Q.F, Q.v)) else (4, Q))
     else if c = 43 ∧ Q.F.x Q.pc < 4 then (0, (1, Q.dg, Q.pc, Q.F, Q.v)) else (1, Q))
  else if 48 ≤ c ∧ c ≤ 57 then
    (if rgN Q.v Q.dg (c - 48) then
      (if Q.dg + 1 < 6 then (0, (2, Q.dg + 1, Q.pc, Q.F, vst Q.v Q.dg (c - 48)))
       else if mt Q.F.o (Q.pc + 1) (vst Q.v Q.dg (c - 48)) then (3, Q) else (0, (3, 0, Q.pc, adB Q.F Q.pc (vst Q.v Q.dg (c - 48)), vst Q.v Q.dg (c - 48))))
     else (2, Q))
  else (1, Q)
def rngs (v : Nat → Nat) (m : Nat) : Prop := ∀ i, i < m → (i < 3 → v i ≤ 5) ∧ (3 ≤ i → 1 ≤ v i ∧ v (i - 3) + v i ≤ 6)
def okQ (Q : QS) : Prop := okF Q.F ∧ Q.pc ≤ Q.F.n ∧ Q.F.n ≤ Q.pc + 1 ∧ Q.pc < 8 ∧ (Q.pl = 3 → Q.F.n = Q.pc + 1) ∧ (Q.pl ≠ 3 → Q.F.x Q.pc < 4) ∧ Q.dg < 6 ∧ (Q.pl ≠ 2 → Q.dg = 0) ∧ rngs Q.v Q.dg ∧ Q.pl ≤ 3
theorem rngs_st {v : Nat → Nat} {i n : Nat} (h : rngs v i) (hr : rgN v i n = true) : rngs (vst v i n) (i + 1) := by
  unfold rgN at hr
  intro j hj
  unfold vst
  by_cases e : j = i
  · subst e
    rw [if_pos rfl]
    refine ⟨fun h3 => ?_, fun h3 => ?_⟩
    · rw [if_pos h3] at hr; simpa using hr
    · rw [if_neg (by omega)] at hr
      rw [if_neg (by omega)]
      simpa using hr
  · rw [if_neg e]
    obtain ⟨a, b⟩ := h j (by omega)
    refine ⟨a, fun h3 => ?_⟩
    rw [if_neg (by omega)]
    exact b h3
theorem rngs_ok {v : Nat → Nat} (h : rngs v 6) : okB v := by
  intro i hi
  have a := (h i (by omega)).1 hi
  have b := (h (3 + i) (by omega)).2 (by omega)
  rw [show 3 + i - 3 = i by omega] at b
  exact ⟨a, b.1, b.2⟩
theorem okQ_stp {Q : QS} (h : okQ Q) (c : Nat) (h0 : (stp Q c).1 = 0) : okQ (stp Q c).2 := by
  obtain ⟨h1, h2, h3, h4, h5, h6, h7, h8, h9, h10⟩ := h
  unfold stp at h0 ⊢
  by_cases c1 : c = 32 ∧ Q.pl ≠ 2
  · rw [if_pos c1]; exact ⟨h1, h2, h3, h4, h5, h6, h7, h8, h9, h10⟩
  rw [if_neg c1] at h0 ⊢
  by_cases c2 : Q.pl = 3
  · rw [if_pos c2] at h0 ⊢
    have hn := h5 c2
    have hd : Q.dg = 0 := h8 (by omega)
    by_cases c3 : c = 59
    · rw [if_pos c3] at h0 ⊢
      by_cases c4 : Q.pc < 7
      · rw [if_pos c4]
        refine ⟨h1, by show Q.pc + 1 ≤ Q.F.n; omega, by show Q.F.n ≤ Q.pc + 1 + 1; omega, by show Q.pc + 1 < 8; omega, fun z => absurd z (by show ¬ (1 = 3); omega), fun _ => ?_, h7, fun _ => hd, h9, by show 1 ≤ 3; omega⟩
        have := (h1.2.2.1 (Q.pc + 1) (by omega)).2 (by omega)
        show Q.F.x (Q.pc + 1) < 4
        omega
      · rw [if_neg c4] at h0; exact absurd h0 (by show ¬ (4 = 0); omega)
    · rw [if_neg c3] at h0 ⊢
      by_cases c4 : c = 43 ∧ Q.F.x Q.pc < 4
      · rw [if_pos c4]
        exact ⟨h1, h2, h3, h4, fun z => absurd z (by show ¬ (1 = 3); omega), fun _ => c4.2, h7, fun _ => hd, h9, by show 1 ≤ 3; omega⟩
      · rw [if_neg c4] at h0; exact absurd h0 (by show ¬ (1 = 0); omega)
  · rw [if_neg c2] at h0 ⊢
    by_cases c3 : 48 ≤ c ∧ c ≤ 57
    · rw [if_pos c3] at h0 ⊢
      cases c4 : rgN Q.v Q.dg (c - 48)
      · rw [c4] at h0; exact absurd h0 (by show ¬ (2 = 0); omega)
      · rw [c4] at h0
        rw [if_pos rfl] at h0 ⊢
        have hr := rngs_st h9 c4
        by_cases c5 : Q.dg + 1 < 6
        · rw [if_pos c5]
          exact ⟨h1, h2, h3, h4, fun z => absurd z (by show ¬ (2 = 3); omega), fun _ => h6 c2, c5, fun z => absurd rfl z, hr, by show 2 ≤ 3; omega⟩
        · rw [if_neg c5] at h0 ⊢
          cases c6 : mt Q.F.o (Q.pc + 1) (vst Q.v Q.dg (c - 48))
          · rw [if_neg (by decide)]
            rw [show Q.dg + 1 = 6 by omega] at hr
            refine ⟨okF_ad h1 h2 h4 (h6 c2) (rngs_ok hr) c6, ?_, ?_, h4, fun _ => ?_, fun z => absurd rfl z, by show 0 < 6; omega, fun _ => rfl, fun i hi => by have : i < 0 := hi; omega, by show 3 ≤ 3; omega⟩
            · show Q.pc ≤ if Q.pc = Q.F.n then Q.F.n + 1 else Q.F.n
              split <;> omega
            · show (if Q.pc = Q.F.n then Q.F.n + 1 else Q.F.n) ≤ Q.pc + 1
              split <;> omega
            · show (if Q.pc = Q.F.n then Q.F.n + 1 else Q.F.n) = Q.pc + 1
              split <;> omega
          · rw [c6] at h0; exact absurd h0 (by show ¬ (3 = 0); omega)
    · rw [if_neg c3] at h0; exact absurd h0 (by show ¬ (1 = 0); omega)
theorem rng_rgN {v : Nat → Nat} {i n : Nat} (hn : n ≤ 9) (hv : 3 ≤ i → v (i - 3) ≤ 5) : rng v i (nI n) = rgN v i n := by
  unfold rng rgN
  by_cases c : i < 3
  · rw [if_pos c, if_pos c]
    congr 1
    apply propext
    constructor
    · intro h; exact (nI_leI (b := 5) (by omega) (by decide)).mp h.2
    · intro h; exact ⟨nI_nn (by omega), (nI_leI (b := 5) (by omega) (by decide)).mpr h⟩
  · rw [if_neg c, if_neg c]
    have := hv (by omega)
    congr 1
    apply propext
    constructor
    · intro h
      have a := (nI_leI (by omega) (by omega)).mp h.2
      have b : ¬ n < 1 := fun q => h.1 ((nI_ltI (b := 1) (by omega) (by decide)).mpr q)
      omega
    · intro h
      exact ⟨fun q => by have := (nI_ltI (b := 1) (by omega) (by decide)).mp q; omega, (nI_leI (by omega) (by omega)).mpr (by omega)⟩
def cQ (M : Mem) (Q : QS) : Prop := fC M 53 Q.F ∧ M 47 4 = nI Q.pl ∧ M 47 5 = nI Q.dg ∧ M 47 6 = nI Q.pc ∧ ∀ i, i < Q.dg → M 50 i = nI (Q.v i)
def LQ : List Nat := [47, 50, 53, 54, 55]
theorem bind_id2 {x : Option (Int32 × Mem)} : (x.bind (u2 fun r M => some (r, M))) = x := bind_id
theorem c_digit {M : Mem} {Q : QS} {c g : Nat} (hg : 5000 < g) (h : cQ M Q) (ok : okQ Q) (hc : 32 ≤ c ∧ c ≤ 126) (n1 : ¬ (c = 32 ∧ Q.pl ≠ 2)) (n3 : ¬ Q.pl = 3) : ∃ M', fn_X6_readDigit g (nI c) 53 M = some (nI (stp Q c).1, M') ∧ eqx LQ M M' ∧ M' 47 0 = M 47 0 ∧ ((stp Q c).1 = 0 → cQ M' (stp Q c).2) := by
  obtain ⟨h1, h2, h3, h4, h5⟩ := h
  obtain ⟨k1, k2, k3, k4, k5, k6, k7, k8, k9, k10⟩ := ok
  have n8 := k1.1
  unfold fn_X6_readDigit stp
  rw [if_neg n1, if_neg n3]
  by_cases c1 : c < 48
  · rw [if_pos (show nI c < (48 : Int32) from nI_lt (b := 48) c1 (by decide)), if_neg (by omega)]
    exact ⟨M, rfl, eqx_rf _ _, rfl, fun z => absurd z (by show ¬ (1 = 0); omega)⟩
  rw [if_neg (show ¬ nI c < (48 : Int32) from fun q => c1 ((nI_ltI (b := 48) (by omega) (by decide)).mp q))]
  by_cases c2 : c ≤ 57
  · rw [if_pos (show nI c ≤ (57 : Int32) from (nI_leI (b := 57) (by omega) (by decide)).mpr c2), if_pos (by omega), h3, show (nI c - 48 : Int32) = nI (c - 48) from nI_sub (b := 48) (by omega)]
    have hv3 : 3 ≤ Q.dg → Q.v (Q.dg - 3) ≤ 5 := fun z => (k9 (Q.dg - 3) (by omega)).1 (by omega)
    rw [c_take (k := 49) (v := Q.v) (nI (c - 48)) k7 (fun z => ⟨h5 (Q.dg - 3) (by omega), hv3 z⟩), rng_rgN (by omega) hv3]
    simp only [Option.bind_some]
    cases c3 : rgN Q.v Q.dg (c - 48)
    · simp only [Bool.false_eq_true, if_false, u2]
      rw [if_pos trivial]
      exact ⟨M, rfl, eqx_rf _ _, rfl, fun z => absurd z (by show ¬ (2 = 0); omega)⟩
    · simp only [if_true, u2, bv]
      rw [if_neg (by decide)]
      have hr := rngs_st k9 c3
      obtain ⟨M1, hM1⟩ : ∃ z, z = st M (49 + 1) Q.dg (nI (c - 48)) := ⟨_, rfl⟩
      rw [← hM1]
      have e1 : eqx [50] M M1 := by rw [hM1]; exact eqx_st (eqx_rf _ _) (by decide) _ _
      have m47 : M1 47 = M 47 := e1 _ (by decide)
      rw [m47, h3, inc]
      obtain ⟨M2, hM2⟩ : ∃ z, z = st (st M1 47 5 (nI (Q.dg + 1))) 47 4 2 := ⟨_, rfl⟩
      rw [← hM2]
      have e2 : eqx [47] M1 M2 := by rw [hM2]; exact eqx_st (eqx_st (eqx_rf _ _) (by decide) _ _) (by decide) _ _
      have p4 : M2 47 4 = nI 2 := by rw [hM2, st_at, upd_at]; rfl
      have p5 : M2 47 5 = nI (Q.dg + 1) := by rw [hM2, st_at, upd_ne _ _ (by decide), st_at, upd_at]
      have p6 : M2 47 6 = nI Q.pc := by rw [hM2, st_at, upd_ne _ _ (by decide), st_at, upd_ne _ _ (by decide), m47]; exact h4
      have p0 : M2 47 0 = M 47 0 := by rw [hM2, st_at, upd_ne _ _ (by decide), st_at, upd_ne _ _ (by decide), m47]
      have pv : ∀ i, i < Q.dg + 1 → M2 50 i = nI (vst Q.v Q.dg (c - 48) i) := by
        intro i hi
        rw [e2 50 (by decide), hM1, show 49 + 1 = 50 from rfl, st_at]
        unfold vst
        by_cases e : i = Q.dg
        · rw [e, upd_at, if_pos rfl]
        · rw [upd_ne _ _ e, if_neg e]; exact h5 i (by omega)
      have f2 : fC M2 53 Q.F := fC_eq h1 ((e2 _ (by decide)).trans (e1 _ (by decide))) ((e2 _ (by decide)).trans (e1 _ (by decide))) ((e2 _ (by decide)).trans (e1 _ (by decide)))
      have ee : eqx LQ M M2 := eqx_tr (eqx_mono e1 (by decide)) (eqx_mono e2 (by decide))
      rw [p5, p6]
      by_cases c4 : Q.dg + 1 < 6
      · rw [if_neg (show ¬ (6 : Int32) ≤ nI (Q.dg + 1) from nI_ge (b := 6) c4 (by decide)), if_pos c4]
        exact ⟨M2, rfl, ee, p0, fun _ => ⟨f2, p4, p5, p6, pv⟩⟩
      · have d6 : Q.dg + 1 = 6 := by omega
        rw [if_neg c4, if_pos (show (6 : Int32) ≤ nI (Q.dg + 1) by rw [d6]; decide)]
        rw [d6] at hr pv
        have hv := rngs_ok hr
        have hx : hX M2 49 (vst Q.v Q.dg (c - 48)) := pv
        rw [c_meets hg f2.2.2.2.2 (okF_o k1) hx hv (pcx_p (by omega))]
        simp only [Option.bind_some]
        cases c5 : mt Q.F.o (Q.pc + 1) (vst Q.v Q.dg (c - 48))
        · simp only [Bool.false_eq_true, if_false, if_true]
          obtain ⟨M3, d1, d2, d3⟩ := c_addBox (k0 := 53) (k1 := 49) hg (by omega) f2 n8 k2 k4 hx hv
          rw [d1]
          simp only [Option.bind_some]
          refine ⟨_, rfl, eqx_st (eqx_st (eqx_tr ee (eqx_mono d2 (by decide))) (by decide) _ _) (by decide) _ _, ?_, fun _ => ⟨fC_eq d3 ?_ ?_ ?_, ?_, ?_, ?_, fun i hi => by have : i < 0 := hi; omega⟩⟩
          · rw [st_at, upd_ne _ _ (by decide), st_at, upd_ne _ _ (by decide), d2 47 (by decide)]; exact p0
          · rw [st_ne _ _ _ (by decide), st_ne _ _ _ (by decide)]
          · rw [st_ne _ _ _ (by decide), st_ne _ _ _ (by decide)]
          · rw [st_ne _ _ _ (by decide), st_ne _ _ _ (by decide)]
          · rw [st_at, upd_at]; rfl
          · rw [st_at, upd_ne _ _ (by decide), st_at, upd_at]; rfl
          · rw [st_at, upd_ne _ _ (by decide), st_at, upd_ne _ _ (by decide), d2 47 (by decide)]; exact p6
        · simp only [if_true]
          rw [if_neg (by decide)]
          exact ⟨M2, rfl, ee, p0, fun z => absurd z (by show ¬ (3 = 0); omega)⟩
  · rw [if_neg (show ¬ nI c ≤ (57 : Int32) from fun q => c2 ((nI_leI (b := 57) (by omega) (by decide)).mp q)), if_neg (by omega)]
    exact ⟨M, rfl, eqx_rf _ _, rfl, fun z => absurd z (by show ¬ (1 = 0); omega)⟩
theorem c_sep {M : Mem} {Q : QS} {c : Nat} (h : cQ M Q) (ok : okQ Q) (hc : 32 ≤ c ∧ c ≤ 126) (n1 : ¬ (c = 32 ∧ Q.pl ≠ 2)) (n3 : Q.pl = 3) : ∃ M', fn_X6_readSeparator (nI c) 53 M = some (nI (stp Q c).1, M') ∧ eqx LQ M M' ∧ M' 47 0 = M 47 0 ∧ ((stp Q c).1 = 0 → cQ M' (stp Q c).2) := by
  obtain ⟨h1, h2, h3, h4, h5⟩ := h
  obtain ⟨k1, k2, k3, k4, k5, k6, k7, k8, k9, k10⟩ := ok
  have d0 : Q.dg = 0 := k8 (by omega)
  unfold fn_X6_readSeparator stp
  rw [if_neg n1, if_pos n3]
  by_cases c1 : c = 59
  · rw [if_pos (show nI c = (59 : Int32) from by rw [c1]; rfl), if_pos c1, bind_id2]
    unfold fn_X6_beginPiece
    rw [h4]
    by_cases c2 : Q.pc < 7
    · rw [if_pos (show nI Q.pc < (7 : Int32) from nI_lt (b := 7) c2 (by decide)), if_pos c2, inc]
      simp only [bv]
      refine ⟨_, rfl, eqx_st (eqx_st (eqx_rf _ _) (by decide) _ _) (by decide) _ _, ?_, fun _ => ⟨fC_eq h1 ?_ ?_ ?_, ?_, ?_, ?_, ?_⟩⟩
      · rw [st_at, upd_ne _ _ (by decide), st_at, upd_ne _ _ (by decide)]
      · rw [st_ne _ _ _ (by decide), st_ne _ _ _ (by decide)]
      · rw [st_ne _ _ _ (by decide), st_ne _ _ _ (by decide)]
      · rw [st_ne _ _ _ (by decide), st_ne _ _ _ (by decide)]
      · rw [st_at, upd_at]; rfl
      · rw [st_at, upd_ne _ _ (by decide), st_at, upd_ne _ _ (by decide)]; exact h3
      · rw [st_at, upd_ne _ _ (by decide), st_at, upd_at]
      · intro i hi; have : i < Q.dg := hi; omega
    · rw [if_neg (show ¬ nI Q.pc < (7 : Int32) from fun q => c2 ((nI_ltI (b := 7) (by omega) (by decide)).mp q)), if_neg c2]
      exact ⟨M, rfl, eqx_rf _ _, rfl, fun z => absurd z (by show ¬ (4 = 0); omega)⟩
  · have e43 : (nI c = (43 : Int32)) ↔ c = 43 := nI_eq (b := 43) (by omega) (by decide)
    have hx4 := (k1.2.2.1 Q.pc k4).1
    rw [if_neg (show ¬ nI c = (59 : Int32) from fun q => c1 ((nI_eq (b := 59) (by omega) (by decide)).mp q)), if_neg c1, h4, if_neg (show ¬ (8 : Int32) ≤ nI Q.pc from nI_ge (b := 8) k4 (by decide)), if_pos (inb_nI k4 (by decide)), ix_nI (by omega), h1.2.2.2.1 Q.pc k4]
    unfold jn_X6_readSeparator_33 jn_X6_readSeparator_38
    by_cases c2 : c = 43
    · rw [if_pos (e43.mpr c2), if_pos (e43.mpr c2)]
      by_cases c3 : Q.F.x Q.pc < 4
      · rw [if_pos (show nI (Q.F.x Q.pc) < (4 : Int32) from nI_lt (b := 4) c3 (by decide)), if_pos rfl, if_pos ⟨c2, c3⟩]
        simp only [bv]
        refine ⟨_, rfl, eqx_st (eqx_rf _ _) (by decide) _ _, ?_, fun _ => ⟨fC_eq h1 ?_ ?_ ?_, ?_, ?_, ?_, ?_⟩⟩
        · rw [st_at, upd_ne _ _ (by decide)]
        · rw [st_ne _ _ _ (by decide)]
        · rw [st_ne _ _ _ (by decide)]
        · rw [st_ne _ _ _ (by decide)]
        · rw [st_at, upd_at]; rfl
        · rw [st_at, upd_ne _ _ (by decide)]; exact h3
        · rw [st_at, upd_ne _ _ (by decide)]; exact h4
        · intro i hi; have : i < Q.dg := hi; omega
      · rw [if_neg (show ¬ nI (Q.F.x Q.pc) < (4 : Int32) from fun q => c3 ((nI_ltI (b := 4) (by omega) (by decide)).mp q)), if_neg (by decide), if_neg (fun z => c3 z.2)]
        exact ⟨M, rfl, eqx_rf _ _, rfl, fun z => absurd z (by show ¬ (1 = 0); omega)⟩
    · rw [if_neg (fun q => c2 (e43.mp q)), if_neg (fun q => c2 (e43.mp q)), if_neg (show ¬ (c = 43 ∧ Q.F.x Q.pc < 4) from fun z => c2 z.1)]
      refine ⟨M, ?_, eqx_rf _ _, rfl, fun z => absurd z (by show ¬ (1 = 0); omega)⟩
      split <;> rfl
theorem c_sign {M : Mem} {Q : QS} {c g : Nat} (hg : 5000 < g) (h : cQ M Q) (ok : okQ Q) (hc : 32 ≤ c ∧ c ≤ 126) : ∃ M', fn_X6_readSign g (nI c) 53 M = some (nI (stp Q c).1, M') ∧ eqx LQ M M' ∧ M' 47 0 = M 47 0 ∧ ((stp Q c).1 = 0 → cQ M' (stp Q c).2) := by
  have e32 : (nI c = (32 : Int32)) ↔ c = 32 := nI_eq (b := 32) (by omega) (by decide)
  have hpl := ok.2.2.2.2.2.2.2.2.2
  have e2 : (nI Q.pl = (2 : Int32)) ↔ Q.pl = 2 := nI_eq (b := 2) (by omega) (by decide)
  have e3 : (nI Q.pl = (3 : Int32)) ↔ Q.pl = 3 := nI_eq (b := 3) (by omega) (by decide)
  by_cases c1 : c = 32 ∧ Q.pl ≠ 2
  · unfold fn_X6_readSign
    rw [if_pos (e32.mpr c1.1), h.2.1, if_neg (fun q => c1.2 (e2.mp q))]
    have : stp Q c = (0, Q) := by unfold stp; rw [if_pos c1]
    rw [this]
    exact ⟨M, rfl, eqx_rf _ _, rfl, fun _ => h⟩
  · have hj : fn_X6_readSign g (nI c) 53 M = jn_X6_readSign_16 g 53 (nI c) M := by
      unfold fn_X6_readSign
      by_cases c2 : c = 32
      · rw [if_pos (e32.mpr c2), h.2.1, if_pos (e2.mpr (Classical.byContradiction (fun q => c1 ⟨c2, q⟩)))]
      · rw [if_neg (fun q => c2 (e32.mp q))]
    rw [hj]
    unfold jn_X6_readSign_16
    rw [h.2.1, bind_id2, bind_id2]
    by_cases c3 : Q.pl = 3
    · rw [if_pos (e3.mpr c3)]
      exact c_sep h ok hc c1 c3
    · rw [if_neg (fun q => c3 (e3.mp q))]
      exact c_digit hg h ok hc c1 c3
