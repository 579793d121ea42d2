/-! ===== the reference loads ===== -/
def okR (M M' : Mem) : Prop := eqx [61, 62] M M' ∧ (∀ j, j ≠ 10 → j ≠ 11 → M' 61 j = M 61 j) ∧ (∀ j, 227 ≤ j → M' 62 j = M 62 j)
theorem okR_rf (M : Mem) : okR M M := ⟨eqx_rf _ _, fun _ _ _ => rfl, fun _ _ => rfl⟩
theorem okR_tr {M M1 M2 : Mem} (h : okR M M1) (k : okR M1 M2) : okR M M2 := ⟨eqx_tr h.1 k.1, fun j a b => (k.2.1 j a b).trans (h.2.1 j a b), fun j a => (k.2.2 j a).trans (h.2.2 j a)⟩
theorem okR_fl (M : Mem) (k p : Int32) : okR M (st (st M 61 10 k) 61 11 p) := ⟨eqx_st (eqx_st (eqx_rf _ _) (by decide) _ _) (by decide) _ _, fun j a b => by rw [st_at, upd_ne _ _ b, st_at, upd_ne _ _ a], fun j _ => by rw [st_ne _ _ _ (by decide), st_ne _ _ _ (by decide)]⟩
theorem okR_n (M : Mem) (v : Int32) : okR M (st M 62 0 v) := ⟨eqx_st (eqx_rf _ _) (by decide) _ _, fun j _ _ => by rw [st_ne _ _ _ (by decide)], fun j hj => by rw [st_at, upd_ne _ _ (by omega)]⟩
theorem okR_tM {M M' : Mem} {tl : Nat} {tx : Nat → Nat} (h : tM M tl tx) (k : okR M M') : tM M' tl tx := ⟨by rw [k.2.1 9 (by decide) (by decide)]; exact h.1, fun j hj => by rw [k.1 69 (by decide)]; exact h.2 j hj⟩
theorem fM_setn {M : Mem} {F : FR} {m : Nat} (h : fM M 0 F) : fM (st M 62 0 (nI m)) 0 (m, F.b, F.s, F.x, F.o) := by
  refine fM_mk ?_ ?_ ?_ ?_ ?_
  · rw [st_at, upd_at]
  · rw [st_at, upd_ne _ _ (by omega)]; exact fM_b (F := F) h
  · rw [st_at, upd_ne _ _ (by omega)]; exact fM_s (F := F) h
  · intro j hj; rw [st_at, upd_ne _ _ (by omega)]; exact fM_x (F := F) h hj
  · intro c hc; rw [st_at, upd_ne _ _ (by omega)]; exact fM_o (F := F) h c hc
/-- behind a box, no fault yet -/
def gS (tx : Nat → Nat) (tl : Nat) (R : Nat × Nat × FR) (i : Nat) (M' : Mem) : Prop := ∃ Q' : QS, okQ Q' ∧ Q'.pl = 3 ∧ (i < tl → ¬ tx i = 32) ∧ R = run tx (tl - i) i Q' ∧ M' 61 10 = 0 ∧ fM M' 0 Q'.F
/-- a fault -/
def bS (R : Nat × Nat × FR) (M' : Mem) : Prop := R.1 ≠ 0 ∧ M' 61 10 = nI R.1 ∧ M' 61 11 = nI R.2.1
theorem bS_fl {R : Nat × Nat × FR} {k p : Nat} (M : Mem) (h1 : R.1 = k) (h2 : R.2.1 = p) (h0 : k ≠ 0) : bS R (st (st M 61 10 (nI k)) 61 11 (nI p)) := ⟨by rw [h1]; exact h0, by rw [st_at, upd_ne _ _ (by decide), st_at, upd_at, h1], by rw [st_at, upd_at, h2]⟩
theorem m_readsBox {M : Mem} {tx : Nat → Nat} {tl fr g : Nat} {Q : QS} (hg : 5000 < g) (ht : tl ≤ 80) (htx : ∀ j, j < tl → 32 ≤ tx j ∧ tx j ≤ 126) (h : tM M tl tx) (hf : fr ≤ tl) (hs : fr < tl → ¬ tx fr = 32) (hQ : okQ Q) (hp : Q.pl = 0 ∨ Q.pl = 1) (h0 : Q.pl = 0 → fr < tl) (h10 : M 61 10 = 0) (hF : fM M 0 (gF Q.F Q.pc)) :
    ∃ i M', fn_X8_readsBox g (nI Q.pc) (nI fr) M = some (nI i, M') ∧ okR M M' ∧ fr ≤ i ∧ i ≤ tl ∧ ((bS (run tx (tl - fr) fr Q) M' ∧ i = tl) ∨ gS tx tl (run tx (tl - fr) fr Q) i M') := by
  unfold fn_X8_readsBox
  obtain ⟨r, l1, l2⟩ := m_boxloop (g := g) hg ht htx h hf hs hQ hp h0
  rw [l1]
  simp only [Option.bind_some]
  obtain ⟨u1', u2', u3', u4', u5', u6', u7', u8', u9', u10'⟩ := hQ
  rcases l2 with ⟨rfl, hB⟩ | ⟨k, p, rfl, k1, k2, k3⟩
  · obtain ⟨Qk, q1, q2, q3, q4, q5, q6, q7, q8, q9, q10⟩ := hB
    have qk := q1
    obtain ⟨o1, o2, o3, o4, o5, o6, o7, o8, o9, o10⟩ := q1
    have dg5 := q8 5 (by omega)
    obtain ⟨vq, hvq⟩ : ∃ z, z = vst Qk.v 5 (tx (fr + 5) - 48) := ⟨_, rfl⟩
    have hvj : ∀ j, j < 6 → vq j = tx (fr + j) - 48 := by
      intro j hj
      rw [hvq]
      unfold vst
      by_cases e : j = 5
      · rw [if_pos e, e]
      · rw [if_neg e]; exact q7 j (by omega)
    have dd : ∀ j, j < 6 → fn_X8_digit (nI (fr + j)) M = some (nI (vq j)) := fun j hj => by
      rw [hvj j hj]
      exact (m_digit ht htx h (by have := (q8 j hj).1; omega)).1 (q8 j hj)
    have o9' : rngs Qk.v 5 := by rw [q2] at o9; exact o9
    have hr : rngs vq 6 := by rw [hvq]; exact rngs_st o9' q9
    have hv := rngs_ok hr
    have hst : stp Qk (tx (fr + 5)) = if mt Q.F.o (Q.pc + 1) vq then (3, Qk) else (0, (3, 0, Q.pc, adB Q.F Q.pc vq, vq)) := by
      have hb := dg5.2
      have n1 : ¬ (tx (fr + 5) = 32 ∧ Qk.pl ≠ 2) := fun z => by omega
      unfold stp
      rw [if_neg n1, if_neg q5, if_pos hb, q2, q9, if_pos rfl, if_neg (by omega), ← hvq, q3, q4]
    simp only [el, u1]
    rw [show fn_X8_digit (nI fr) M = some (nI (vq 0)) from dd 0 (by omega), show (nI fr + (1 : Int32)) = nI (fr + 1) from nI_add fr 1, show (nI fr + (2 : Int32)) = nI (fr + 2) from nI_add fr 2, show (nI fr + (3 : Int32)) = nI (fr + 3) from nI_add fr 3, show (nI fr + (4 : Int32)) = nI (fr + 4) from nI_add fr 4, show (nI fr + (5 : Int32)) = nI (fr + 5) from nI_add fr 5, show (nI fr + (6 : Int32)) = nI (fr + 6) from nI_add fr 6, dd 1 (by omega), dd 2 (by omega), dd 3 (by omega), dd 4 (by omega), dd 5 (by omega)]
    simp only [Option.bind_some]
    rw [m_meets (o := Q.F.o) hg (show hP M Q.F.o from fM_o (F := gF Q.F Q.pc) hF) (okF_o u1') hv (pcx_p (by omega))]
    simp only [Option.bind_some]
    cases cm : mt Q.F.o (Q.pc + 1) vq
    · simp only [Bool.false_eq_true, if_false, if_true]
      rw [cm] at hst
      simp only [Bool.false_eq_true, if_false] at hst
      obtain ⟨M3, b1, b2, b3, b4⟩ := m_fills (p := Q.pc) hg hF (by omega) hv
      rw [b1]
      simp only [Option.bind_some]
      have okr : okR M M3 := ⟨eqx_mono b2 (by decide), fun j _ _ => by rw [b2 61 (by decide)], b4⟩
      have h5 := dg5.1
      rw [m_spaced hg ht htx (okR_tM h okr) (show fr + 6 ≤ tl by omega)]
      simp only [Option.bind_some]
      obtain ⟨s1, s2, s3, s4⟩ := sp_all (tx := tx) (tl := tl) (tl - (fr + 6)) (fr + 6) (by omega)
      refine ⟨sp tx tl (fr + 6), M3, rfl, okr, by omega, s2, Or.inr ⟨(3, 0, Q.pc, adB Q.F Q.pc vq, vq), ?_, rfl, s3, ?_, ?_, ?_⟩⟩
      · have := okQ_stp qk (tx (fr + 5)) (by rw [hst])
        rw [hst] at this
        exact this
      · rw [q10, run_c h5, hst, if_pos rfl]
        exact s4 _ (by show 3 ≠ 2; omega)
      · rw [b2 61 (by decide)]; exact h10
      · have eF : adB Q.F Q.pc vq = (Q.pc + 1, Q.F.b, Q.F.s, (fun j => if j = Q.pc then Q.F.x j + 1 else Q.F.x j), adO Q.F.o (Q.pc + 1) vq) := by
          unfold adB
          rw [show (if Q.pc = Q.F.n then Q.F.n + 1 else Q.F.n) = Q.pc + 1 by split <;> omega]
        show fM M3 0 (adB Q.F Q.pc vq)
        rw [eF]
        exact b3
    · simp only [if_true]
      rw [cm] at hst
      simp only [if_true] at hst
      rw [if_neg (by decide), m_fails h.1]
      simp only [Option.bind_some, u2]
      have er : run tx (tl - fr) fr Q = (3, fr + 5, Qk.F) := by
        rw [q10, run_c dg5.1, hst, if_neg (by show ¬ (3 = 0); omega)]
      exact ⟨tl, _, rfl, okR_fl _ _ _, hf, Nat.le_refl _, Or.inl ⟨bS_fl (k := 3) (p := fr + 5) M (by rw [er]) (by rw [er]) (by omega), rfl⟩⟩
  · simp only [el]
    exact ⟨tl, _, rfl, okR_fl _ _ _, hf, Nat.le_refl _, Or.inl ⟨bS_fl M k2.symm k3.symm k1, rfl⟩⟩
theorem m_readloop {M : Mem} {tx : Nat → Nat} {tl g : Nat} {R : Nat × Nat × FR} (hg : 5000 < g) (ht : tl ≤ 80) (htx : ∀ j, j < tl → 32 ≤ tx j ∧ tx j ≤ 126) (h : tM M tl tx) (hR : R.1 ≤ 4) {i : Nat} (hi : i ≤ tl) (h5 : bS R M ∨ gS tx tl R i M) : ∃ M', lpN g (bd_X8_reads_34 g) (nI i, M) = some M' ∧ (okR M M' ∧ M' 61 10 = nI R.1 ∧ (R.1 ≠ 0 → M' 61 11 = nI R.2.1) ∧ (R.1 = 0 → fM M' 0 R.2.2)) := by
  refine lp_meas (fun s : Int32 × Mem => okR M s.2 ∧ ∃ i, i ≤ tl ∧ s.1 = nI i ∧ (bS R s.2 ∨ gS tx tl R i s.2)) _ (fun s => 2 * (tl - ix s.1) + (if s.2 61 10 = 0 then 1 else 0)) ?_ g (nI i, M) ?_ ⟨okR_rf _, i, hi, rfl, h5⟩
  · rintro ⟨a, N⟩ ⟨k, i, hi, ha, hd⟩
    dsimp only at k ha hd
    subst ha
    have t := okR_tM h k
    rcases hd with ⟨b1, b2, b3⟩ | ⟨Q', g1, g2, g3, g4, g5, g6⟩
    · refine Or.inr ⟨N, ?_, k, b2, fun _ => b3, fun q => absurd q b1⟩
      simp only [bd_X8_reads_34, u2]
      rw [t.1]
      by_cases c : nI tl ≤ nI i
      · rw [if_pos c]
      · rw [if_neg c, if_neg (fun q => b1 ((nI_z (by omega)).mp (b2.symm.trans q)))]
    · by_cases c : i = tl
      · have er : R = (0, tl, Q'.F) := by
          rw [g4, c, Nat.sub_self]
          show (if Q'.pl = 1 ∨ Q'.pl = 2 then 1 else 0, tl, Q'.F) = _
          rw [if_neg (by omega)]
        refine Or.inr ⟨N, ?_, k, by rw [er]; exact g5, fun q => absurd (by rw [er]) q, fun _ => by rw [er]; exact g6⟩
        simp only [bd_X8_reads_34, u2]
        rw [t.1, c, if_pos (Int32.le_refl _)]
      · left
        have il : i < tl := by omega
        have hb := htx i il
        have c32 := g3 il
        have gq := g1
        obtain ⟨o1, o2, o3, o4, o5, o6, o7, o8, o9, o10⟩ := g1
        have hn := o5 g2
        have hx4 := (o1.2.2.1 Q'.pc o4).1
        have n1 : ¬ (tx i = 32 ∧ Q'.pl ≠ 2) := fun z => c32 z.1
        have m1 : (if N 61 10 = 0 then 1 else 0) = 1 := if_pos g5
        have go : ∀ (N' : Mem) (Q1 : QS), okR N N' → N' 61 10 = 0 → stp Q' (tx i) = (0, Q1) → Q1.pl = 1 → fM N' 0 (gF Q1.F Q1.pc) → ∃ s' : Int32 × Mem, ((fn_X8_spaced g (nI i + 1) N').bind fun r => (fn_X8_readsBox g (nI Q1.pc) r N').bind (u2 fun a b => (some (.inl (a, b)) : Option ((Int32 × Mem) ⊕ Mem)))) = some (.inl s') ∧ (okR M s'.2 ∧ ∃ i, i ≤ tl ∧ s'.1 = nI i ∧ (bS R s'.2 ∨ gS tx tl R i s'.2)) ∧ 2 * (tl - ix s'.1) + (if s'.2 61 10 = 0 then 1 else 0) < 2 * (tl - ix (nI i)) + (if N 61 10 = 0 then 1 else 0) := by
          intro N' Q1 w1 w2 w3 w4 w5
          have t' := okR_tM t w1
          have ok1 := okQ_stp gq (tx i) (by rw [w3])
          rw [w3] at ok1
          obtain ⟨s1, s2, s3, s4⟩ := sp_all (tx := tx) (tl := tl) (tl - (i + 1)) (i + 1) (by omega)
          have s4 := s4 Q1 (by omega)
          have er : R = run tx (tl - sp tx tl (i + 1)) (sp tx tl (i + 1)) Q1 := by
            rw [g4, run_c il, w3, if_pos rfl]
            exact s4
          rw [inc, m_spaced hg ht htx t' (by omega)]
          simp only [Option.bind_some]
          obtain ⟨i2, M2, z1, z2, z3, z4, z5⟩ := m_readsBox (Q := Q1) (fr := sp tx tl (i + 1)) hg ht htx t' s2 s3 ok1 (Or.inr w4) (fun q => by omega) w2 w5
          rw [z1]
          simp only [Option.bind_some, u2]
          rw [← er] at z5
          refine ⟨(nI i2, M2), rfl, ⟨okR_tr k (okR_tr w1 z2), i2, z4, rfl, ?_⟩, ?_⟩
          · rcases z5 with z5 | z5
            · exact Or.inl z5.1
            · exact Or.inr z5
          · dsimp only
            rw [m1, ix_nI (show i2 < 2 ^ 31 by omega), ix_nI (show i < 2 ^ 31 by omega)]
            have : (if M2 61 10 = 0 then 1 else 0) ≤ 1 := by split <;> omega
            omega
        have fl : ∀ kk : Nat, stp Q' (tx i) = (kk, Q') → kk ≠ 0 → kk < 2 ^ 31 → ∃ s' : Int32 × Mem, ((fn_X8_fails (nI kk) (nI i) N).bind (u2 fun _ b => (some (.inl (nI i, b)) : Option ((Int32 × Mem) ⊕ Mem)))) = some (.inl s') ∧ (okR M s'.2 ∧ ∃ i, i ≤ tl ∧ s'.1 = nI i ∧ (bS R s'.2 ∨ gS tx tl R i s'.2)) ∧ 2 * (tl - ix s'.1) + (if s'.2 61 10 = 0 then 1 else 0) < 2 * (tl - ix (nI i)) + (if N 61 10 = 0 then 1 else 0) := by
          intro kk w1 w2 w3
          have er : R = (kk, i, Q'.F) := by
            rw [g4, run_c il, w1, if_neg w2]
          rw [m_fails t.1]
          simp only [Option.bind_some, u2]
          refine ⟨_, rfl, ⟨okR_tr k (okR_fl _ _ _), i, hi, rfl, Or.inl (bS_fl N (by rw [er]) (by rw [er]) w2)⟩, ?_⟩
          dsimp only
          rw [m1, if_neg ?_]
          · omega
          · rw [st_at, upd_ne _ _ (by decide), st_at, upd_at]
            exact fun q => w2 ((nI_z w3).mp q)
        have hst : stp Q' (tx i) = if tx i = 59 then (if Q'.pc < 7 then (0, (1, Q'.dg, Q'.pc + 1, Q'.F, Q'.v)) else (4, Q')) else if tx i = 43 ∧ Q'.F.x Q'.pc < 4 then (0, (1, Q'.dg, Q'.pc, Q'.F, Q'.v)) else (1, Q') := by
          unfold stp
          rw [if_neg n1, if_pos g2]
        have e0 : ix (0 : Int32) = 0 := rfl
        have iN : inb (nI i) 80 := inb_nI (show i < 80 by omega) (by decide)
        have iX : ix (nI i) = i := ix_nI (by omega)
        simp only [bd_X8_reads_34, u2, bv]
        rw [t.1, if_neg (nI_ge il (by omega)), if_pos g5, e0, fM_n g6, hn, show nI (Q'.pc + 1) - 1 = nI Q'.pc from nI_pred _, if_pos iN]
        have jn : ¬ (tx i = 43 ∧ Q'.F.x Q'.pc < 4) → ∃ s' : Int32 × Mem, jn_X8_reads_97 g (nI i) (nI Q'.pc) N = some (.inl s') ∧ (okR M s'.2 ∧ ∃ i, i ≤ tl ∧ s'.1 = nI i ∧ (bS R s'.2 ∨ gS tx tl R i s'.2)) ∧ 2 * (tl - ix s'.1) + (if s'.2 61 10 = 0 then 1 else 0) < 2 * (tl - ix (nI i)) + (if N 61 10 = 0 then 1 else 0) := by
          intro nj
          unfold jn_X8_reads_97
          simp only [bv]
          rw [if_pos iN, e0, fM_n g6, hn]
          rw [show N 69 (ix (nI i)) = nI (tx i) from by rw [iX]; exact t.2 i il]
          by_cases c59 : tx i = 59
          · rw [if_pos c59] at hst
            rw [if_pos (show nI (tx i) = (59 : Int32) from by rw [c59]; rfl)]
            by_cases c7 : Q'.pc < 7
            · rw [if_pos c7] at hst
              rw [if_neg (show ¬ nI (Q'.pc + 1) = (8 : Int32) from fun q => by have := (nI_eq (b := 8) (by omega) (by decide)).mp q; omega), inc (Q'.pc + 1), inc Q'.pc]
              exact go (st N 62 0 (nI (Q'.pc + 1 + 1))) (1, Q'.dg, Q'.pc + 1, Q'.F, Q'.v) (okR_n _ _) (by rw [st_ne _ _ _ (by decide)]; exact g5) hst rfl (fM_setn g6)
            · rw [if_neg c7] at hst
              rw [if_pos (show nI (Q'.pc + 1) = (8 : Int32) from by rw [show Q'.pc + 1 = 8 by omega]; rfl)]
              exact fl 4 hst (by omega) (by omega)
          · rw [if_neg c59, if_neg nj] at hst
            rw [if_neg (show ¬ nI (tx i) = (59 : Int32) from fun q => c59 ((nI_eq (b := 59) (by omega) (by decide)).mp q))]
            exact fl 1 hst (by omega) (by omega)
        rw [show N 69 (ix (nI i)) = nI (tx i) from by rw [iX]; exact t.2 i il]
        by_cases c43 : tx i = 43
        · rw [if_pos (show nI (tx i) = (43 : Int32) from by rw [c43]; rfl), show (3 : Int32) + nI Q'.pc = nI (3 + Q'.pc) from nI_add 3 _, if_pos (inb_nI (show 3 + Q'.pc < 2270 by omega) (by decide)), ix_nI (show 3 + Q'.pc < 2 ^ 31 by omega), fM_x g6 o4]
          by_cases x4 : Q'.F.x Q'.pc < 4
          · rw [if_neg (show ¬ (4 : Int32) ≤ nI (Q'.F.x Q'.pc) from nI_ge (b := 4) x4 (by decide))]
            rw [if_neg (by omega), if_pos ⟨c43, x4⟩] at hst
            refine go N (1, Q'.dg, Q'.pc, Q'.F, Q'.v) (okR_rf _) g5 hst rfl ?_
            have : gF Q'.F Q'.pc = Q'.F := by unfold gF; rw [← hn]
            show fM N 0 (gF Q'.F Q'.pc)
            rw [this]
            exact g6
          · rw [if_pos (show (4 : Int32) ≤ nI (Q'.F.x Q'.pc) from (nI_leI (a := 4) (by decide) (by omega)).mpr (by omega))]
            exact jn (fun z => x4 z.2)
        · rw [if_neg (show ¬ nI (tx i) = (43 : Int32) from fun q => c43 ((nI_eq (b := 43) (by omega) (by decide)).mp q))]
          exact jn (fun z => c43 z.1)
  · dsimp only
    have : (if M 61 10 = 0 then 1 else 0) ≤ 1 := by split <;> omega
    omega
theorem m_reads {M : Mem} {tx : Nat → Nat} {tl g : Nat} (hg : 5000 < g) (ht : tl ≤ 80) (htx : ∀ j, j < tl → 32 ≤ tx j ∧ tx j ≤ 126) (h : tM M tl tx) (hF : fM M 0 fZ) : ∃ M', fn_X8_reads g M = some M' ∧ okR M M' ∧ M' 61 10 = nI (run tx tl 0 Q0).1 ∧ ((run tx tl 0 Q0).1 ≠ 0 → M' 61 11 = nI (run tx tl 0 Q0).2.1) ∧ ((run tx tl 0 Q0).1 = 0 → fM M' 0 (run tx tl 0 Q0).2.2) := by
  unfold fn_X8_reads
  simp only [bv]
  obtain ⟨M1, hM1⟩ : ∃ z, z = st M 61 10 0 := ⟨_, rfl⟩
  rw [← hM1]
  have k1 : okR M M1 := by rw [hM1]; exact ⟨eqx_st (eqx_rf _ _) (by decide) _ _, fun j a b => by rw [st_at, upd_ne _ _ a], fun j _ => by rw [st_ne _ _ _ (by decide)]⟩
  have t1 := okR_tM h k1
  have z1 : M1 61 10 = 0 := by rw [hM1, st_at, upd_at]
  have f1 : fM M1 0 fZ := fM_eq hF (by rw [hM1, st_ne _ _ _ (by decide)])
  obtain ⟨s1, s2, s3, s4⟩ := sp_all (tx := tx) (tl := tl) tl 0 (by omega)
  have s4 := s4 Q0 (by show 0 ≠ 2; omega)
  rw [Nat.sub_zero] at s4
  have e0 : ix (0 : Int32) = 0 := rfl
  rw [show fn_X8_spaced g (0 : Int32) M1 = some (nI (sp tx tl 0)) from m_spaced (i := 0) hg ht htx t1 (Nat.zero_le _), t1.1, e0]
  simp only [Option.bind_some]
  by_cases c : sp tx tl 0 = tl
  · rw [if_pos (by rw [c])]
    have er : run tx tl 0 Q0 = (0, tl, fZ) := by
      rw [s4, c, Nat.sub_self]; rfl
    rw [er]
    exact ⟨M1, rfl, k1, z1, fun q => absurd rfl q, fun _ => f1⟩
  · rw [if_neg (fun q => c ((nI_eq (by omega) (by omega)).mp q))]
    obtain ⟨i, M6, b1, b2, b3, b4, b5⟩ := m_readsBox (M := st M1 62 0 1) (Q := Q0) (fr := sp tx tl 0) hg ht htx (okR_tM t1 (okR_n _ _)) s2 s3 okQ_0 (Or.inl rfl) (fun _ => by omega) (by rw [st_ne _ _ _ (by decide)]; exact z1) (fM_setn (m := 1) f1)
    rw [show fn_X8_readsBox g (0 : Int32) (nI (sp tx tl 0)) (st M1 62 0 1) = _ from b1]
    simp only [Option.bind_some, u2]
    rw [← s4] at b5
    have k6 : okR M M6 := okR_tr k1 (okR_tr (okR_n _ _) b2)
    obtain ⟨M', l1, l2, l3, l4, l5⟩ := m_readloop (R := run tx tl 0 Q0) hg ht htx (okR_tM h k6) (run_le tx tl 0 Q0).1 b4 (by rcases b5 with z | z; exact Or.inl z.1; exact Or.inr z)
    rw [l1]
    exact ⟨M', rfl, okR_tr k6 l2, l3, l4, l5⟩
theorem m_swap {M : Mem} {A B : FR} {g : Nat} (hg : 5000 < g) (h0 : fM M 0 A) (h9 : fM M 9 B) : ∃ M', lpN g bd_X8_load_39 ((0 : Int32), M) = some M' ∧ (eqx [62] M M' ∧ fM M' 0 B ∧ fM M' 9 A ∧ (∀ j, 227 ≤ j → j < 2043 → M' 62 j = M 62 j)) := by
  refine lp_inv (fun i w => w.1 = nI i ∧ eqx [62] M w.2 ∧ (∀ k, k < i → w.2 62 k = M 62 (2043 + k) ∧ w.2 62 (2043 + k) = M 62 k) ∧ (∀ j, ((i ≤ j ∧ j < 2043) ∨ 2043 + i ≤ j) → w.2 62 j = M 62 j)) _ 227 ?_ ?_ (by omega) ⟨rfl, eqx_rf _ _, fun k hk => by omega, fun j _ => rfl⟩
  · rintro i ⟨v, N⟩ hi ⟨q1, q2, q3, q4⟩
    dsimp only at q1 q2 q3 q4
    subst q1
    simp only [bd_X8_load_39, u2, bv]
    rw [if_neg (show ¬ (227 : Int32) ≤ nI i from nI_ge (b := 227) hi (by decide)), show (2043 : Int32) + nI i = nI (2043 + i) from nI_add 2043 _, if_pos (inb_nI (show i < 2270 by omega) (by decide)), if_pos (inb_nI (show 2043 + i < 2270 by omega) (by decide)), if_pos (inb_nI (show i < 2270 by omega) (by decide)), if_pos (inb_nI (show 2043 + i < 2270 by omega) (by decide)), ix_nI (show i < 2 ^ 31 by omega), ix_nI (show 2043 + i < 2 ^ 31 by omega)]
    refine ⟨_, rfl, inc i, eqx_st (eqx_st q2 (by decide) _ _) (by decide) _ _, ?_, ?_⟩
    · intro k hk
      dsimp only
      by_cases e : k = i
      · subst e
        refine ⟨?_, ?_⟩
        · rw [st_at, upd_ne _ _ (by omega), st_at, upd_at]
          exact q4 _ (by omega)
        · rw [st_at, upd_at]
          exact q4 _ (by omega)
      · obtain ⟨x1, x2⟩ := q3 k (by omega)
        refine ⟨?_, ?_⟩
        · rw [st_at, upd_ne _ _ (by omega), st_at, upd_ne _ _ (by omega)]; exact x1
        · rw [st_at, upd_ne _ _ (by omega), st_at, upd_ne _ _ (by omega)]; exact x2
    · intro j hj
      dsimp only
      rw [st_at, upd_ne _ _ (by omega), st_at, upd_ne _ _ (by omega)]
      exact q4 j (by omega)
  · rintro ⟨v, N⟩ ⟨q1, q2, q3, q4⟩
    dsimp only at q1 q2 q3 q4
    subst q1
    refine ⟨N, ?_, q2, ?_, ?_, ?_⟩
    · simp only [bd_X8_load_39, u2]
      rw [if_pos (by decide)]
    · intro k hk
      rw [show 227 * 0 + k = k by omega, (q3 k hk).1]
      exact h9 k hk
    · intro k hk
      rw [show 227 * 9 + k = 2043 + k by omega, (q3 k hk).2]
      have := h0 k hk
      rwa [show 227 * 0 + k = k by omega] at this
    · intro j h1 h2
      exact q4 j (by omega)
theorem tm_lod {g : Nat} (hg : 5000 < g) : TM (fn_X8_load g) aLod nLod := by
  intro M S ok h
  have h8 := ok.2.1
  unfold fn_X8_load aLod nLod
  obtain ⟨M1, a1, a2, a3, a4⟩ := m_copyF hg (a := 0) (b := 9) (by omega) (by omega) (by omega) h.1
  rw [show fn_X8_copies g (0 : Int32) (9 : Int32) M = _ from a1]
  simp only [Option.bind_some]
  obtain ⟨M2, b1, b2, b3, b4⟩ := m_empties (M := M1) hg
  rw [b1]
  simp only [Option.bind_some]
  have e2 : eqx [62] M M2 := eqx_tr a2 b2
  have f9 : fM M2 9 S.F := b4 9 _ (by omega) a3
  have t2 : tM M2 S.tl S.tx := ⟨by rw [e2 61 (by decide)]; exact h.2.2.1.1, fun j hj => by rw [e2 69 (by decide)]; exact h.2.2.1.2.2 j hj⟩
  obtain ⟨M3, d1, d2, d3, d4, d5⟩ := m_reads hg ok.2.2.2.1 ok.2.2.2.2 t2 b3
  rw [d1]
  simp only [Option.bind_some]
  have rl := run_le S.tx S.tl 0 Q0
  have rok := run_ok S.tx S.tl 0 Q0 okQ_0
  generalize run S.tx S.tl 0 Q0 = R at *
  rw [d3]
  have g9 : fM M3 9 S.F := fM_far (by omega) f9 d2.2.2
  have bk : ∀ t, t < S.h → fM M3 (t + 1) (S.hs t) := fun t ht => fM_far (by omega) (b4 _ _ (by omega) (a4 _ _ (by omega) (h.2.1.2 t ht))) d2.2.2
  have m1 : M3 61 1 = nI S.h := by rw [d2.2.1 1 (by decide) (by decide), e2 61 (by decide)]; exact h.2.1.1
  have m9 : M3 61 9 = nI S.tl := by rw [d2.2.1 9 (by decide) (by decide)]; exact t2.1
  have mt : ∀ j, j < S.tl → M3 69 j = nI (S.tx j) := fun j hj => by rw [d2.1 69 (by decide)]; exact t2.2 j hj
  have lo3 : loE M M3 := loE_tr (loE_of e2 (by decide)) (loE_of d2.1 (by decide))
  by_cases c : R.1 = 0
  · rw [if_pos ((nI_z (by omega)).mpr c), if_pos c, if_pos c]
    obtain ⟨M7, l1, l2, l3, l4, l5⟩ := m_swap hg (d5 c) g9
    rw [l1]
    simp only [Option.bind_some, u1]
    have bk7 : back M7 S.h S.hs := ⟨by rw [l2 61 (by decide)]; exact m1, fun t ht k hk => by rw [l5 _ (by omega) (by omega)]; exact bk t ht k hk⟩
    obtain ⟨M16, r1, r2, r3, r4, r5, r6⟩ := m_records hg h8 bk7 l3
    rw [r1]
    simp only [Option.bind_some]
    obtain ⟨M17, c1, c2, c3, c4⟩ := m_copyF hg (a := 9) (b := 0) (by omega) (by omega) (by omega) (r6 _ l4)
    rw [show fn_X8_copies g (9 : Int32) (0 : Int32) M16 = _ from c1]
    simp only [Option.bind_some]
    obtain ⟨M18, v1, v2, v3⟩ := JM_lay (M := M17) (S := rcd (wfk S 0) R.2.2) hg (rok c) c3 ⟨by rw [c2 61 (by decide)]; exact r3.1, fun t ht => c4 _ _ (by omega) (r3.2 t ht)⟩ (by
      rw [c2 61 (by decide), c2 69 (by decide), r5 9 (by decide), r5 10 (by decide), r2 69 (by decide), l2 61 (by decide), l2 69 (by decide), d3, c]
      exact ⟨m9, rfl, mt⟩)
    rw [v1]
    simp only [Option.bind_some]
    rw [show M18 62 (ix 0) = nI R.2.2.n from fM_n v3.1]
    exact ⟨M18, rfl, v3, loE_tr lo3 (loE_tr (loE_of l2 (by decide)) (loE_tr (loE_of r2 (by decide)) (loE_tr (loE_of c2 (by decide)) (loE_of v2 (by decide)))))⟩
  · rw [if_neg (fun q => c ((nI_z (by omega)).mp q)), if_neg c, if_neg c]
    obtain ⟨M19, c1, c2, c3, c4⟩ := m_copyF hg (a := 9) (b := 0) (by omega) (by omega) (by omega) g9
    rw [show fn_X8_copies g (9 : Int32) (0 : Int32) M3 = _ from c1]
    simp only [Option.bind_some]
    rw [c2 61 (by decide), d4 c]
    refine ⟨M19, rfl, ⟨c3, ⟨by rw [c2 61 (by decide)]; exact m1, fun t ht => c4 _ _ (by omega) (bk t ht)⟩, ?_, LC_bld h.2.2.2 ((fM_n c3).trans (fM_n h.1).symm) ?_ ?_ ?_⟩, loE_tr lo3 (loE_of c2 (by decide))⟩
    · rw [c2 61 (by decide), c2 69 (by decide)]
      exact ⟨m9, d3, mt⟩
    · rw [c2 63 (by decide), d2.1 63 (by decide), e2 63 (by decide)]
    · rw [c2 64 (by decide), d2.1 64 (by decide), e2 64 (by decide)]
    · rw [c2 65 (by decide), d2.1 65 (by decide), e2 65 (by decide)]
