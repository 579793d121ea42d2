/-! ===== addPiece, extend ===== -/
theorem JC_48 {M M' : Mem} {S : ST} (h : JC M S) (e : ∀ a, a ≤ 48 → M' a = M a) : JC M' S := by
  have h' := h
  obtain ⟨h1, h2, h3, h4, h5, h6, h7⟩ := h
  refine JC_up h' (fun a ha => e a (by omega)) ?_ ?_ ?_
  · rw [e 0 (by omega)]
    rcases h5 with q | q
    · exact Or.inl q
    · exact Or.inr (MEi_eq q (fun a x y => e a (by omega)))
  · rw [e 0 (by omega)]
    rcases h6 with q | q
    · exact Or.inl q
    · exact Or.inr (cR_eq q (fun a x y => e a (by omega)))
  · rw [e 0 (by omega)]
    rcases h7 with q | q
    · exact Or.inl q
    · exact Or.inr ⟨cR_eq q.1 (fun a x y => e a (by omega)), PLok_eq q.2 (fun a x y => e a (by omega))⟩
def okAd (x1 x2 x3 x4 x5 x6 : Int32) (S : ST) : Bool := isB6 x1 x2 x3 x4 x5 x6 && (!mt S.F.o 0 (vx x1 x2 x3 x4 x5 x6) && decide (S.F.n < 8))
def aAdd (x1 x2 x3 x4 x5 x6 : Int32) (S : ST) : Int32 := if isB6 x1 x2 x3 x4 x5 x6 then (if mt S.F.o 0 (vx x1 x2 x3 x4 x5 x6) then -2 else if S.F.n < 8 then nI S.F.n else -3) else -1
def nAdd (x1 x2 x3 x4 x5 x6 : Int32) (S : ST) : ST := if isB6 x1 x2 x3 x4 x5 x6 then (if mt S.F.o 0 (vx x1 x2 x3 x4 x5 x6) then S else if S.F.n < 8 then rcd S (adB S.F S.F.n (vx x1 x2 x3 x4 x5 x6)) else S) else S
theorem tc_add {g : Nat} (hg : 5000 < g) (x1 x2 x3 x4 x5 x6 : Int32) : TC (fn_X7_addPiece g x1 x2 x3 x4 x5 x6) (aAdd x1 x2 x3 x4 x5 x6) (nAdd x1 x2 x3 x4 x5 x6) := by
  intro M S h
  unfold fn_X7_addPiece aAdd nAdd
  obtain ⟨M1, a1, a2, a3⟩ := c_takeAll (M := M) (k := 51) x1 x2 x3 x4 x5 x6
  rw [a1]
  simp only [Option.bind_some, u2]
  have j1 : JC M1 S := JC_48 h (fun a ha => a2 a (by simp; omega))
  have hh := hiE_of a2 (by decide)
  cases c : isB6 x1 x2 x3 x4 x5 x6
  · simp only [Bool.false_eq_true, if_false, if_true]
    exact ⟨M1, rfl, j1, hh⟩
  · have hx := a3 c
    have hv := (isB6_ok c).1
    simp only [if_true]
    rw [if_neg (by decide), c_meets hg j1.2.1.2.2.2.2 (okF_o j1.1.1) hx hv pcx_m1]
    simp only [Option.bind_some]
    cases cm : mt S.F.o 0 (vx x1 x2 x3 x4 x5 x6)
    · simp only [Bool.false_eq_true, if_false, if_true]
      have h8 := h.1.1.1
      rw [j1.2.1.1]
      by_cases c8 : S.F.n < 8
      · rw [if_pos (show nI S.F.n < (8 : Int32) from nI_lt (b := 8) c8 (by decide)), if_pos c8, if_pos c8]
        obtain ⟨M2, b1, b2, b3⟩ := c_record j1.1.2.1 j1.2.2.1 j1.2.1
        rw [b1]
        simp only [Option.bind_some]
        have f2 : fC M2 1 S.F := fC_eq j1.2.1 (b2 _ (by decide)) (b2 _ (by decide)) (b2 _ (by decide))
        have x2' : hX M2 51 (vx x1 x2 x3 x4 x5 x6) := fun i hi => by rw [b2 _ (by decide)]; exact hx i hi
        obtain ⟨M3, d1, d2, d3⟩ := c_addBox (k0 := 1) (k1 := 51) (p := S.F.n) hg (by omega) f2 h8 (Nat.le_refl _) c8 x2' hv
        rw [f2.1, d1]
        simp only [Option.bind_some]
        obtain ⟨M4, g1, g2, g3, g4, g5⟩ := c_forget M3
        rw [g1]
        simp only [Option.bind_some]
        have ok : okF (adB S.F S.F.n (vx x1 x2 x3 x4 x5 x6)) := okF_ad h.1.1 (Nat.le_refl _) c8 (by have := (h.1.1.2.2.1 S.F.n c8).2 (Nat.le_refl _); omega) hv (by rw [mt_q h.1.1.2.2.2.1]; exact cm)
        have jc := JC_chg j1 b2 b3 (fun a x y => d2 a (by simp; omega)) ok d3 g2 g3 g4 g5
        rw [show M4 1 2 = nI (S.F.n + 1) from by
          have := jc.2.1.1
          rw [this]
          show nI (if S.F.n = S.F.n then S.F.n + 1 else S.F.n) = _
          rw [if_pos rfl], nI_pred]
        exact ⟨M4, rfl, jc, hiE_tr hh (hiE_tr (hiE_of b2 LR_lo) (hiE_tr (hiE_of d2 (by decide)) (hiE_of g2 (by decide))))⟩
      · rw [if_neg (show ¬ nI S.F.n < (8 : Int32) from fun q => c8 ((nI_ltI (b := 8) (by omega) (by decide)).mp q)), if_neg c8, if_neg c8]
        exact ⟨M1, rfl, j1, hh⟩
    · simp only [if_true]
      rw [if_neg (by decide)]
      exact ⟨M1, rfl, j1, hh⟩
theorem tm_add {g : Nat} (hg : 5000 < g) (x1 x2 x3 x4 x5 x6 : Int32) : TM (fn_X8_addPiece g x1 x2 x3 x4 x5 x6) (aAdd x1 x2 x3 x4 x5 x6) (nAdd x1 x2 x3 x4 x5 x6) := by
  intro M S ok h
  unfold fn_X8_addPiece aAdd nAdd
  rw [m_isBox]
  cases c : isB6 x1 x2 x3 x4 x5 x6
  · simp only [Bool.false_eq_true, if_false, if_true]
    exact ⟨M, rfl, h, loE_rf _⟩
  · obtain ⟨hv, w1, w2, w3, w4, w5, w6⟩ := isB6_ok c
    generalize vx x1 x2 x3 x4 x5 x6 = v at hv w1 w2 w3 w4 w5 w6 ⊢
    subst w1; subst w2; subst w3; subst w4; subst w5; subst w6
    simp only [if_true]
    rw [if_neg (by decide), m_meets hg (fM_o h.1) (okF_o ok.1) hv pcx_m9]
    simp only [Option.bind_some]
    cases cm : mt S.F.o 0 v
    · simp only [Bool.false_eq_true, if_false, if_true]
      have h8 := ok.1.1
      have e0 : ix (0 : Int32) = 0 := rfl
      rw [e0, fM_n h.1]
      by_cases c8 : S.F.n < 8
      · rw [if_neg (show ¬ nI S.F.n = (8 : Int32) from fun q => by have := (nI_eq (b := 8) (by omega) (by decide)).mp q; omega), if_pos c8, if_pos c8]
        obtain ⟨M1, a1, a2, a3, a4, a5, a6⟩ := m_records hg ok.2.1 h.2.1 h.1
        rw [a1]
        simp only [Option.bind_some, bv]
        rw [fM_n a4, inc, show (3 : Int32) + nI S.F.n = nI (3 + S.F.n) from nI_add 3 _, if_pos (inb_nI (show 3 + S.F.n < 2270 by omega) (by decide)), ix_nI (show 3 + S.F.n < 2 ^ 31 by omega)]
        obtain ⟨M2, hM2⟩ : ∃ z, z = st (st M1 62 0 (nI (S.F.n + 1))) 62 (3 + S.F.n) 0 := ⟨_, rfl⟩
        rw [← hM2]
        have e2 : eqx [62] M1 M2 := by rw [hM2]; exact eqx_st (eqx_st (eqx_rf _ _) (by decide) _ _) (by decide) _ _
        have xn : S.F.x S.F.n = 0 := (ok.1.2.2.1 S.F.n c8).2 (Nat.le_refl _)
        have f2 : fM M2 0 (S.F.n + 1, S.F.b, S.F.s, S.F.x, S.F.o) := by
          refine fM_mk ?_ ?_ ?_ ?_ ?_
          · rw [hM2, st_at, upd_ne _ _ (by omega), st_at, upd_at]
          · rw [hM2, st_at, upd_ne _ _ (by omega), st_at, upd_ne _ _ (by omega)]; exact fM_b (F := S.F) a4
          · rw [hM2, st_at, upd_ne _ _ (by omega), st_at, upd_ne _ _ (by omega)]; exact fM_s (F := S.F) a4
          · intro j hj
            rw [hM2, st_at]
            by_cases e : j = S.F.n
            · rw [e, upd_at]
              show 0 = nI (S.F.x S.F.n)
              rw [xn]; rfl
            · rw [upd_ne _ _ (by omega), st_at, upd_ne _ _ (by omega)]; exact fM_x (F := S.F) a4 hj
          · intro c hc
            rw [hM2, st_at, upd_ne _ _ (by omega), st_at, upd_ne _ _ (by omega)]; exact fM_o (F := S.F) a4 c hc
        obtain ⟨M3, b1, b2, b3, b4⟩ := m_fills (p := S.F.n) hg f2 c8 hv
        rw [b1]
        simp only [Option.bind_some]
        have okF' : okF (adB S.F S.F.n v) := okF_ad ok.1 (Nat.le_refl _) c8 (by omega) hv (by rw [mt_q ok.1.2.2.2.1]; exact cm)
        have far : ∀ j, 227 ≤ j → M3 62 j = M1 62 j := fun j hj => by rw [b4 j hj, hM2, st_at, upd_ne _ _ (by omega), st_at, upd_ne _ _ (by omega)]
        have e61 : M3 61 = M1 61 := (b2 _ (by decide)).trans (e2 _ (by decide))
        have b3 : fM M3 0 (adB S.F S.F.n v) := by
          have : adB S.F S.F.n v = (S.F.n + 1, S.F.b, S.F.s, (fun j => if j = S.F.n then S.F.x j + 1 else S.F.x j), adO S.F.o (S.F.n + 1) v) := by
            unfold adB
            rw [if_pos rfl]
          rw [this]
          exact b3
        obtain ⟨M4, d1, d2, d3⟩ := JM_lay (M := M3) (S := rcd S (adB S.F S.F.n v)) hg okF' b3 ⟨by rw [e61]; exact a3.1, fun t ht => fM_far (by omega) (a3.2 t ht) far⟩ (by
          rw [e61, b2 69 (by decide), e2 69 (by decide), a2 69 (by decide), a5 9 (by decide), a5 10 (by decide)]
          exact h.2.2.1)
        rw [d1]
        exact ⟨M4, rfl, d3, loE_tr (loE_of a2 (by decide)) (loE_tr (loE_of e2 (by decide)) (loE_tr (loE_of b2 (by decide)) (loE_of d2 (by decide))))⟩
      · rw [if_pos (show nI S.F.n = (8 : Int32) from by rw [show S.F.n = 8 by omega]; rfl), if_neg c8, if_neg c8]
        exact ⟨M, rfl, h, loE_rf _⟩
    · simp only [if_true]
      rw [if_neg (by decide)]
      exact ⟨M, rfl, h, loE_rf _⟩
def aExt (x0 x1 x2 x3 x4 x5 x6 : Int32) (S : ST) : Int32 := if pcl S.F.n x0 = 0 then -1 else if isB6 x1 x2 x3 x4 x5 x6 then (if mt S.F.o (ix x0 + 1) (vx x1 x2 x3 x4 x5 x6) then -2 else if S.F.x (ix x0) < 4 then nI (ceN (adO S.F.o (ix x0 + 1) (vx x1 x2 x3 x4 x5 x6)) (ix x0) 216) else -3) else -1
def nExt (x0 x1 x2 x3 x4 x5 x6 : Int32) (S : ST) : ST := if pcl S.F.n x0 = 0 then S else if isB6 x1 x2 x3 x4 x5 x6 then (if mt S.F.o (ix x0 + 1) (vx x1 x2 x3 x4 x5 x6) then S else if S.F.x (ix x0) < 4 then rcd S (adB S.F (ix x0) (vx x1 x2 x3 x4 x5 x6)) else S) else S
theorem tc_ext {g : Nat} (hg : 5000 < g) (x0 x1 x2 x3 x4 x5 x6 : Int32) : TC (fn_X7_extend g x0 x1 x2 x3 x4 x5 x6) (aExt x0 x1 x2 x3 x4 x5 x6) (nExt x0 x1 x2 x3 x4 x5 x6) := by
  intro M S h
  unfold fn_X7_extend aExt nExt
  rw [c_pcl h.2.1]
  by_cases c0 : pcl S.F.n x0 = 0
  · rw [if_pos c0, if_pos c0, if_pos c0]; exact ⟨M, rfl, h, hiE_rf _⟩
  obtain ⟨p, hp, rfl⟩ := pcl_ex h.1.1.1 c0
  have h8 := h.1.1.1
  rw [if_neg c0, if_neg c0, if_neg c0]
  obtain ⟨M1, a1, a2, a3⟩ := c_takeAll (M := M) (k := 51) x1 x2 x3 x4 x5 x6
  rw [a1]
  simp only [Option.bind_some, u2]
  have j1 : JC M1 S := JC_48 h (fun a ha => a2 a (by simp; omega))
  have hh := hiE_of a2 (by decide)
  cases c : isB6 x1 x2 x3 x4 x5 x6
  · simp only [Bool.false_eq_true, if_false, if_true]
    exact ⟨M1, rfl, j1, hh⟩
  · have hx := a3 c
    have hv := (isB6_ok c).1
    simp only [if_true]
    rw [if_neg (by decide), c_meets hg j1.2.1.2.2.2.2 (okF_o j1.1.1) hx hv (pcx_p (by omega)), ix_nI (by omega)]
    simp only [Option.bind_some]
    generalize vx x1 x2 x3 x4 x5 x6 = v at hx hv ⊢
    cases cm : mt S.F.o (p + 1) v
    · simp only [Bool.false_eq_true, if_false, if_true]
      have hx4 := (h.1.1.2.2.1 p (by omega)).1
      rw [if_pos (inb_nI (show p < 8 by omega) (by decide)), show M1 3 p = nI (S.F.x p) from j1.2.1.2.2.2.1 p (by omega)]
      by_cases c4 : S.F.x p < 4
      · rw [if_pos (show nI (S.F.x p) < (4 : Int32) from nI_lt (b := 4) c4 (by decide)), if_pos c4, if_pos c4]
        obtain ⟨M2, b1, b2, b3⟩ := c_record j1.1.2.1 j1.2.2.1 j1.2.1
        rw [b1]
        simp only [Option.bind_some]
        have f2 : fC M2 1 S.F := fC_eq j1.2.1 (b2 _ (by decide)) (b2 _ (by decide)) (b2 _ (by decide))
        have x2' : hX M2 51 v := fun i hi => by rw [b2 _ (by decide)]; exact hx i hi
        obtain ⟨M3, d1, d2, d3⟩ := c_addBox (k0 := 1) (k1 := 51) (p := p) hg (by omega) f2 h8 (by omega) (by omega) x2' hv
        rw [d1]
        simp only [Option.bind_some]
        obtain ⟨M4, g1, g2, g3, g4, g5⟩ := c_forget M3
        rw [g1]
        simp only [Option.bind_some]
        have ok : okF (adB S.F p v) := okF_ad h.1.1 (by omega) (by omega) c4 hv cm
        have jc := JC_chg j1 b2 b3 (fun a x y => d2 a (by simp; omega)) ok d3 g2 g3 g4 g5
        obtain ⟨M5, k1, k2, k3, k4⟩ := c_kM hg jc
        rw [k1]
        simp only [Option.bind_some]
        rw [if_pos (inb_nI (show p < 8 by omega) (by decide)), k3.1 p (by omega)]
        exact ⟨M5, rfl, k4, hiE_tr hh (hiE_tr (hiE_of b2 LR_lo) (hiE_tr (hiE_of d2 (by decide)) (hiE_tr (hiE_of g2 (by decide)) k2)))⟩
      · rw [if_neg (show ¬ nI (S.F.x p) < (4 : Int32) from fun q => c4 ((nI_ltI (b := 4) (by omega) (by decide)).mp q)), if_neg c4, if_neg c4]
        exact ⟨M1, rfl, j1, hh⟩
    · simp only [if_true]
      rw [if_neg (by decide)]
      exact ⟨M1, rfl, j1, hh⟩
theorem tm_ext {g : Nat} (hg : 5000 < g) (x0 x1 x2 x3 x4 x5 x6 : Int32) : TM (fn_X8_extend g x0 x1 x2 x3 x4 x5 x6) (aExt x0 x1 x2 x3 x4 x5 x6) (nExt x0 x1 x2 x3 x4 x5 x6) := by
  intro M S ok h
  unfold fn_X8_extend aExt nExt
  rw [m_pcl ok.1.1 (fM_n h.1)]
  by_cases c0 : pcl S.F.n x0 = 0
  · rw [if_pos c0, if_pos c0, if_pos c0]; exact ⟨M, rfl, h, loE_rf _⟩
  obtain ⟨p, hp, rfl⟩ := pcl_ex ok.1.1 c0
  have h8 := ok.1.1
  rw [if_neg c0, if_neg c0, if_neg c0, m_isBox, ix_nI (show p < 2 ^ 31 by omega)]
  cases c : isB6 x1 x2 x3 x4 x5 x6
  · simp only [Bool.false_eq_true, if_false, if_true]
    exact ⟨M, rfl, h, loE_rf _⟩
  · obtain ⟨hv, w1, w2, w3, w4, w5, w6⟩ := isB6_ok c
    generalize vx x1 x2 x3 x4 x5 x6 = v at hv w1 w2 w3 w4 w5 w6 ⊢
    subst w1; subst w2; subst w3; subst w4; subst w5; subst w6
    simp only [if_true]
    rw [if_neg (by decide), m_meets hg (fM_o h.1) (okF_o ok.1) hv (pcx_p (by omega))]
    simp only [Option.bind_some]
    cases cm : mt S.F.o (p + 1) v
    · simp only [Bool.false_eq_true, if_false, if_true]
      have hx4 := (ok.1.2.2.1 p (by omega)).1
      rw [show (3 : Int32) + nI p = nI (3 + p) from nI_add 3 _, if_pos (inb_nI (show 3 + p < 2270 by omega) (by decide)), ix_nI (show 3 + p < 2 ^ 31 by omega), fM_x h.1 (show p < 8 by omega)]
      by_cases c4 : S.F.x p < 4
      · rw [if_neg (show ¬ nI (S.F.x p) = (4 : Int32) from fun q => by have := (nI_eq (b := 4) (by omega) (by decide)).mp q; omega), if_pos c4, if_pos c4]
        obtain ⟨M1, a1, a2, a3, a4, a5, a6⟩ := m_records hg ok.2.1 h.2.1 h.1
        rw [a1]
        simp only [Option.bind_some]
        obtain ⟨M3, b1, b2, b3, b4⟩ := m_fills (p := p) hg a4 (by omega) hv
        rw [b1]
        simp only [Option.bind_some]
        have okF' : okF (adB S.F p v) := okF_ad ok.1 (by omega) (by omega) c4 hv cm
        have e61 : M3 61 = M1 61 := b2 _ (by decide)
        have b3 : fM M3 0 (adB S.F p v) := by
          have : adB S.F p v = (S.F.n, S.F.b, S.F.s, (fun j => if j = p then S.F.x j + 1 else S.F.x j), adO S.F.o (p + 1) v) := by
            unfold adB
            rw [if_neg (by omega)]
          rw [this]
          exact b3
        obtain ⟨M4, d1, d2, d3⟩ := JM_lay (M := M3) (S := rcd S (adB S.F p v)) hg okF' b3 ⟨by rw [e61]; exact a3.1, fun t ht => fM_far (by omega) (a3.2 t ht) b4⟩ (by
          rw [e61, b2 69 (by decide), a2 69 (by decide), a5 9 (by decide), a5 10 (by decide)]
          exact h.2.2.1)
        rw [d1]
        simp only [Option.bind_some]
        rw [m_cells hg (show p < 8 by omega) (okF_o okF') (fM_o d3.1)]
        exact ⟨M4, rfl, d3, loE_tr (loE_of a2 (by decide)) (loE_tr (loE_of b2 (by decide)) (loE_of d2 (by decide)))⟩
      · rw [if_pos (show nI (S.F.x p) = (4 : Int32) from by rw [show S.F.x p = 4 by omega]; rfl), if_neg c4, if_neg c4]
        exact ⟨M, rfl, h, loE_rf _⟩
    · simp only [if_true]
      rw [if_neg (by decide)]
      exact ⟨M, rfl, h, loE_rf _⟩
