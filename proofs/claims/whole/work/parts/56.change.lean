/-! ===== what changes: text, undo, clear ===== -/
def rcd (S : ST) (F' : FR) : ST := (F', rcH S.h, rcS S.h S.hs S.F, S.tl, S.tx, S.fk)
theorem okS_rcd {S : ST} (h : okS S) {F' : FR} (hF : okF F') : okS (rcd S F') := by
  obtain ⟨h1, h2, h3, h4, h5⟩ := h
  refine ⟨hF, ?_, ?_, h4, h5⟩
  · show rcH S.h ≤ 8
    unfold rcH; split <;> omega
  · intro t ht
    have ht : t < rcH S.h := ht
    show okF (rcS S.h S.hs S.F t)
    unfold rcH at ht
    unfold rcS
    by_cases c : S.h < 8
    · rw [if_pos c] at ht ⊢
      by_cases e : t = S.h
      · rw [if_pos e]; exact h1
      · rw [if_neg e]; exact h3 t (by omega)
    · rw [if_neg c] at ht ⊢
      by_cases e : t = 7
      · rw [if_pos e]; exact h1
      · rw [if_neg e]; exact h3 (t + 1) (by omega)
theorem c_forget (M : Mem) : ∃ M', fn_X7_forgetPieces M = some M' ∧ eqx [0] M M' ∧ M' 0 9 = 0 ∧ M' 0 10 = 0 ∧ M' 0 11 = 0 := by
  unfold fn_X7_forgetPieces
  simp only [bv]
  refine ⟨_, rfl, eqx_st (eqx_st (eqx_st (eqx_rf _ _) (by decide) _ _) (by decide) _ _) (by decide) _ _, ?_, ?_, ?_⟩
  · rw [st_at, upd_ne _ _ (by decide), st_at, upd_ne _ _ (by decide), st_at, upd_at]
  · rw [st_at, upd_ne _ _ (by decide), st_at, upd_at]
  · rw [st_at, upd_at]
/-- a change of the class's frame: remembered before, forgotten after -/
theorem JC_chg {M M1 M2 M3 : Mem} {S : ST} {F' : FR} (h : JC M S) (e1 : eqx LR M M1) (r1 : ring M1 (rcH S.h) (rcS S.h S.hs S.F)) (e2 : ∀ a, 21 ≤ a → a ≤ 48 → M2 a = M1 a) (hF : okF F') (f2 : fC M2 1 F') (e3 : eqx [0] M2 M3) (k9 : M3 0 9 = 0) (k10 : M3 0 10 = 0) (k11 : M3 0 11 = 0) : JC M3 (rcd S F') := by
  refine ⟨okS_rcd h.1 hF, fC_eq f2 (e3 _ (by decide)) (e3 _ (by decide)) (e3 _ (by decide)), ring_eq r1 (fun a x y => by rw [e3 a (by simp; omega), e2 a (by omega) (by omega)]), ?_, Or.inl k9, Or.inl k10, Or.inl k11⟩
  rw [e3 47 (by decide), e2 47 (by omega) (by omega), e1 47 (by decide), e3 48 (by decide), e2 48 (by omega) (by omega), e1 48 (by decide)]
  exact h.2.2.2.1
/-- what the reference lays anew -/
theorem JM_lay {M : Mem} {S : ST} {g : Nat} (hg : 5000 < g) (hF : okF S.F) (h1 : fM M 0 S.F) (h2 : back M S.h S.hs) (h3 : M 61 9 = nI S.tl ∧ M 61 10 = S.fk ∧ ∀ j, j < S.tl → M 69 j = nI (S.tx j)) : ∃ M', fn_X8_lays g M = some M' ∧ eqx [63, 64, 65] M M' ∧ JM M' S := by
  obtain ⟨M', a1, a2, a3⟩ := m_lays hg (fM_n h1) (okF_o hF) (fM_o h1)
  refine ⟨M', a1, a2, fM_eq h1 (a2 _ (by decide)), back_eq h2 (by rw [a2 61 (by decide)]) (a2 _ (by decide)), ?_, a3⟩
  rw [a2 61 (by decide), a2 69 (by decide)]
  exact h3
/-! text -/
def aTyp (x : Int32) (S : ST) : Int32 := if x < 32 then -1 else if x ≤ 126 then (if S.tl < 80 then nI (S.tl + 1) else -3) else -1
def nTyp (x : Int32) (S : ST) : ST := if x < 32 then S else if x ≤ 126 then (if S.tl < 80 then (S.F, S.h, S.hs, S.tl + 1, (fun j => if j = S.tl then ix x else S.tx j), S.fk) else S) else S
theorem typ_ex {x : Int32} (h1 : ¬ x < 32) (h2 : x ≤ 126) : ∃ c, 32 ≤ c ∧ c ≤ 126 ∧ x = nI c := by
  have a : ¬ x < 0 := fun q => h1 (fa_trans q (by decide))
  obtain ⟨c, hc, rfl⟩ := nI_ex (x := x) (n := 127) (by decide) a (fun q => (fa_of_lt (fa_trans (show (126 : Int32) < nI 127 by decide) q)).2.1 h2)
  refine ⟨c, ?_, by omega, rfl⟩
  apply Classical.byContradiction
  intro q
  exact h1 ((nI_ltI (b := 32) (by omega) (by decide)).mpr (by omega))
theorem okS_typ {S : ST} (h : okS S) {c : Nat} (h1 : 32 ≤ c) (h2 : c ≤ 126) (h3 : S.tl < 80) : okS (S.F, S.h, S.hs, S.tl + 1, (fun j => if j = S.tl then c else S.tx j), S.fk) := by
  obtain ⟨a1, a2, a3, a4, a5⟩ := h
  refine ⟨a1, a2, a3, by show S.tl + 1 ≤ 80; omega, ?_⟩
  intro j hj
  have hj : j < S.tl + 1 := hj
  show 32 ≤ (if j = S.tl then c else S.tx j) ∧ (if j = S.tl then c else S.tx j) ≤ 126
  by_cases e : j = S.tl
  · rw [if_pos e]; exact ⟨h1, h2⟩
  · rw [if_neg e]; exact a5 j (by omega)
theorem tc_typ (x : Int32) : TC (fn_X7_type x) (aTyp x) (nTyp x) := by
  intro M S h
  unfold fn_X7_type aTyp nTyp
  by_cases c1 : x < 32
  · rw [if_pos c1, if_pos c1, if_pos c1]; exact ⟨M, rfl, h, hiE_rf _⟩
  rw [if_neg c1, if_neg c1, if_neg c1]
  by_cases c2 : x ≤ 126
  · rw [if_pos c2, if_pos c2, if_pos c2]
    have h80 := h.1.2.2.2.1
    rw [h.2.2.2.1.1]
    by_cases c3 : S.tl < 80
    · rw [if_pos c3, if_pos c3, if_pos (show nI S.tl < (80 : Int32) from nI_lt (b := 80) c3 (by decide))]
      obtain ⟨c, hc1, hc2, rfl⟩ := typ_ex c1 c2
      unfold fn_X6_append
      rw [h.2.2.2.1.1, if_neg (nI_nn (by omega)), if_neg (show ¬ (80 : Int32) ≤ nI S.tl from nI_ge (b := 80) c3 (by decide)), if_pos (inb_nI c3 (by decide)), ix_nI (by omega), ix_nI (by omega)]
      simp only [bv, Option.bind_some]
      have e0 : st M 48 S.tl (nI c) 47 0 = nI S.tl := by rw [st_ne _ _ _ (by decide)]; exact h.2.2.2.1.1
      rw [e0, inc, st_at, upd_at]
      obtain ⟨M2, hM2⟩ : ∃ z, z = st (st M 48 S.tl (nI c)) 47 0 (nI (S.tl + 1)) := ⟨_, rfl⟩
      rw [← hM2]
      have e2 : eqx [47, 48] M M2 := by rw [hM2]; exact eqx_st (eqx_st (eqx_rf _ _) (by decide) _ _) (by decide) _ _
      obtain ⟨h1, h2, h3, h4, h5, h6, h7⟩ := h
      refine ⟨M2, rfl, ⟨okS_typ h1 hc1 hc2 c3, fC_eq h2 (e2 _ (by decide)) (e2 _ (by decide)) (e2 _ (by decide)), ring_eq h3 (fun a x y => e2 a (by simp; omega)), ⟨?_, ?_, ?_⟩, ?_, ?_, ?_⟩, hiE_of e2 (by decide)⟩
      · rw [hM2, st_at, upd_at]
      · rw [hM2, st_at, upd_ne _ _ (by decide), st_ne _ _ _ (by decide)]; exact h4.2.1
      · intro j hj
        have hj : j < S.tl + 1 := hj
        show M2 48 j = nI (if j = S.tl then c else S.tx j)
        rw [hM2, st_ne _ _ _ (by decide), st_at]
        by_cases e : j = S.tl
        · rw [if_pos e, e, upd_at]
        · rw [if_neg e, upd_ne _ _ e]; exact h4.2.2 j (by omega)
      · rw [e2 0 (by decide)]
        rcases h5 with q | q
        · exact Or.inl q
        · exact Or.inr (MEi_eq q (fun a x y => e2 a (by simp; omega)))
      · rw [e2 0 (by decide)]
        rcases h6 with q | q
        · exact Or.inl q
        · exact Or.inr (cR_eq q (fun a x y => e2 a (by simp; omega)))
      · rw [e2 0 (by decide)]
        rcases h7 with q | q
        · exact Or.inl q
        · exact Or.inr ⟨cR_eq q.1 (fun a x y => e2 a (by simp; omega)), PLok_eq q.2 (fun a x y => e2 a (by simp; omega))⟩
    · rw [if_neg c3, if_neg c3, if_neg (show ¬ nI S.tl < (80 : Int32) from fun q => c3 ((nI_ltI (b := 80) (by omega) (by decide)).mp q))]
      exact ⟨M, rfl, h, hiE_rf _⟩
  · rw [if_neg c2, if_neg c2, if_neg c2]; exact ⟨M, rfl, h, hiE_rf _⟩
theorem tm_typ (x : Int32) : TM (fn_X8_type x) (aTyp x) (nTyp x) := by
  intro M S ok h
  have hin : fn_X8_in x 32 126 = if x < 32 then 0 else if x ≤ 126 then 1 else 0 := by
    unfold fn_X8_in
    by_cases c1 : x < 32
    · rw [if_pos c1, if_pos c1]
    · rw [if_neg c1, if_neg c1]
      by_cases c2 : x ≤ 126
      · rw [if_pos c2, if_neg (fun q => (fa_of_lt q).2.1 c2)]
      · rw [if_neg c2, if_pos (fa_of_nle c2)]
  unfold fn_X8_type aTyp nTyp
  rw [hin]
  by_cases c1 : x < 32
  · rw [if_pos c1, if_pos c1, if_pos c1, if_pos rfl]; exact ⟨M, rfl, h, loE_rf _⟩
  rw [if_neg c1, if_neg c1, if_neg c1]
  by_cases c2 : x ≤ 126
  · rw [if_pos c2, if_pos c2, if_pos c2, if_neg (by decide)]
    have h80 := ok.2.2.2.1
    rw [h.2.2.1.1]
    by_cases c3 : S.tl < 80
    · obtain ⟨c, hc1, hc2, rfl⟩ := typ_ex c1 c2
      rw [if_pos c3, if_pos c3, if_neg (show ¬ nI S.tl = (80 : Int32) from fun q => by have := (nI_eq (b := 80) (by omega) (by decide)).mp q; omega), if_pos (inb_nI c3 (by decide)), ix_nI (by omega), ix_nI (by omega)]
      simp only [bv]
      have e0 : st M 69 S.tl (nI c) 61 9 = nI S.tl := by rw [st_ne _ _ _ (by decide)]; exact h.2.2.1.1
      rw [e0, inc, st_at, upd_at]
      obtain ⟨M2, hM2⟩ : ∃ z, z = st (st M 69 S.tl (nI c)) 61 9 (nI (S.tl + 1)) := ⟨_, rfl⟩
      rw [← hM2]
      have e2 : eqx [61, 69] M M2 := by rw [hM2]; exact eqx_st (eqx_st (eqx_rf _ _) (by decide) _ _) (by decide) _ _
      obtain ⟨h1, h2, h3, h4⟩ := h
      refine ⟨M2, rfl, ⟨fM_eq h1 (e2 _ (by decide)), back_eq h2 ?_ (e2 _ (by decide)), ⟨?_, ?_, ?_⟩, LC_eq h4 (e2 _ (by decide)) (e2 _ (by decide)) (e2 _ (by decide)) (e2 _ (by decide))⟩, loE_of e2 (by decide)⟩
      · rw [hM2, st_at, upd_ne _ _ (by decide), st_ne _ _ _ (by decide)]
      · rw [hM2, st_at, upd_at]
      · rw [hM2, st_at, upd_ne _ _ (by decide), st_ne _ _ _ (by decide)]; exact h3.2.1
      · intro j hj
        have hj : j < S.tl + 1 := hj
        show M2 69 j = nI (if j = S.tl then c else S.tx j)
        rw [hM2, st_ne _ _ _ (by decide), st_at]
        by_cases e : j = S.tl
        · rw [if_pos e, e, upd_at]
        · rw [if_neg e, upd_ne _ _ e]; exact h3.2.2 j (by omega)
    · rw [if_neg c3, if_neg c3, if_pos (show nI S.tl = (80 : Int32) from by rw [show S.tl = 80 by omega]; rfl)]
      exact ⟨M, rfl, h, loE_rf _⟩
  · rw [if_neg c2, if_neg c2, if_neg c2, if_pos rfl]; exact ⟨M, rfl, h, loE_rf _⟩
def nClt (S : ST) : ST := (S.F, S.h, S.hs, 0, S.tx, S.fk)
theorem okS_clt {S : ST} (h : okS S) : okS (nClt S) := ⟨h.1, h.2.1, h.2.2.1, Nat.zero_le _, fun j hj => by have : j < 0 := hj; omega⟩
theorem tc_clt : TC fn_X7_clearText (fun S => nI S.tl) nClt := by
  intro M S h
  unfold fn_X7_clearText
  simp only [bv]
  rw [h.2.2.2.1.1]
  have e2 : eqx [47] M (st M 47 0 0) := eqx_st (eqx_rf _ _) (by decide) _ _
  obtain ⟨h1, h2, h3, h4, h5, h6, h7⟩ := h
  refine ⟨_, rfl, ⟨okS_clt h1, fC_eq h2 (e2 _ (by decide)) (e2 _ (by decide)) (e2 _ (by decide)), ring_eq h3 (fun a x y => e2 a (by simp; omega)), ⟨?_, ?_, ?_⟩, ?_, ?_, ?_⟩, hiE_of e2 (by decide)⟩
  · rw [st_at, upd_at]; rfl
  · rw [st_at, upd_ne _ _ (by decide)]; exact h4.2.1
  · intro j hj; have : j < 0 := hj; omega
  · rw [e2 0 (by decide)]
    rcases h5 with q | q
    · exact Or.inl q
    · exact Or.inr (MEi_eq q (fun a x y => e2 a (by simp; omega)))
  · rw [e2 0 (by decide)]
    rcases h6 with q | q
    · exact Or.inl q
    · exact Or.inr (cR_eq q (fun a x y => e2 a (by simp; omega)))
  · rw [e2 0 (by decide)]
    rcases h7 with q | q
    · exact Or.inl q
    · exact Or.inr ⟨cR_eq q.1 (fun a x y => e2 a (by simp; omega)), PLok_eq q.2 (fun a x y => e2 a (by simp; omega))⟩
theorem tm_clt : TM fn_X8_clearText (fun S => nI S.tl) nClt := by
  intro M S ok h
  unfold fn_X8_clearText
  simp only [bv]
  rw [h.2.2.1.1]
  have e2 : eqx [61] M (st M 61 9 0) := eqx_st (eqx_rf _ _) (by decide) _ _
  obtain ⟨h1, h2, h3, h4⟩ := h
  refine ⟨_, rfl, ⟨fM_eq h1 (e2 _ (by decide)), back_eq h2 ?_ (e2 _ (by decide)), ⟨?_, ?_, ?_⟩, LC_eq h4 (e2 _ (by decide)) (e2 _ (by decide)) (e2 _ (by decide)) (e2 _ (by decide))⟩, loE_of e2 (by decide)⟩
  · rw [st_at, upd_ne _ _ (by decide)]
  · rw [st_at, upd_at]; rfl
  · rw [st_at, upd_ne _ _ (by decide)]; exact h3.2.1
  · intro j hj; have : j < 0 := hj; omega
/-! undo, clear -/
def aUnd (S : ST) : Int32 := if S.h = 0 then -2 else nI (S.h - 1)
def nUnd (S : ST) : ST := if S.h = 0 then S else (S.hs (S.h - 1), S.h - 1, S.hs, S.tl, S.tx, S.fk)
theorem tc_und : TC fn_X7_undo aUnd nUnd := by
  intro M S h
  have h8 := h.1.2.1
  obtain ⟨od, o1, o2, o3, o4⟩ := h.2.2.1
  unfold fn_X7_undo aUnd nUnd
  rw [o2]
  by_cases c : S.h = 0
  · rw [if_pos c, if_pos c, if_pos ((nI_z (by omega)).mpr c)]; exact ⟨M, rfl, h, hiE_rf _⟩
  · rw [if_neg c, if_neg c, if_neg (fun q => c ((nI_z (by omega)).mp q))]
    obtain ⟨M1, a1, a2, a3, a4⟩ := c_restore (by omega) h8 h.2.2.1
    rw [a1]
    simp only [Option.bind_some]
    obtain ⟨M2, b1, b2, b3, b4, b5⟩ := c_forget M1
    rw [b1]
    simp only [Option.bind_some]
    have r2 : ring M2 (S.h - 1) S.hs := ring_eq a3 (fun a x y => b2 a (by simp; omega))
    obtain ⟨od', q1, q2, q3⟩ := r2
    rw [q2]
    obtain ⟨g1, g2, g3, g4, g5⟩ := h.1
    refine ⟨M2, rfl, ⟨⟨g3 _ (by omega), by show S.h - 1 ≤ 8; omega, fun t ht => g3 t (by have : t < S.h - 1 := ht; omega), g4, g5⟩, fC_eq a4 (b2 _ (by decide)) (b2 _ (by decide)) (b2 _ (by decide)), ⟨od', q1, q2, q3⟩, ?_, Or.inl b3, Or.inl b4, Or.inl b5⟩, hiE_tr (hiE_of a2 (by decide)) (hiE_of b2 (by decide))⟩
    rw [b2 47 (by decide), b2 48 (by decide), a2 47 (by decide), a2 48 (by decide)]
    exact h.2.2.2.1
theorem tm_und {g : Nat} (hg : 5000 < g) : TM (fn_X8_undo g) aUnd nUnd := by
  intro M S ok h
  have h8 := ok.2.1
  unfold fn_X8_undo aUnd nUnd
  rw [h.2.1.1]
  by_cases c : S.h = 0
  · rw [if_pos c, if_pos c, if_pos ((nI_z (by omega)).mpr c)]; exact ⟨M, rfl, h, loE_rf _⟩
  · rw [if_neg c, if_neg c, if_neg (fun q => c ((nI_z (by omega)).mp q))]
    have hb := h.2.1.2 (S.h - 1) (by omega)
    rw [show S.h - 1 + 1 = S.h by omega] at hb
    obtain ⟨M1, a1, a2, a3, a4⟩ := m_copyF hg (a := S.h) (b := 0) (by omega) (by omega) c hb
    rw [show (0 : Int32) = nI 0 from rfl, a1]
    simp only [Option.bind_some, bv]
    obtain ⟨M2, hM2⟩ : ∃ z, z = st M1 61 1 (M1 61 1 - 1) := ⟨_, rfl⟩
    rw [← hM2]
    have e2 : eqx [61] M1 M2 := by rw [hM2]; exact eqx_st (eqx_rf _ _) (by decide) _ _
    have p1 : M2 61 1 = nI (S.h - 1) := by
      rw [hM2, st_at, upd_at, a2 61 (by decide), h.2.1.1]
      exact nI_sub (b := 1) (by omega)
    obtain ⟨M3, b1, b2, b3⟩ := JM_lay (M := M2) (S := (S.hs (S.h - 1), S.h - 1, S.hs, S.tl, S.tx, S.fk)) hg (ok.2.2.1 _ (by omega)) (fM_eq a3 (e2 _ (by decide))) ⟨p1, fun t ht => by
      have ht : t < S.h - 1 := ht
      exact fM_eq (a4 _ _ (by omega) (h.2.1.2 t (by omega))) (e2 _ (by decide))⟩ (by
      rw [e2 69 (by decide), a2 69 (by decide), hM2, st_at, upd_ne _ _ (by decide), upd_ne _ _ (by decide), a2 61 (by decide)]
      exact h.2.2.1)
    rw [b1]
    simp only [Option.bind_some]
    rw [b2 61 (by decide), p1]
    exact ⟨M3, rfl, b3, loE_tr (loE_of a2 (by decide)) (loE_tr (loE_of e2 (by decide)) (loE_of b2 (by decide)))⟩
theorem LR_lo : ∀ a, a ∈ LR → a < 61 := by decide
theorem tc_clr {g : Nat} (hg : 5000 < g) : TC (fn_X7_clear g) (fun S => nI S.F.n) (fun S => rcd S fZ) := by
  intro M S h
  unfold fn_X7_clear
  simp only [bv]
  rw [h.2.1.1]
  obtain ⟨M1, a1, a2, a3⟩ := c_record h.1.2.1 h.2.2.1 h.2.1
  rw [a1]
  simp only [Option.bind_some]
  obtain ⟨M2, b1, b2, b3⟩ := c_empty (M := M1) (k := 1) hg
  rw [b1]
  simp only [Option.bind_some]
  obtain ⟨M3, d1, d2, d3, d4, d5⟩ := c_forget M2
  rw [d1]
  exact ⟨M3, rfl, JC_chg h a2 a3 (fun a x y => b2 a (by simp; omega)) okF_Z b3 d2 d3 d4 d5, hiE_tr (hiE_of a2 LR_lo) (hiE_tr (hiE_of b2 (by decide)) (hiE_of d2 (by decide)))⟩
theorem tm_clr {g : Nat} (hg : 5000 < g) : TM (fn_X8_clear g) (fun S => nI S.F.n) (fun S => rcd S fZ) := by
  intro M S ok h
  unfold fn_X8_clear
  obtain ⟨M1, a1, a2, a3, a4, a5, a6⟩ := m_records hg ok.2.1 h.2.1 h.1
  rw [a1]
  simp only [Option.bind_some, bv]
  rw [show M1 62 (ix 0) = nI S.F.n from fM_n a4]
  obtain ⟨M2, b1, b2, b3, b4⟩ := m_empties (M := M1) hg
  rw [b1]
  simp only [Option.bind_some]
  obtain ⟨M3, d1, d2, d3⟩ := JM_lay (M := M2) (S := rcd S fZ) hg okF_Z b3 ⟨by rw [b2 61 (by decide)]; exact a3.1, fun t ht => b4 _ _ (by omega) (a3.2 t ht)⟩ (by
    rw [b2 61 (by decide), b2 69 (by decide), a5 9 (by decide), a5 10 (by decide), a2 69 (by decide)]
    exact h.2.2.1)
  rw [d1]
  exact ⟨M3, rfl, d3, loE_tr (loE_of a2 (by decide)) (loE_tr (loE_of b2 (by decide)) (loE_of d2 (by decide)))⟩
