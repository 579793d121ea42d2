/-! ===== what holds between calls ===== -/
abbrev FR.A (F : FR) : AB := AO F.n F.o
def cR (M : Mem) (F : FR) : Prop := RC M 9 F.A ∧ hC M 9 (CL F.o)
def txt (M : Mem) (k q f : Nat) (S : ST) : Prop := M k (if k = 47 then 0 else 9) = nI S.tl ∧ M k f = S.fk ∧ ∀ j, j < S.tl → M q j = nI (S.tx j)
def JC (M : Mem) (S : ST) : Prop := okS S ∧ fC M 1 S.F ∧ ring M S.h S.hs ∧ (M 47 0 = nI S.tl ∧ M 47 1 = S.fk ∧ ∀ j, j < S.tl → M 48 j = nI (S.tx j)) ∧ (M 0 9 = 0 ∨ MEi M S.F.o 216) ∧ (M 0 10 = 0 ∨ cR M S.F) ∧ (M 0 11 = 0 ∨ (cR M S.F ∧ PLok M S.F.A))
def JM (M : Mem) (S : ST) : Prop := fM M 0 S.F ∧ back M S.h S.hs ∧ (M 61 9 = nI S.tl ∧ M 61 10 = S.fk ∧ ∀ j, j < S.tl → M 69 j = nI (S.tx j)) ∧ LC M S.F.A
def JJ (M : Mem) : Prop := ∃ S, JC M S ∧ JM M S
theorem okA_F {F : FR} (h : okF F) : okA F.A := okAO h.1 F.o
theorem cR_eq {M M' : Mem} {F : FR} (h : cR M F) (e : ∀ a, 9 ≤ a → a ≤ 13 → M' a = M a) : cR M' F := ⟨RC_eq h.1 (e 9 (by omega) (by omega)) (e 11 (by omega) (by omega)) (e 12 (by omega) (by omega)) (e 13 (by omega) (by omega)), hC_c h.2 (e 10 (by omega) (by omega)) (fun _ _ _ _ _ => rfl)⟩
theorem PLok_eq {M M' : Mem} {A : AB} (h : PLok M A) (e : ∀ a, 14 ≤ a → a ≤ 20 → M' a = M a) : PLok M' A := by
  refine ⟨TAB_of h.1 (e 15 (by omega) (by omega)) (e 16 (by omega) (by omega)) (e 19 (by omega) (by omega)), ?_⟩
  rw [e 14 (by omega) (by omega)]
  rcases h.2 with q | ⟨s, h1, h2, h3⟩
  · exact Or.inl q
  · exact Or.inr ⟨s, h1, h2, PLN_eq h3 (e 14 (by omega) (by omega)) (e 17 (by omega) (by omega)) (e 18 (by omega) (by omega))⟩
theorem ring_eq {M M' : Mem} {h : Nat} {hs : Nat → FR} (r : ring M h hs) (e : ∀ a, 21 ≤ a → a ≤ 46 → M' a = M a) : ring M' h hs := by
  obtain ⟨od, o1, o2, o3, o4⟩ := r
  refine ⟨od, o1, ?_, ?_, ?_⟩
  · rw [e 21 (by omega) (by omega)]; exact o2
  · rw [e 21 (by omega) (by omega)]; exact o3
  · intro t ht
    have : (od + t) % 8 < 8 := Nat.mod_lt _ (by decide)
    exact fC_eq (o4 t ht) (e _ (by omega) (by omega)) (e _ (by omega) (by omega)) (e _ (by omega) (by omega))
theorem JC_up {M M' : Mem} {S : ST} (h : JC M S) (e : ∀ a, (1 ≤ a ∧ a ≤ 3) ∨ (21 ≤ a ∧ a ≤ 48) → M' a = M a) (c9 : M' 0 9 = 0 ∨ MEi M' S.F.o 216) (c10 : M' 0 10 = 0 ∨ cR M' S.F) (c11 : M' 0 11 = 0 ∨ (cR M' S.F ∧ PLok M' S.F.A)) : JC M' S := by
  obtain ⟨h1, h2, h3, h4, _⟩ := h
  refine ⟨h1, fC_eq h2 (e _ (by omega)) (e _ (by omega)) (e _ (by omega)), ring_eq h3 (fun a x y => e a (by omega)), ?_, c9, c10, c11⟩
  rw [e 47 (by omega), e 48 (by omega)]
  exact h4
theorem JC_lo {M M' : Mem} {S : ST} (h : JC M S) (e : loE M M') : JC M' S := by
  have h' := h
  obtain ⟨h1, h2, h3, h4, h5, h6, h7⟩ := h
  refine JC_up h' (fun a ha => e a (by omega)) ?_ ?_ ?_
  · rw [e 0 (by omega)]
    rcases h5 with q | q
    · exact Or.inl q
    · exact Or.inr (MEi_eq q (fun a x y => e a (by omega)))
  · rw [e 0 (by omega)]
    rcases h6 with q | q
    · exact Or.inl q
    · exact Or.inr (cR_eq q (fun a x y => e a (by omega)))
  · rw [e 0 (by omega)]
    rcases h7 with q | q
    · exact Or.inl q
    · exact Or.inr ⟨cR_eq q.1 (fun a x y => e a (by omega)), PLok_eq q.2 (fun a x y => e a (by omega))⟩
theorem back_eq {M M' : Mem} {h : Nat} {hs : Nat → FR} (r : back M h hs) (e1 : M' 61 1 = M 61 1) (e : M' 62 = M 62) : back M' h hs := ⟨by rw [e1]; exact r.1, fun t ht => fM_eq (r.2 t ht) e⟩
theorem JM_up {M M' : Mem} {S : ST} (h : JM M S) (e : ∀ j, j ≤ 10 → M' 61 j = M 61 j) (e2 : ∀ a, (62 ≤ a ∧ a ≤ 65) ∨ a = 69 → M' a = M a) : JM M' S := by
  obtain ⟨h1, h2, h3, h4⟩ := h
  refine ⟨fM_eq h1 (e2 _ (by omega)), back_eq h2 (e 1 (by omega)) (e2 _ (by omega)), ?_, LC_eq h4 (e2 _ (by omega)) (e2 _ (by omega)) (e2 _ (by omega)) (e2 _ (by omega))⟩
  rw [e 9 (by omega), e 10 (by omega), e2 69 (by omega)]
  exact h3
theorem JM_hi {M M' : Mem} {S : ST} (h : JM M S) (e : hiE M M') : JM M' S := JM_up h (fun j _ => by rw [e 61 (by omega)]) (fun a ha => e a (by omega))
/-- a call of the class, of the reference -/
def TC (f : Mem → Option (Int32 × Mem)) (r : ST → Int32) (nx : ST → ST) : Prop := ∀ M S, JC M S → ∃ M', f M = some (r S, M') ∧ JC M' (nx S) ∧ hiE M M'
def TM (f : Mem → Option (Int32 × Mem)) (r : ST → Int32) (nx : ST → ST) : Prop := ∀ M S, okS S → JM M S → ∃ M', f M = some (r S, M') ∧ JM M' (nx S) ∧ loE M M'
def QM (f : Mem → Option Int32) (r : ST → Int32) : Prop := ∀ M S, okS S → JM M S → f M = some (r S)
theorem sim_T {f m : Mem → Option (Int32 × Mem)} {r : ST → Int32} {nx : ST → ST} (h1 : TC f r nx) (h2 : TM m r nx) (M : Mem) (hJ : JJ M) : ∃ (r : Int32) (M1 : Mem) (M2 : Mem), f M = some (r, M1) ∧ m M1 = some (r, M2) ∧ JJ M2 := by
  obtain ⟨S, c, m'⟩ := hJ
  obtain ⟨M1, a1, a2, a3⟩ := h1 M S c
  obtain ⟨M2, b1, b2, b3⟩ := h2 M1 S c.1 (JM_hi m' a3)
  exact ⟨_, M1, M2, a1, b1, nx S, JC_lo a2 b3, b2⟩
theorem sim_Q {f : Mem → Option (Int32 × Mem)} {m : Mem → Option Int32} {r : ST → Int32} (h1 : TC f r id) (h2 : QM m r) (M : Mem) (hJ : JJ M) : ∃ (r : Int32) (M1 : Mem), f M = some (r, M1) ∧ m M1 = some r ∧ JJ M1 := by
  obtain ⟨S, c, m'⟩ := hJ
  obtain ⟨M1, a1, a2, a3⟩ := h1 M S c
  exact ⟨_, M1, a1, h2 M1 S c.1 (JM_hi m' a3), S, a2, JM_hi m' a3⟩
/-! what is known -/
theorem c_kR {M : Mem} {S : ST} {g : Nat} (hg : 5000 < g) (h : JC M S) : ∃ M', fn_X7_knownRelations g M = some M' ∧ eqx [0, 9, 10, 11, 12, 13] M M' ∧ cR M' S.F ∧ JC M' S := by
  have h' := h
  obtain ⟨h1, h2, h3, h4, h5, h6, h7⟩ := h
  unfold fn_X7_knownRelations
  by_cases c : M 0 10 = 0
  · rw [if_pos c]
    obtain ⟨M1, a1, a2, a3, a4⟩ := c_read (k := 9) (k1 := 1) hg (by decide) (by decide) h2.1 (okF_o h1.1) h2.2.2.2.2
    rw [a1]
    simp only [Option.bind_some, bv, jn_X7_knownRelations_23]
    have a2 : eqx [9, 10, 11, 12, 13] M M1 := a2
    have e2 : eqx [0, 9, 10, 11, 12, 13] M (st M1 0 10 1) := eqx_st (eqx_mono a2 (by decide)) (by decide) _ _
    have k : cR (st M1 0 10 1) S.F := cR_eq (M := M1) ⟨a3, a4⟩ (fun a x y => st_ne _ _ _ (by omega))
    have q9 : st M1 0 10 1 0 9 = M 0 9 := by rw [st_at, upd_ne _ _ (by decide), a2 0 (by decide)]
    have q11 : st M1 0 10 1 0 11 = M 0 11 := by rw [st_at, upd_ne _ _ (by decide), a2 0 (by decide)]
    refine ⟨_, rfl, e2, k, JC_up h' (fun a ha => e2 a (by simp; omega)) ?_ (Or.inr k) ?_⟩
    · rw [q9]
      rcases h5 with q | q
      · exact Or.inl q
      · exact Or.inr (MEi_eq q (fun a x y => e2 a (by simp; omega)))
    · rw [q11]
      rcases h7 with q | q
      · exact Or.inl q
      · exact Or.inr ⟨k, PLok_eq q.2 (fun a x y => e2 a (by simp; omega))⟩
  · rw [if_neg c]
    refine ⟨M, rfl, eqx_rf _ _, ?_, h'⟩
    rcases h6 with q | q
    · exact absurd q c
    · exact q
theorem c_kP {M : Mem} {S : ST} {g : Nat} (hg : 5000 < g) (h : JC M S) : ∃ M', fn_X7_knownPlanner g M = some M' ∧ hiE M M' ∧ cR M' S.F ∧ PLok M' S.F.A ∧ ¬ M' 0 11 = 0 ∧ JC M' S := by
  have h' := h
  obtain ⟨h1, h2, h3, h4, h5, h6, h7⟩ := h
  unfold fn_X7_knownPlanner
  by_cases c : M 0 11 = 0
  · rw [if_pos c]
    obtain ⟨M1, a1, a2, a3, a4⟩ := c_kR hg h'
    rw [a1]
    simp only [Option.bind_some]
    obtain ⟨M2, b1, b2, b3, b4, b5⟩ := c_fillTables a3.1 (okA_F h1.1) hg
    rw [b1]
    simp only [Option.bind_some, bv, jn_X7_knownPlanner_24]
    have e2 : eqx [0, 14, 15, 16, 19] M1 (st M2 0 11 1) := eqx_st (eqx_mono b2 (by decide)) (by decide) _ _
    have k : cR (st M2 0 11 1) S.F := cR_eq a3 (fun a x y => e2 a (by simp; omega))
    have p : PLok (st M2 0 11 1) S.F.A := PLok_eq (M := M2) ⟨b3, Or.inl b4⟩ (fun a x y => st_ne _ _ _ (by omega))
    refine ⟨_, rfl, hiE_tr (hiE_of a2 (by decide)) (hiE_of e2 (by decide)), k, p, by rw [st_at, upd_at]; decide, JC_up a4 (fun a ha => e2 a (by simp; omega)) ?_ ?_ (Or.inr ⟨k, p⟩)⟩
    · rw [st_at, upd_ne _ _ (by decide), b2 0 (by decide)]
      rcases a4.2.2.2.2.1 with q | q
      · exact Or.inl q
      · exact Or.inr (MEi_eq q (fun a x y => e2 a (by simp; omega)))
    · exact Or.inr k
  · rw [if_neg c]
    rcases h7 with q | q
    · exact absurd q c
    · exact ⟨M, rfl, hiE_rf _, q.1, q.2, c, h'⟩
theorem c_kM {M : Mem} {S : ST} {g : Nat} (hg : 5000 < g) (h : JC M S) : ∃ M', fn_X7_knownMeasures g M = some M' ∧ hiE M M' ∧ MEi M' S.F.o 216 ∧ JC M' S := by
  have h' := h
  obtain ⟨h1, h2, h3, h4, h5, h6, h7⟩ := h
  unfold fn_X7_knownMeasures
  by_cases c : M 0 9 = 0
  · rw [if_pos c]
    obtain ⟨M1, a1, a2, a3⟩ := c_mread hg (okF_o h1.1) h2.2.2.2.2
    rw [a1]
    simp only [Option.bind_some, bv, jn_X7_knownMeasures_23]
    have e2 : eqx [0, 4, 5, 6, 7, 8] M (st M1 0 9 1) := eqx_st (eqx_mono a2 (by decide)) (by decide) _ _
    have k : MEi (st M1 0 9 1) S.F.o 216 := MEi_eq a3 (fun a x y => st_ne _ _ _ (by omega))
    have q10 : st M1 0 9 1 0 10 = M 0 10 := by rw [st_at, upd_ne _ _ (by decide), a2 0 (by decide)]
    have q11 : st M1 0 9 1 0 11 = M 0 11 := by rw [st_at, upd_ne _ _ (by decide), a2 0 (by decide)]
    refine ⟨_, rfl, hiE_of e2 (by decide), k, JC_up h' (fun a ha => e2 a (by simp; omega)) (Or.inr k) ?_ ?_⟩
    · rw [q10]
      rcases h6 with q | q
      · exact Or.inl q
      · exact Or.inr (cR_eq q (fun a x y => e2 a (by simp; omega)))
    · rw [q11]
      rcases h7 with q | q
      · exact Or.inl q
      · exact Or.inr ⟨cR_eq q.1 (fun a x y => e2 a (by simp; omega)), PLok_eq q.2 (fun a x y => e2 a (by simp; omega))⟩
  · rw [if_neg c]
    rcases h5 with q | q
    · exact absurd q c
    · exact ⟨M, rfl, hiE_rf _, q, h'⟩
/-! numbers of pieces, sets, directions -/
def pcl (n : Nat) (x : Int32) : Int32 := if x < 0 then 0 else if nI n ≤ x then 0 else 1
def stl' (n : Nat) (x : Int32) : Int32 := if x < 0 then 0 else if nI (2 ^ n - 1) < x then 0 else 1
def dcl (x : Int32) : Int32 := if x < 0 then 0 else if (6 : Int32) ≤ x then 0 else 1
theorem oI_ltx {n : Nat} (hn : n < 2 ^ 31) (x : Int32) : oI n < x ↔ nI n ≤ x := by
  rw [fa_lt, fa_le, nI_toInt hn]
  have h1 : (1 : Int32).toInt = 1 := by decide
  have : (oI n).toInt = n - 1 := by
    unfold oI
    rw [fb_subI (by rw [nI_toInt hn, h1]; omega) (by rw [nI_toInt hn, h1]; omega), nI_toInt hn, h1]
  rw [this]; omega
theorem c_pcl {M : Mem} {F : FR} (h : fC M 1 F) (x : Int32) : fn_X7_isPiece x M = pcl F.n x := by
  unfold fn_X7_isPiece pcl
  rw [h.1]
theorem m_pcl {M : Mem} {n : Nat} (hn : n ≤ 8) (h : M 62 0 = nI n) (x : Int32) : fn_X8_isPiece x M = pcl n x := by
  unfold fn_X8_isPiece fn_X8_in pcl
  have h : M 62 (ix 0) = nI n := h
  rw [h, show nI n - 1 = oI n from rfl]
  simp only [oI_ltx (show n < 2 ^ 31 by omega)]
theorem c_dcl (x : Int32) : fn_X7_isDirection x = dcl x := rfl
theorem m_dcl (x : Int32) : fn_X8_isDirection x = dcl x := by
  unfold fn_X8_isDirection fn_X8_in dcl
  have := oI_ltx (n := 6) (by decide) x
  rw [show oI 6 = (5 : Int32) from by decide, show nI 6 = (6 : Int32) from rfl] at this
  simp only [this]
theorem all_eq {n : Nat} (hn : n ≤ 8) : sl 1 (nI n) - 1 = nI (2 ^ n - 1) := by
  rw [N_sl (by omega)]
  exact nI_sub (b := 1) (Nat.one_le_two_pow)
theorem c_stl {M : Mem} {F : FR} (hn : F.n ≤ 8) (h : fC M 1 F) (x : Int32) : fn_X7_isSet x M = stl' F.n x := by
  unfold fn_X7_isSet fn_X7_allPieces stl'
  rw [h.1, all_eq hn]
theorem m_stl {M : Mem} {n : Nat} (hn : n ≤ 8) (h : M 62 0 = nI n) (x : Int32) : fn_X8_isSet x M = stl' n x := by
  unfold fn_X8_isSet fn_X8_in fn_X8_all stl'
  have h : M 62 (ix 0) = nI n := h
  rw [h, all_eq hn]
theorem pcl_ex {n : Nat} (hn : n ≤ 8) {x : Int32} (h : ¬ pcl n x = 0) : ∃ p, p < n ∧ x = nI p := by
  unfold pcl at h
  by_cases c : x < 0
  · rw [if_pos c] at h; exact absurd rfl h
  · rw [if_neg c] at h
    by_cases c2 : nI n ≤ x
    · rw [if_pos c2] at h; exact absurd rfl h
    · exact nI_ex (by omega) c c2
theorem dcl_ex {x : Int32} (h : ¬ dcl x = 0) : ∃ p, p < 6 ∧ x = nI p := by
  unfold dcl at h
  by_cases c : x < 0
  · rw [if_pos c] at h; exact absurd rfl h
  · rw [if_neg c] at h
    by_cases c2 : (6 : Int32) ≤ x
    · rw [if_pos c2] at h; exact absurd rfl h
    · exact nI_ex (n := 6) (by decide) c c2
theorem stl_ex {n : Nat} (hn : n ≤ 8) {x : Int32} (h : ¬ stl' n x = 0) : ∃ p, p < 2 ^ n ∧ x = nI p := by
  have hb := lt256 (a := 2 ^ n - 1) (n := n) (by have := Nat.one_le_two_pow (n := n); omega) hn
  unfold stl' at h
  by_cases c : x < 0
  · rw [if_pos c] at h; exact absurd rfl h
  · rw [if_neg c] at h
    by_cases c2 : nI (2 ^ n - 1) < x
    · rw [if_pos c2] at h; exact absurd rfl h
    · have h1 := Nat.one_le_two_pow (n := n)
      refine nI_ex (by omega) c ?_
      intro q
      apply c2
      have := (oI_ltx (n := 2 ^ n) (by omega) x).mpr q
      rwa [show oI (2 ^ n) = nI (2 ^ n - 1) from nI_sub (b := 1) h1] at this
theorem stl_in {n s : Nat} (hn : n ≤ 8) (h : s < 2 ^ n) : ¬ stl' n (nI s) = 0 := by
  have hb := lt256 h hn
  have hb2 := lt256 (a := 2 ^ n - 1) (n := n) (by have := Nat.one_le_two_pow (n := n); omega) hn
  unfold stl'
  rw [if_neg (nI_nn (by omega)), if_neg (fun q => by have := (nI_ltI (by omega) (by omega)).mp q; omega)]
  decide
