/-! ===== building ===== -/
theorem st_same {M : Mem} {k j : Nat} {v : Int32} (h : M k j = v) : st M k j v = M := by
  rw [st_eq, fa_upd_same h, stf_self]
def bF (F : FR) (b : Nat) (s : Int32) : FR := (F.n, b, s, F.x, F.o)
theorem okF_b' {F : FR} (h : okF F) {b : Nat} (hb : b < 2 ^ F.n) (s : Int32) : okF (bF F b s) := ⟨h.1, hb, h.2.2.1, h.2.2.2.1, h.2.2.2.2⟩
theorem xor_lt' {b p n : Nat} (hb : b < 2 ^ n) (hp : p < n) : b ^^^ 2 ^ p < 2 ^ n := Nat.xor_lt_two_pow hb (Nat.pow_lt_pow_right (by decide) hp)
/-- the class's building changes: what is known of the pieces stays -/
theorem JC_bld {M M1 M2 : Mem} {S : ST} {b : Nat} {s : Int32} (h : JC M S) (e1 : eqx LR M M1) (r1 : ring M1 (rcH S.h) (rcS S.h S.hs S.F)) (e2 : eqx [1] M1 M2) (hb : b < 2 ^ S.F.n) (f2 : fC M2 1 (bF S.F b s)) : JC M2 (rcd S (bF S.F b s)) := by
  have e : ∀ a, a ≤ 20 → a ≠ 1 → M2 a = M a := fun a h1 h2 => (e2 a (by simp; omega)).trans (e1 a (by simp [LR]; omega))
  refine ⟨okS_rcd h.1 (okF_b' h.1.1 hb s), f2, ring_eq r1 (fun a x y => e2 a (by simp; omega)), ?_, ?_, ?_, ?_⟩
  · rw [e2 47 (by decide), e1 47 (by decide), e2 48 (by decide), e1 48 (by decide)]
    exact h.2.2.2.1
  · rw [e 0 (by omega) (by omega)]
    rcases h.2.2.2.2.1 with q | q
    · exact Or.inl q
    · exact Or.inr (MEi_eq q (fun a x y => e a (by omega) (by omega)))
  · rw [e 0 (by omega) (by omega)]
    rcases h.2.2.2.2.2.1 with q | q
    · exact Or.inl q
    · exact Or.inr (cR_eq (F := S.F) q (fun a x y => e a (by omega) (by omega)))
  · rw [e 0 (by omega) (by omega)]
    rcases h.2.2.2.2.2.2 with q | q
    · exact Or.inl q
    · exact Or.inr ⟨cR_eq (F := S.F) q.1 (fun a x y => e a (by omega) (by omega)), PLok_eq q.2 (fun a x y => e a (by omega) (by omega))⟩
theorem c_turn {M : Mem} {F : FR} {p : Nat} (hp : p < 8) (h : fC M 1 F) : ∃ M', fn_X1_turn 1 (nI p) M = some M' ∧ eqx [1] M M' ∧ fC M' 1 (bF F (F.b ^^^ 2 ^ p) (F.s + 1)) := by
  unfold fn_X1_turn
  simp only [bv]
  obtain ⟨h1, h2, h3, h4, h5⟩ := h
  refine ⟨_, rfl, eqx_st (eqx_st (eqx_rf _ _) (by decide) _ _) (by decide) _ _, ?_, ?_, ?_, ?_, ?_⟩
  · rw [st_at, upd_ne _ _ (by decide), st_at, upd_ne _ _ (by decide)]; exact h1
  · rw [st_at, upd_ne _ _ (by decide), st_at, upd_at, h2, N_sl (by omega), N_xor]; rfl
  · rw [st_at, upd_at, st_at, upd_ne _ _ (by decide), h3]; rfl
  · intro j hj; rw [st_ne _ _ _ (by decide), st_ne _ _ _ (by decide)]; exact h4 j hj
  · intro c hc; rw [st_ne _ _ _ (by decide), st_ne _ _ _ (by decide)]; exact h5 c hc
theorem m_bld {M : Mem} {F : FR} (b : Nat) (s : Int32) (h : fM M 0 F) : fM (st (st M 62 1 (nI b)) 62 2 s) 0 (bF F b s) := by
  refine fM_mk ?_ ?_ ?_ ?_ ?_
  · rw [st_at, upd_ne _ _ (by decide), st_at, upd_ne _ _ (by decide)]; exact fM_n (F := F) h
  · rw [st_at, upd_ne _ _ (by decide), st_at, upd_at]; rfl
  · rw [st_at, upd_at]; rfl
  · intro j hj; rw [st_at, upd_ne _ _ (by omega), st_at, upd_ne _ _ (by omega)]; exact fM_x (F := F) h hj
  · intro c hc; rw [st_at, upd_ne _ _ (by omega), st_at, upd_ne _ _ (by omega)]; exact fM_o (F := F) h c hc
theorem fM_far {M M' : Mem} {p : Nat} {G : FR} (hp : 0 < p) (h : fM M p G) (e : ∀ j, 227 ≤ j → M' 62 j = M 62 j) : fM M' p G := fun k hk => by rw [e _ (by omega)]; exact h k hk
theorem JM_bld {M M1 : Mem} {S : ST} {b : Nat} {s : Int32} (h : JM M S) (e1 : eqx [61, 62] M M1) (r1 : back M1 (rcH S.h) (rcS S.h S.hs S.F)) (f1 : fM M1 0 S.F) (k1 : ∀ j, j ≠ 1 → M1 61 j = M 61 j) : JM (st (st M1 62 1 (nI b)) 62 2 s) (rcd S (bF S.F b s)) := by
  obtain ⟨M2, hM2⟩ : ∃ z, z = st (st M1 62 1 (nI b)) 62 2 s := ⟨_, rfl⟩
  have e2 : eqx [62] M1 M2 := by rw [hM2]; exact eqx_st (eqx_st (eqx_rf _ _) (by decide) _ _) (by decide) _ _
  have f2 := m_bld b s f1
  rw [← hM2] at f2 ⊢
  have far : ∀ j, 227 ≤ j → M2 62 j = M1 62 j := fun j hj => by rw [hM2, st_at, upd_ne _ _ (by omega), st_at, upd_ne _ _ (by omega)]
  refine ⟨f2, ⟨by rw [e2 61 (by decide)]; exact r1.1, fun t ht => fM_far (by omega) (r1.2 t ht) far⟩, ?_, fM_n f2, ?_, ?_, ?_⟩
  · rw [e2 61 (by decide), e2 69 (by decide), k1 9 (by decide), k1 10 (by decide), e1 69 (by decide)]
    exact h.2.2.1
  · intro p d hp hd; rw [e2 63 (by decide), e1 63 (by decide)]; exact h.2.2.2.2.1 p d hp hd
  · intro p hp; rw [e2 64 (by decide), e1 64 (by decide)]; exact h.2.2.2.2.2.1 p hp
  · intro p hp; rw [e2 65 (by decide), e1 65 (by decide)]; exact h.2.2.2.2.2.2 p hp
def okSt (o : Bool) (S : ST) (p d : Nat) : Bool := (S.F.b.testBit p == o) && fr S.F.A p S.F.b d
def aStp (o : Bool) (x y : Int32) (S : ST) : Int32 := if pcl S.F.n x = 0 then -1 else if dcl y = 0 then -1 else if okSt o S (ix x) (ix y) then nI (pr S.F.A (S.F.b ^^^ 2 ^ ix x)) else -2
def nStp (o : Bool) (x y : Int32) (S : ST) : ST := if pcl S.F.n x = 0 then S else if dcl y = 0 then S else if okSt o S (ix x) (ix y) then rcd S (bF S.F (S.F.b ^^^ 2 ^ ix x) (S.F.s + 1)) else S
theorem tc_stp {g : Nat} (hg : 5000 < g) (o : Bool) (x y : Int32) : TC (fn_X7_step g x y (if o then 1 else 0)) (aStp o x y) (nStp o x y) := by
  intro M S h
  unfold fn_X7_step aStp nStp
  rw [c_pcl h.2.1, c_dcl]
  by_cases c : pcl S.F.n x = 0
  · rw [if_pos c, if_pos c, if_pos c]; exact ⟨M, rfl, h, hiE_rf _⟩
  obtain ⟨p, hp, rfl⟩ := pcl_ex h.1.1.1 c
  rw [if_neg c, if_neg c, if_neg c]
  by_cases c2 : dcl y = 0
  · rw [if_pos c2, if_pos c2, if_pos c2]; exact ⟨M, rfl, h, hiE_rf _⟩
  obtain ⟨d, hd, rfl⟩ := dcl_ex c2
  have h8 := h.1.1.1
  have hb := okF_b h.1.1
  rw [if_neg c2, if_neg c2, if_neg c2, ix_nI (show p < 2 ^ 31 by omega), ix_nI (show d < 2 ^ 31 by omega)]
  obtain ⟨M1, a1, a2, a3, a4⟩ := c_kR hg h
  rw [a1]
  simp only [Option.bind_some]
  have hh1 := hiE_of a2 (by decide)
  rw [a4.2.1.2.1, has7 (by omega) (by omega)]
  unfold okSt
  by_cases cb : S.F.b.testBit p = o
  · rw [if_pos (by rw [cb]), c_isFree a3.1 (okA_F h.1.1) (by omega) hd]
    simp only [Option.bind_some]
    cases hf : fr S.F.A p S.F.b d
    · simp only [Bool.and_false, Bool.false_eq_true, if_false, if_true]
      exact ⟨M1, rfl, a4, hh1⟩
    · rw [show (S.F.b.testBit p == o) = true by simp [cb]]
      simp only [Bool.and_true, if_true]
      rw [if_neg (by decide)]
      obtain ⟨M2, b1, b2, b3⟩ := c_record a4.1.2.1 a4.2.2.1 a4.2.1
      rw [b1]
      simp only [Option.bind_some]
      obtain ⟨M3, d1, d2, d3⟩ := c_turn (p := p) (by omega) (fC_eq a4.2.1 (b2 _ (by decide)) (b2 _ (by decide)) (b2 _ (by decide)))
      rw [d1]
      simp only [Option.bind_some]
      have hx := xor_lt' h.1.1.2.1 hp
      have k3 : RC M3 9 S.F.A := RC_eq a3.1 ((d2 _ (by decide)).trans (b2 _ (by decide))) ((d2 _ (by decide)).trans (b2 _ (by decide))) ((d2 _ (by decide)).trans (b2 _ (by decide))) ((d2 _ (by decide)).trans (b2 _ (by decide)))
      rw [show M3 1 3 = nI (S.F.b ^^^ 2 ^ p) from d3.2.1, c_props k3 (okA_F h.1.1) hg (lt256 hx h8)]
      exact ⟨M3, rfl, JC_bld a4 b2 b3 d2 hx d3, hiE_tr hh1 (hiE_tr (hiE_of b2 LR_lo) (hiE_of d2 (by decide)))⟩
  · rw [if_neg (by cases o <;> cases e : S.F.b.testBit p <;> simp_all), show (S.F.b.testBit p == o) = false by simp [cb]]
    simp only [Bool.false_and, Bool.false_eq_true, if_false]
    exact ⟨M1, rfl, a4, hh1⟩
theorem bind_id {x : Option (Int32 × Mem)} : (x.bind (u2 fun r M => some (r, M))) = x := by
  cases x with
  | none => rfl
  | some v => rfl
theorem tc_put {g : Nat} (hg : 5000 < g) (x y : Int32) : TC (fn_X7_put g x y) (aStp false x y) (nStp false x y) := by
  intro M S h
  unfold fn_X7_put
  rw [bind_id]
  exact tc_stp hg false x y M S h
theorem tc_tko {g : Nat} (hg : 5000 < g) (x y : Int32) : TC (fn_X7_takeOut g x y) (aStp true x y) (nStp true x y) := by
  intro M S h
  unfold fn_X7_takeOut
  rw [bind_id]
  exact tc_stp hg true x y M S h
theorem or_xor {b p : Nat} (h : b.testBit p = false) : b ||| 2 ^ p = b ^^^ 2 ^ p := by
  apply Nat.eq_of_testBit_eq
  intro i
  rw [fb_bit_set, fb_bit_flip]
  by_cases e : i = p
  · subst e; rw [h]; simp
  · simp [e]
theorem LC_bld {M M' : Mem} {A : AB} (h : LC M A) (e0 : M' 62 0 = M 62 0) (e3 : M' 63 = M 63) (e4 : M' 64 = M 64) (e5 : M' 65 = M 65) : LC M' A := by
  unfold LC at *
  rw [e0, e3, e4, e5]
  exact h
theorem m_step {M : Mem} {S : ST} {g p : Nat} (hg : 5000 < g) (ok : okS S) (h : JM M S) (hp : p < S.F.n) (u : Int32 → Int32) (hu : u (nI S.F.b) = nI (S.F.b ^^^ 2 ^ p)) : ∃ M', ((fn_X8_records g M).bind fun M_6 =>
          bv (st M_6 62 (ix (1 : Int32)) (u (M_6 62 (ix (1 : Int32))))) fun M_7 =>
          bv (st M_7 62 (ix (2 : Int32)) ((M_7 62 (ix (2 : Int32))) + (1 : Int32))) fun M_8 =>
          (fn_X8_propsOf g (M_8 62 (ix (1 : Int32))) M_8).bind fun r_9 =>
          some (r_9, M_8)) = some (nI (pr S.F.A (S.F.b ^^^ 2 ^ p)), M') ∧ JM M' (rcd S (bF S.F (S.F.b ^^^ 2 ^ p) (S.F.s + 1))) ∧ loE M M' := by
  obtain ⟨M1, a1, a2, a3, a4, a5, a6⟩ := m_records hg ok.2.1 h.2.1 h.1
  rw [a1]
  simp only [Option.bind_some, bv]
  have hx := xor_lt' ok.1.2.1 hp
  rw [show M1 62 (ix 1) = nI S.F.b from fM_b a4, hu]
  have e1 : ix (1 : Int32) = 1 := rfl
  have e2 : ix (2 : Int32) = 2 := rfl
  rw [e1, e2]
  have es : st M1 62 1 (nI (S.F.b ^^^ 2 ^ p)) 62 2 + 1 = S.F.s + 1 := by
    rw [st_at, upd_ne _ _ (by decide)]
    rw [fM_s a4]
  rw [es]
  have j2 := JM_bld (b := S.F.b ^^^ 2 ^ p) (s := S.F.s + 1) h a2 a3 a4 a5
  rw [show st (st M1 62 1 (nI (S.F.b ^^^ 2 ^ p))) 62 2 (S.F.s + 1) 62 1 = nI (S.F.b ^^^ 2 ^ p) from fM_b j2.1, m_props (A := S.F.A) j2.2.2.2 (okA_F ok.1) hg (lt256 hx ok.1.1)]
  exact ⟨_, rfl, j2, loE_tr (loE_of a2 (by decide)) (loE_of (eqx_st (eqx_st (eqx_rf [62] M1) (by decide) _ _) (by decide) _ _) (by decide))⟩
theorem tm_put {g : Nat} (hg : 5000 < g) (x y : Int32) : TM (fn_X8_put g x y) (aStp false x y) (nStp false x y) := by
  intro M S ok h
  unfold fn_X8_put aStp nStp
  rw [m_pcl ok.1.1 (fM_n h.1), m_dcl]
  by_cases c : pcl S.F.n x = 0
  · rw [if_pos c, if_pos c, if_pos c]; exact ⟨M, rfl, h, loE_rf _⟩
  obtain ⟨p, hp, rfl⟩ := pcl_ex ok.1.1 c
  rw [if_neg c, if_neg c, if_neg c]
  by_cases c2 : dcl y = 0
  · rw [if_pos c2, if_pos c2, if_pos c2]; exact ⟨M, rfl, h, loE_rf _⟩
  obtain ⟨d, hd, rfl⟩ := dcl_ex c2
  have h8 := ok.1.1
  have hb := okF_b ok.1
  rw [if_neg c2, if_neg c2, if_neg c2, ix_nI (show p < 2 ^ 31 by omega), ix_nI (show d < 2 ^ 31 by omega), show M 62 (ix 1) = nI S.F.b from fM_b h.1, has8 (by omega) (by omega)]
  unfold okSt
  cases cb : S.F.b.testBit p
  · simp only [Bool.false_eq_true, if_false, if_true, beq_self_eq_true, Bool.true_and]
    rw [m_isFree h.2.2.2 (okA_F ok.1) (by omega) hd]
    simp only [Option.bind_some]
    cases hf : fr S.F.A p S.F.b d
    · simp only [Bool.false_eq_true, if_false, if_true]
      exact ⟨M, rfl, h, loE_rf _⟩
    · simp only [if_true]
      rw [if_neg (by decide)]
      exact m_step hg ok h hp (fun v => v ||| sl 1 (nI p)) (by rw [N_sl (by omega), N_or, or_xor cb])
  · simp only [if_true]
    rw [if_neg (by decide), show (true == false) = false from rfl]
    simp only [Bool.false_and, Bool.false_eq_true, if_false]
    exact ⟨M, rfl, h, loE_rf _⟩
theorem tm_tko {g : Nat} (hg : 5000 < g) (x y : Int32) : TM (fn_X8_takeOut g x y) (aStp true x y) (nStp true x y) := by
  intro M S ok h
  unfold fn_X8_takeOut aStp nStp
  rw [m_pcl ok.1.1 (fM_n h.1), m_dcl]
  by_cases c : pcl S.F.n x = 0
  · rw [if_pos c, if_pos c, if_pos c]; exact ⟨M, rfl, h, loE_rf _⟩
  obtain ⟨p, hp, rfl⟩ := pcl_ex ok.1.1 c
  rw [if_neg c, if_neg c, if_neg c]
  by_cases c2 : dcl y = 0
  · rw [if_pos c2, if_pos c2, if_pos c2]; exact ⟨M, rfl, h, loE_rf _⟩
  obtain ⟨d, hd, rfl⟩ := dcl_ex c2
  have h8 := ok.1.1
  have hb := okF_b ok.1
  rw [if_neg c2, if_neg c2, if_neg c2, ix_nI (show p < 2 ^ 31 by omega), ix_nI (show d < 2 ^ 31 by omega), show M 62 (ix 1) = nI S.F.b from fM_b h.1, has8 (by omega) (by omega)]
  unfold okSt
  cases cb : S.F.b.testBit p
  · simp only [Bool.false_eq_true, if_false, if_true]
    rw [show (false == true) = false from rfl]
    simp only [Bool.false_and, Bool.false_eq_true, if_false]
    exact ⟨M, rfl, h, loE_rf _⟩
  · simp only [if_true, beq_self_eq_true, Bool.true_and]
    rw [if_neg (by decide), m_isFree h.2.2.2 (okA_F ok.1) (by omega) hd]
    simp only [Option.bind_some]
    cases hf : fr S.F.A p S.F.b d
    · simp only [Bool.false_eq_true, if_false, if_true]
      exact ⟨M, rfl, h, loE_rf _⟩
    · simp only [if_true]
      rw [if_neg (by decide)]
      exact m_step hg ok h hp (fun v => v &&& (sl 1 (nI p) ^^^ (-1))) (by rw [N_sl (by omega), N_dif, dif_xor cb])
