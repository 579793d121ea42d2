theorem m_moves {M : Mem} {p d g : Nat} {F : FR} (hg : 5000 < g) (h : fM M 0 F) (ok : okF F) (hp : p < F.n) (hd : d < 6) (hm : cmv F.o p d = true) : ∃ M', fn_X8_moves g (nI p) (nI d) M = some M' ∧ eqx [62, 63, 64, 65, 70] M M' ∧ fM M' 0 (mvF F p d) ∧ (∀ j, 227 ≤ j → M' 62 j = M 62 j) ∧ LC M' (mvF F p d).A := by
  have h8 := ok.1
  have ho := okF_o ok
  unfold fn_X8_moves
  have key : ∃ M', lpN g (bd_X8_moves_2 (nI p)) ((0 : Int32), M) = some M' ∧ (eqx [62, 70] M M' ∧ (∀ c, c < 216 → M' 62 (11 + c) = nI (if F.o c = p + 1 then 0 else F.o c)) ∧ (∀ c, c < 216 → M' 70 c = if F.o c = p + 1 then 1 else 0) ∧ (∀ j, (j < 11 ∨ 227 ≤ j) → M' 62 j = M 62 j)) := by
    refine lp_inv (fun i w => w.1 = nI i ∧ eqx [62, 70] M w.2 ∧ (∀ c, c < 216 → w.2 62 (11 + c) = nI (if F.o c = p + 1 ∧ c < i then 0 else F.o c)) ∧ (∀ c, c < i → w.2 70 c = if F.o c = p + 1 then 1 else 0) ∧ (∀ j, (j < 11 ∨ 227 ≤ j) → w.2 62 j = M 62 j)) _ 216 ?_ ?_ (by omega) ⟨rfl, eqx_rf _ _, fun c hc => by rw [if_neg (by omega)]; exact fM_o h c hc, fun c hc => by omega, fun _ _ => rfl⟩
    · rintro i ⟨w, N⟩ hi ⟨q1, q2, q3, q4, q5⟩
      dsimp only at q1 q2 q3 q4 q5
      subst q1
      have hoi := ho i hi
      have ni : N 62 (11 + i) = nI (F.o i) := by rw [q3 i hi, if_neg (by omega)]
      have hat : fn_X8_at (nI i) N = some (oI (F.o i)) := by
        unfold fn_X8_at
        rw [show (11 : Int32) + nI i = nI (11 + i) from nI_add 11 i, if_pos (inb_nI (show 11 + i < 2270 by omega) (by decide)), ix_nI (by omega), ni]
        rfl
      have ii : inb (nI i) 216 := inb_nI hi (by decide)
      have i11 : inb (nI (11 + i)) 2270 := inb_nI (show 11 + i < 2270 by omega) (by decide)
      have e11 : (11 : Int32) + nI i = nI (11 + i) := nI_add 11 i
      simp only [bd_X8_moves_2, u2]
      rw [if_neg (show ¬ (216 : Int32) ≤ nI i from nI_ge (b := 216) hi (by decide)), hat]
      simp only [Option.bind_some]
      by_cases c1 : F.o i = p + 1
      · rw [if_pos ((oI_eq (by omega) (by omega)).mpr c1)]
        unfold jn_X8_moves_28
        rw [if_pos ii, if_pos (Or.inr rfl), ix_nI (by omega)]
        simp only [bv]
        rw [if_pos ii, st_at, upd_at, if_neg (by decide)]
        unfold jn_X8_moves_59
        rw [e11, if_pos i11, ix_nI (by omega), inc]
        simp only [bv]
        refine ⟨_, rfl, rfl, eqx_st (eqx_st q2 (by decide) _ _) (by decide) _ _, ?_, ?_, ?_⟩
        · intro c hc
          dsimp only
          rw [st_at, st_ne _ _ _ (by decide)]
          by_cases e : c = i
          · rw [e, upd_at, if_pos ⟨c1, by omega⟩]; rfl
          · rw [upd_ne _ _ (by omega), q3 c hc]
            by_cases e2 : F.o c = p + 1 ∧ c < i
            · rw [if_pos e2, if_pos ⟨e2.1, by omega⟩]
            · rw [if_neg e2, if_neg (fun z => e2 ⟨z.1, by omega⟩)]
        · intro c hc
          dsimp only
          rw [st_ne _ _ _ (by decide), st_at]
          by_cases e : c = i
          · rw [e, upd_at, if_pos c1]
          · rw [upd_ne _ _ e]; exact q4 c (by omega)
        · intro j hj
          dsimp only
          rw [st_at, upd_ne _ _ (by omega), st_ne _ _ _ (by decide)]
          exact q5 j hj
      · rw [if_neg (fun q => c1 ((oI_eq (by omega) (by omega)).mp q))]
        unfold jn_X8_moves_28
        rw [if_pos ii, if_pos (Or.inl rfl), ix_nI (by omega)]
        simp only [bv]
        rw [if_pos ii, st_at, upd_at, if_pos rfl, e11, if_pos i11, ix_nI (by omega), st_ne _ _ _ (by decide), ni]
        unfold jn_X8_moves_59
        rw [if_pos i11, ix_nI (by omega), inc]
        simp only [bv]
        refine ⟨_, rfl, rfl, eqx_st (eqx_st q2 (by decide) _ _) (by decide) _ _, ?_, ?_, ?_⟩
        · intro c hc
          dsimp only
          rw [st_at, st_ne _ _ _ (by decide)]
          by_cases e : c = i
          · rw [e, upd_at, if_neg (fun z => c1 z.1)]
          · rw [upd_ne _ _ (by omega), q3 c hc]
            by_cases e2 : F.o c = p + 1 ∧ c < i
            · rw [if_pos e2, if_pos ⟨e2.1, by omega⟩]
            · rw [if_neg e2, if_neg (fun z => e2 ⟨z.1, by omega⟩)]
        · intro c hc
          dsimp only
          rw [st_ne _ _ _ (by decide), st_at]
          by_cases e : c = i
          · rw [e, upd_at, if_neg c1]
          · rw [upd_ne _ _ e]; exact q4 c (by omega)
        · intro j hj
          dsimp only
          rw [st_at, upd_ne _ _ (by omega), st_ne _ _ _ (by decide)]
          exact q5 j hj
    · rintro ⟨w, N⟩ ⟨q1, q2, q3, q4, q5⟩
      dsimp only at q1 q2 q3 q4 q5
      subst q1
      refine ⟨N, ?_, q2, ?_, q4, q5⟩
      · simp only [bd_X8_moves_2, u2]
        rw [if_pos (by decide)]
      · intro c hc
        rw [q3 c hc]
        by_cases e : F.o c = p + 1
        · rw [if_pos ⟨e, hc⟩, if_pos e]
        · rw [if_neg (fun z => e z.1), if_neg e]
  obtain ⟨M1, a1, a2, a3, a4, a5⟩ := key
  rw [a1]
  simp only [Option.bind_some, u1]
  have key2 : ∃ M', lpN g (bd_X8_moves_68 (nI p) (nI d)) ((0 : Int32), M1) = some M' ∧ (eqx [62] M1 M' ∧ hP M' (mvO F.o p d) ∧ (∀ j, (j < 11 ∨ 227 ≤ j) → M' 62 j = M1 62 j)) := by
    refine lp_inv (fun i w => w.1 = nI i ∧ eqx [62] M1 w.2 ∧ (∀ c, c < 216 → w.2 62 (11 + c) = nI (if (nb c (opp d) < 216 ∧ F.o (nb c (opp d)) = p + 1) ∧ nb c (opp d) < i then p + 1 else if F.o c = p + 1 then 0 else F.o c)) ∧ (∀ j, (j < 11 ∨ 227 ≤ j) → w.2 62 j = M1 62 j)) _ 216 ?_ ?_ (by omega) ⟨rfl, eqx_rf _ _, fun c hc => by rw [if_neg (by omega)]; exact a3 c hc, fun _ _ => rfl⟩
    · rintro i ⟨w, N⟩ hi ⟨q1, q2, q3, q4⟩
      dsimp only at q1 q2 q3 q4
      subst q1
      simp only [bd_X8_moves_68, u2]
      rw [if_neg (show ¬ (216 : Int32) ≤ nI i from nI_ge (b := 216) hi (by decide)), if_pos (inb_nI hi (by decide)), ix_nI (by omega), q2 70 (by decide), a4 i hi, inc]
      by_cases c1 : F.o i = p + 1
      · obtain ⟨e1, e2⟩ := cmv_at hm hi c1
        rw [if_pos c1, if_neg (by decide), m_nb hi hd, nbI_in e1, show (11 : Int32) + nI (nb i d) = nI (11 + nb i d) from nI_add 11 _, if_pos (inb_nI (show 11 + nb i d < 2270 by omega) (by decide)), ix_nI (by omega), inc]
        simp only [bv]
        have back := nb_op hi hd e1
        refine ⟨_, rfl, rfl, eqx_st q2 (by decide) _ _, ?_, ?_⟩
        · intro c hc
          dsimp only
          rw [st_at]
          by_cases ec : c = nb i d
          · rw [ec, upd_at, back, if_pos ⟨⟨hi, c1⟩, by omega⟩]
          · rw [upd_ne _ _ (by omega), q3 c hc]
            by_cases z : (nb c (opp d) < 216 ∧ F.o (nb c (opp d)) = p + 1) ∧ nb c (opp d) < i
            · rw [if_pos z, if_pos ⟨z.1, by omega⟩]
            · have z' : ¬ ((nb c (opp d) < 216 ∧ F.o (nb c (opp d)) = p + 1) ∧ nb c (opp d) < i + 1) := by
                rintro ⟨z1, z2⟩
                apply z
                refine ⟨z1, ?_⟩
                have hne : nb c (opp d) ≠ i := by
                  intro w
                  apply ec
                  have := (nb_po hc hd z1.1).1
                  rw [w] at this
                  exact this.symm
                omega
              rw [if_neg z, if_neg z']
        · intro j hj
          dsimp only
          rw [st_at, upd_ne _ _ (by omega)]
          exact q4 j hj
      · rw [if_neg c1, if_pos rfl]
        refine ⟨_, rfl, rfl, q2, ?_, q4⟩
        intro c hc
        dsimp only
        rw [q3 c hc]
        by_cases z : (nb c (opp d) < 216 ∧ F.o (nb c (opp d)) = p + 1) ∧ nb c (opp d) < i
        · rw [if_pos z, if_pos ⟨z.1, by omega⟩]
        · have z' : ¬ ((nb c (opp d) < 216 ∧ F.o (nb c (opp d)) = p + 1) ∧ nb c (opp d) < i + 1) := by
            rintro ⟨z1, z2⟩
            apply z
            refine ⟨z1, ?_⟩
            have hne : nb c (opp d) ≠ i := fun w => c1 (by rw [← w]; exact z1.2)
            omega
          rw [if_neg z, if_neg z']
    · rintro ⟨w, N⟩ ⟨q1, q2, q3, q4⟩
      dsimp only at q1 q2 q3 q4
      subst q1
      refine ⟨N, ?_, q2, ?_, q4⟩
      · simp only [bd_X8_moves_68, u2]
        rw [if_pos (by decide)]
      · intro c hc
        rw [q3 c hc]
        unfold mvO
        by_cases z : nb c (opp d) < 216 ∧ F.o (nb c (opp d)) = p + 1
        · rw [if_pos z, if_pos ⟨z, z.1⟩]
        · rw [if_neg z, if_neg (fun w => z w.1)]
  obtain ⟨M2, b1, b2, b3, b4⟩ := key2
  rw [b1]
  simp only [Option.bind_some, u1]
  have f2 : fM M2 0 (mvF F p d) := by
    refine fM_mk ?_ ?_ ?_ ?_ b3
    · rw [b4 _ (by omega), a5 _ (by omega)]; exact fM_n (F := F) h
    · rw [b4 _ (by omega), a5 _ (by omega)]; exact fM_b (F := F) h
    · rw [b4 _ (by omega), a5 _ (by omega)]; exact fM_s (F := F) h
    · intro j hj; rw [b4 _ (by omega), a5 _ (by omega)]; exact fM_x (F := F) h hj
  have okm := okF_mv ok hp hd hm
  obtain ⟨M3, d1, d2, d3⟩ := m_lays hg (fM_n f2) (okF_o okm) (fM_o f2)
  rw [d1]
  refine ⟨M3, rfl, eqx_tr (eqx_mono a2 (by decide)) (eqx_tr (eqx_mono b2 (by decide)) (eqx_mono d2 (by decide))), fM_eq f2 (d2 _ (by decide)), ?_, d3⟩
  intro j hj
  rw [d2 62 (by decide), b4 j (by omega), a5 j (by omega)]
def aShf (x y : Int32) (S : ST) : Int32 := if sfI x y S = 0 then 1 else sfI x y S
def nShf (x y : Int32) (S : ST) : ST := if sfI x y S = 0 then rcd S (mvF S.F (ix x) (ix y)) else S
theorem sf_ex {x y : Int32} {S : ST} (ok : okS S) (h : sfI x y S = 0) : ∃ p d, p < S.F.n ∧ d < 6 ∧ x = nI p ∧ y = nI d ∧ cmv S.F.o p d = true := by
  unfold sfI at h
  by_cases c : pcl S.F.n x = 0
  · rw [if_pos c] at h; exact absurd h (by decide)
  rw [if_neg c] at h
  by_cases c2 : dcl y = 0
  · rw [if_pos c2] at h; exact absurd h (by decide)
  rw [if_neg c2] at h
  obtain ⟨p, hp, rfl⟩ := pcl_ex ok.1.1 c
  obtain ⟨d, hd, rfl⟩ := dcl_ex c2
  have h8 := ok.1.1
  rw [ix_nI (by omega), ix_nI (by omega)] at h
  refine ⟨p, d, hp, hd, rfl, rfl, ?_⟩
  cases q : cmv S.F.o p d
  · rw [q] at h; exact absurd h (by decide)
  · rfl
theorem tc_shf {g : Nat} (hg : 5000 < g) (x y : Int32) : TC (fn_X7_shift g x y) (aShf x y) (nShf x y) := by
  intro M S h
  unfold fn_X7_shift aShf nShf
  rw [c_sf hg h]
  simp only [Option.bind_some]
  by_cases c : sfI x y S = 0
  · rw [if_pos c, if_pos c, if_pos c]
    obtain ⟨p, d, hp, hd, rfl, rfl, hm⟩ := sf_ex h.1 c
    have h8 := h.1.1.1
    rw [ix_nI (by omega), ix_nI (by omega)]
    obtain ⟨M1, a1, a2, a3⟩ := c_record h.1.2.1 h.2.2.1 h.2.1
    rw [a1]
    simp only [Option.bind_some]
    obtain ⟨M2, b1, b2, b3⟩ := c_move hg (fC_eq h.2.1 (a2 _ (by decide)) (a2 _ (by decide)) (a2 _ (by decide))) h.1.1 hp hd hm
    rw [b1]
    simp only [Option.bind_some]
    obtain ⟨M3, d1, d2, d3, d4, d5⟩ := c_forget M2
    rw [d1]
    exact ⟨M3, rfl, JC_chg h a2 a3 (fun a x y => b2 a (by simp; omega)) (okF_mv h.1.1 hp hd hm) b3 d2 d3 d4 d5, hiE_tr (hiE_of a2 LR_lo) (hiE_tr (hiE_of b2 (by decide)) (hiE_of d2 (by decide)))⟩
  · rw [if_neg c, if_neg c, if_neg c]; exact ⟨M, rfl, h, hiE_rf _⟩
theorem tm_shf {g : Nat} (hg : 5000 < g) (x y : Int32) : TM (fn_X8_shift g x y) (aShf x y) (nShf x y) := by
  intro M S ok h
  unfold fn_X8_shift aShf nShf
  rw [m_sf hg ok h]
  simp only [Option.bind_some]
  by_cases c : sfI x y S = 0
  · rw [if_pos c, if_pos c, if_pos c]
    obtain ⟨p, d, hp, hd, rfl, rfl, hm⟩ := sf_ex ok c
    have h8 := ok.1.1
    rw [ix_nI (show p < 2 ^ 31 by omega), ix_nI (show d < 2 ^ 31 by omega)]
    obtain ⟨M1, a1, a2, a3, a4, a5, a6⟩ := m_records hg ok.2.1 h.2.1 h.1
    rw [a1]
    simp only [Option.bind_some]
    obtain ⟨M2, b1, b2, b3, b4, b5⟩ := m_moves hg a4 ok.1 hp hd hm
    rw [b1]
    refine ⟨M2, rfl, ⟨b3, ⟨by rw [b2 61 (by decide)]; exact a3.1, fun t ht => fM_far (by omega) (a3.2 t ht) b4⟩, ?_, b5⟩, loE_tr (loE_of a2 (by decide)) (loE_of b2 (by decide))⟩
    rw [b2 61 (by decide), b2 69 (by decide), a2 69 (by decide), a5 9 (by decide), a5 10 (by decide)]
    exact h.2.2.1
  · rw [if_neg c, if_neg c, if_neg c]; exact ⟨M, rfl, h, loE_rf _⟩
def aIfs (x y : Int32) (S : ST) : Int32 := if sfI x y S = 0 then nI (pop 8 (lk (mvF S.F (ix x) (ix y)).A (2 ^ S.F.n - 1))) else sfI x y S
theorem two_lt (n : Nat) : 2 ^ n - 1 < 2 ^ n := by have := Nat.one_le_two_pow (n := n); omega
theorem tc_ifs {g : Nat} (hg : 5000 < g) (x y : Int32) : TC (fn_X7_ifShift g x y) (aIfs x y) id := by
  intro M S h
  unfold fn_X7_ifShift aIfs
  rw [c_sf hg h]
  simp only [Option.bind_some]
  by_cases c : sfI x y S = 0
  · rw [if_pos c, if_pos c]
    obtain ⟨p, d, hp, hd, rfl, rfl, hm⟩ := sf_ex h.1 c
    have h8 := h.1.1.1
    rw [ix_nI (by omega), ix_nI (by omega)]
    obtain ⟨M1, a1, a2, a3⟩ := c_copy (k0 := 53) (k1 := 1) (by omega) h.2.1
    rw [a1]
    simp only [Option.bind_some]
    obtain ⟨M2, b1, b2, b3⟩ := c_move hg a3 h.1.1 hp hd hm
    rw [b1]
    simp only [Option.bind_some]
    have okm := okF_mv h.1.1 hp hd hm
    obtain ⟨M3, d1, d2, d3, d4⟩ := c_read (k := 56) (k1 := 53) hg (by decide) (by decide) b3.1 (okF_o okm) b3.2.2.2.2
    rw [d1]
    simp only [Option.bind_some]
    have d2 : eqx [56, 57, 58, 59, 60] M2 M3 := d2
    have n3 : M3 1 2 = nI S.F.n := by rw [d2 1 (by decide), b2 1 (by decide), a2 1 (by decide)]; exact h.2.1.1
    unfold fn_X7_allPieces
    rw [n3, all_eq h8, c_locked (A := (mvF S.F p d).A) d3 (okA_F okm) hg (two_lt S.F.n)]
    simp only [Option.bind_some]
    have hl := lk_lt (A := (mvF S.F p d).A) (s := 2 ^ S.F.n - 1) (two_lt S.F.n)
    rw [c_bits (lt256 hl h8)]
    refine ⟨M3, rfl, JC_48 h ?_, hiE_tr (hiE_of a2 (by decide)) (hiE_tr (hiE_of b2 (by decide)) (hiE_of d2 (by decide)))⟩
    intro a ha
    rw [d2 a (by simp; omega), b2 a (by simp; omega), a2 a (by simp; omega)]
  · rw [if_neg c, if_neg c]; exact ⟨M, rfl, h, hiE_rf _⟩
theorem tm_ifs {g : Nat} (hg : 5000 < g) (x y : Int32) : TM (fn_X8_ifShift g x y) (aIfs x y) id := by
  intro M S ok h
  unfold fn_X8_ifShift aIfs
  rw [m_sf hg ok h]
  simp only [Option.bind_some]
  by_cases c : sfI x y S = 0
  · rw [if_pos c, if_pos c]
    obtain ⟨p, d, hp, hd, rfl, rfl, hm⟩ := sf_ex ok c
    have h8 := ok.1.1
    have hb8 := ok.2.1
    rw [ix_nI (show p < 2 ^ 31 by omega), ix_nI (show d < 2 ^ 31 by omega)]
    obtain ⟨M1, a1, a2, a3, a4⟩ := m_copyF hg (a := 0) (b := 9) (by omega) (by omega) (by omega) h.1
    rw [show fn_X8_copies g 0 9 M = some M1 from a1]
    simp only [Option.bind_some]
    obtain ⟨M2, b1, b2, b3, b4, b5⟩ := m_moves hg (a4 0 S.F (by omega) h.1) ok.1 hp hd hm
    rw [b1]
    simp only [Option.bind_some]
    have okm := okF_mv ok.1 hp hd hm
    unfold fn_X8_all
    rw [show M2 62 (ix 0) = nI S.F.n from fM_n (F := mvF S.F p d) b3, all_eq h8, m_locked (A := (mvF S.F p d).A) b5 (okA_F okm) hg (two_lt S.F.n)]
    simp only [Option.bind_some]
    have hl := lk_lt (A := (mvF S.F p d).A) (s := 2 ^ S.F.n - 1) (two_lt S.F.n)
    rw [m_bits hg (lt256 hl h8)]
    simp only [Option.bind_some]
    obtain ⟨M3, d1, d2, d3, d4⟩ := m_copyF hg (a := 9) (b := 0) (by omega) (by omega) (by omega) (fM_far (by omega) a3 b4)
    rw [show fn_X8_copies g 9 0 M2 = some M3 from d1]
    simp only [Option.bind_some]
    obtain ⟨M4, k1, k2, k3⟩ := JM_lay (M := M3) (S := S) hg ok.1 d3 ⟨by rw [d2 61 (by decide), b2 61 (by decide), a2 61 (by decide)]; exact h.2.1.1, fun t ht => d4 _ _ (by omega) (fM_far (by omega) (a4 _ _ (by omega) (h.2.1.2 t ht)) b4)⟩ (by
      rw [d2 61 (by decide), b2 61 (by decide), a2 61 (by decide), d2 69 (by decide), b2 69 (by decide), a2 69 (by decide)]
      exact h.2.2.1)
    rw [k1]
    exact ⟨M4, rfl, k3, loE_tr (loE_of a2 (by decide)) (loE_tr (loE_of b2 (by decide)) (loE_tr (loE_of d2 (by decide)) (loE_of k2 (by decide))))⟩
  · rw [if_neg c, if_neg c]; exact ⟨M, rfl, h, loE_rf _⟩
