/-! questions about pieces -/
def aBlk (x y : Int32) (S : ST) : Int32 := if pcl S.F.n x = 0 then -1 else if dcl y = 0 then -1 else nI (S.F.A.B (ix x) (ix y))
theorem tc_blk {g : Nat} (hg : 5000 < g) (x y : Int32) : TC (fn_X7_blockers g x y) (aBlk x y) id := by
  intro M S h
  unfold fn_X7_blockers aBlk
  rw [c_pcl h.2.1, c_dcl]
  by_cases c : pcl S.F.n x = 0
  · rw [if_pos c, if_pos c]; exact ⟨M, rfl, h, hiE_rf _⟩
  · obtain ⟨p, hp, rfl⟩ := pcl_ex h.1.1.1 c
    rw [if_neg c, if_neg c]
    by_cases c2 : dcl y = 0
    · rw [if_pos c2, if_pos c2]; exact ⟨M, rfl, h, hiE_rf _⟩
    · obtain ⟨d, hd, rfl⟩ := dcl_ex c2
      have h8 := h.1.1.1
      rw [if_neg c2, if_neg c2]
      obtain ⟨M1, a1, a2, a3, a4⟩ := c_kR hg h
      rw [a1]
      simp only [Option.bind_some, fn_X5_blockersOf]
      rw [i6, if_pos (inb_nI (show 6 * p + d < 48 by omega) (by decide)), ix_nI (by omega), ix_nI (by omega), ix_nI (by omega), a3.1.2.1 p d (by omega) hd]
      exact ⟨M1, rfl, a4, hiE_of a2 (by decide)⟩
theorem tm_blk (x y : Int32) : QM (fn_X8_blockers x y) (aBlk x y) := by
  intro M S ok h
  unfold fn_X8_blockers aBlk
  rw [m_pcl ok.1.1 (fM_n h.1), m_dcl]
  by_cases c : pcl S.F.n x = 0
  · rw [if_pos c, if_pos c]
  · obtain ⟨p, hp, rfl⟩ := pcl_ex ok.1.1 c
    rw [if_neg c, if_neg c]
    by_cases c2 : dcl y = 0
    · rw [if_pos c2, if_pos c2]
    · obtain ⟨d, hd, rfl⟩ := dcl_ex c2
      have h8 := ok.1.1
      rw [if_neg c2, if_neg c2, i8, if_pos (inb_nI (show 8 * d + p < 48 by omega) (by decide)), ix_nI (by omega), ix_nI (by omega), ix_nI (by omega), h.2.2.2.2.1 p d (by omega) hd]
def aWays (x y : Int32) (S : ST) : Int32 := if pcl S.F.n x = 0 then -1 else if stl' S.F.n y = 0 then -1 else nI (wm S.F.A (ix x) (ix y))
theorem c_ways {M : Mem} {A : AB} (h : RC M 9 A) (hA : okA A) {p s g : Nat} (hg : 5000 < g) (hp : p < 8) {T : Type} (f : Int32 → Option T) : (lpN g (bd_X7_ways_29 (nI p) (nI s) M) ((0 : Int32), (0 : Int32))).bind f = f (nI (wm A p s)) := by
  refine lp_forb (fun d => (nI (msk (fr A p s) d), nI d)) 6 (nI (wm A p s)) rfl (by omega) ?_ ?_ rfl
  · intro d hd
    simp only [bd_X7_ways_29, u2]
    rw [if_neg (show ¬ (6 : Int32) ≤ nI d from nI_ge (b := 6) hd (by decide)), c_isFree h hA hp hd]
    simp only [msk, Option.bind_some]
    cases hf : fr A p s d
    · simp [inc]
    · simp only [if_true]
      rw [if_neg (by decide), N_sl (by omega), N_or, inc]
      rfl
  · simp only [bd_X7_ways_29, u2]
    rw [if_pos (by decide)]
    rfl
theorem tc_ways {g : Nat} (hg : 5000 < g) (x y : Int32) : TC (fn_X7_ways g x y) (aWays x y) id := by
  intro M S h
  unfold fn_X7_ways aWays
  rw [c_pcl h.2.1, c_stl h.1.1.1 h.2.1]
  by_cases c : pcl S.F.n x = 0
  · rw [if_pos c, if_pos c]; exact ⟨M, rfl, h, hiE_rf _⟩
  · obtain ⟨p, hp, rfl⟩ := pcl_ex h.1.1.1 c
    rw [if_neg c, if_neg c]
    by_cases c2 : stl' S.F.n y = 0
    · rw [if_pos c2, if_pos c2]; exact ⟨M, rfl, h, hiE_rf _⟩
    · obtain ⟨s, hs, rfl⟩ := stl_ex h.1.1.1 c2
      have h8 := h.1.1.1
      have h256 := lt256 hs h8
      rw [if_neg c2, if_neg c2]
      obtain ⟨M1, a1, a2, a3, a4⟩ := c_kR hg h
      rw [a1]
      simp only [Option.bind_some]
      rw [c_ways a3.1 (okA_F h.1.1) hg (by omega), ix_nI (by omega), ix_nI (by omega)]
      exact ⟨M1, rfl, a4, hiE_of a2 (by decide)⟩
theorem tm_ways {g : Nat} (hg : 5000 < g) (x y : Int32) : QM (fn_X8_ways g x y) (aWays x y) := by
  intro M S ok h
  unfold fn_X8_ways aWays
  rw [m_pcl ok.1.1 (fM_n h.1), m_stl ok.1.1 (fM_n h.1)]
  by_cases c : pcl S.F.n x = 0
  · rw [if_pos c, if_pos c]
  · obtain ⟨p, hp, rfl⟩ := pcl_ex ok.1.1 c
    rw [if_neg c, if_neg c]
    by_cases c2 : stl' S.F.n y = 0
    · rw [if_pos c2, if_pos c2]
    · obtain ⟨s, hs, rfl⟩ := stl_ex ok.1.1 c2
      have h8 := ok.1.1
      have h256 := lt256 hs h8
      rw [if_neg c2, if_neg c2, m_waysOf h.2.2.2 (okA_F ok.1) hg (by omega), ix_nI (by omega), ix_nI (by omega)]
      rfl
def aCon (x y : Int32) (S : ST) : Int32 := if pcl S.F.n x = 0 then -1 else if pcl S.F.n y = 0 then -1 else if x = y then -1 else nI (CL S.F.o (ix x) (ix y))
theorem tc_con {g : Nat} (hg : 5000 < g) (x y : Int32) : TC (fn_X7_contact g x y) (aCon x y) id := by
  intro M S h
  unfold fn_X7_contact aCon
  rw [c_pcl h.2.1, c_pcl h.2.1]
  by_cases c : pcl S.F.n x = 0
  · rw [if_pos c, if_pos c]; exact ⟨M, rfl, h, hiE_rf _⟩
  · obtain ⟨p, hp, rfl⟩ := pcl_ex h.1.1.1 c
    rw [if_neg c, if_neg c]
    by_cases c2 : pcl S.F.n y = 0
    · rw [if_pos c2, if_pos c2]; exact ⟨M, rfl, h, hiE_rf _⟩
    · obtain ⟨q, hq, rfl⟩ := pcl_ex h.1.1.1 c2
      have h8 := h.1.1.1
      rw [if_neg c2, if_neg c2]
      by_cases e : nI p = nI q
      · rw [if_pos e, if_pos e]; exact ⟨M, rfl, h, hiE_rf _⟩
      · rw [if_neg e, if_neg e]
        obtain ⟨M1, a1, a2, a3, a4⟩ := c_kR hg h
        rw [a1]
        simp only [Option.bind_some]
        rw [i8, if_pos (inb_nI (show 8 * p + q < 64 by omega) (by decide)), ix_nI (by omega), ix_nI (by omega), ix_nI (by omega), show M1 10 (8 * p + q) = nI (CL S.F.o p q) from a3.2 p q (by omega) (by omega) (fun z => e (by rw [z]))]
        exact ⟨M1, rfl, a4, hiE_of a2 (by decide)⟩
theorem tm_con {g : Nat} (hg : 5000 < g) (x y : Int32) : QM (fn_X8_contact g x y) (aCon x y) := by
  intro M S ok h
  unfold fn_X8_contact aCon
  rw [m_pcl ok.1.1 (fM_n h.1), m_pcl ok.1.1 (fM_n h.1)]
  by_cases c : pcl S.F.n x = 0
  · rw [if_pos c, if_pos c]
  · obtain ⟨p, hp, rfl⟩ := pcl_ex ok.1.1 c
    rw [if_neg c, if_neg c]
    by_cases c2 : pcl S.F.n y = 0
    · rw [if_pos c2, if_pos c2]
    · obtain ⟨q, hq, rfl⟩ := pcl_ex ok.1.1 c2
      have h8 := ok.1.1
      rw [if_neg c2, if_neg c2]
      by_cases e : nI p = nI q
      · rw [if_pos e, if_pos e]
      · rw [if_neg e, if_neg e, m_contact hg (by omega) (by omega) (okF_o ok.1) (fM_o h.1), ix_nI (by omega), ix_nI (by omega)]
        rfl
/-! a piece's measures -/
def aPc (x y : Int32) (S : ST) : Int32 := if pcl S.F.n x = 0 then -1 else if y < 0 then -1 else if y < 10 then (if y = 0 then nI (ceN S.F.o (ix x) 216) else if y = 1 then nI (S.F.x (ix x)) else if y = 9 then (if S.F.b.testBit (ix x) then 1 else 0) else if y = 8 then nI (grN S.F.o (ix x) 216) else if (5 : Int32) ≤ y then oI (hiN S.F.o (ix x) (ix y - 5) 216) else nI (loN S.F.o (ix x) (ix y - 2) 216)) else -1
theorem tc_pc {g : Nat} (hg : 5000 < g) (x y : Int32) : TC (fn_X7_piece g x y) (aPc x y) id := by
  intro M S h
  unfold fn_X7_piece aPc
  rw [c_pcl h.2.1]
  by_cases c : pcl S.F.n x = 0
  · rw [if_pos c, if_pos c]; exact ⟨M, rfl, h, hiE_rf _⟩
  · obtain ⟨p, hp, rfl⟩ := pcl_ex h.1.1.1 c
    have h8 := h.1.1.1
    have ip : inb (nI p) 8 := inb_nI (by omega) (by decide)
    rw [if_neg c, if_neg c]
    by_cases y0 : y < 0
    · rw [if_pos y0, if_pos y0]; exact ⟨M, rfl, h, hiE_rf _⟩
    · rw [if_neg y0, if_neg y0]
      by_cases y10 : y < 10
      · rw [if_pos y10, if_pos y10]
        obtain ⟨w, hw, rfl⟩ := nI_ex (x := y) (n := 10) (by decide) y0 (fun q => (fa_of_lt y10).2.1 q)
        rw [ix_nI (show p < 2 ^ 31 by omega), ix_nI (show w < 2 ^ 31 by omega)]
        by_cases w1 : nI w = 1
        · rw [if_pos w1, if_pos ip, if_neg (show ¬ nI w = 0 by rw [w1]; decide), if_pos w1, show M 3 p = nI (S.F.x p) from h.2.1.2.2.2.1 p (by omega)]
          exact ⟨M, rfl, h, hiE_rf _⟩
        · rw [if_neg w1]
          by_cases w9 : nI w = 9
          · have hb := okF_b h.1.1
            rw [if_pos w9, if_neg (show ¬ nI w = 0 by rw [w9]; decide), if_neg w1, if_pos w9, h.2.1.2.1, has7 (by omega) (by omega)]
            cases S.F.b.testBit p
            · exact ⟨M, rfl, h, hiE_rf _⟩
            · exact ⟨M, rfl, h, hiE_rf _⟩
          · rw [if_neg w9, if_neg w1, if_neg w9]
            obtain ⟨M1, a1, a2, a3, a4⟩ := c_kM hg h
            obtain ⟨b1, b2, b3, b4, b5⟩ := a3
            rw [a1]
            simp only [Option.bind_some]
            by_cases w0 : nI w = 0
            · rw [if_pos w0, if_pos w0, if_pos ip, b1 p (by omega)]
              exact ⟨M1, rfl, a4, a2⟩
            · rw [if_neg w0, if_neg w0]
              by_cases w8 : nI w = 8
              · rw [if_pos w8, if_pos w8, if_pos ip, b2 p (by omega)]
                exact ⟨M1, rfl, a4, a2⟩
              · rw [if_neg w8, if_neg w8]
                have n1 : w ≠ 1 := fun q => w1 (by rw [q]; rfl)
                have n0 : w ≠ 0 := fun q => w0 (by rw [q]; rfl)
                have n8 : w ≠ 8 := fun q => w8 (by rw [q]; rfl)
                have n9 : w ≠ 9 := fun q => w9 (by rw [q]; rfl)
                by_cases w5 : 5 ≤ w
                · rw [if_pos (show (5 : Int32) ≤ nI w from (nI_leI (a := 5) (by decide) (by omega)).mpr w5), if_pos (show (5 : Int32) ≤ nI w from (nI_leI (a := 5) (by decide) (by omega)).mpr w5), i3, show (nI (3 * p + w) - 5 : Int32) = nI (3 * p + (w - 5)) from by rw [show (5 : Int32) = nI 5 from rfl, nI_sub (by omega)]; congr 1; omega, if_pos (inb_nI (show 3 * p + (w - 5) < 24 by omega) (by decide)), ix_nI (by omega), b4 p (w - 5) (by omega) (by omega)]
                  exact ⟨M1, rfl, a4, a2⟩
                · rw [if_neg (show ¬ (5 : Int32) ≤ nI w from fun q => w5 ((nI_leI (a := 5) (by decide) (by omega)).mp q)), if_neg (show ¬ (5 : Int32) ≤ nI w from fun q => w5 ((nI_leI (a := 5) (by decide) (by omega)).mp q)), i3, show (nI (3 * p + w) - 2 : Int32) = nI (3 * p + (w - 2)) from by rw [show (2 : Int32) = nI 2 from rfl, nI_sub (by omega)]; congr 1; omega, if_pos (inb_nI (show 3 * p + (w - 2) < 24 by omega) (by decide)), ix_nI (by omega), b3 p (w - 2) (by omega) (by omega)]
                  exact ⟨M1, rfl, a4, a2⟩
      · rw [if_neg y10, if_neg y10]; exact ⟨M, rfl, h, hiE_rf _⟩
theorem tm_pc {g : Nat} (hg : 5000 < g) (x y : Int32) : QM (fn_X8_piece g x y) (aPc x y) := by
  intro M S ok h
  unfold fn_X8_piece aPc
  rw [m_pcl ok.1.1 (fM_n h.1)]
  by_cases c : pcl S.F.n x = 0
  · rw [if_pos c, if_pos c]
  · obtain ⟨p, hp, rfl⟩ := pcl_ex ok.1.1 c
    have h8 := ok.1.1
    rw [if_neg c, if_neg c]
    have hin : fn_X8_in y 0 9 = if y < 0 then 0 else if (10 : Int32) ≤ y then 0 else 1 := by
      unfold fn_X8_in
      have := oI_ltx (n := 10) (by decide) y
      rw [show oI 10 = (9 : Int32) from by decide, show nI 10 = (10 : Int32) from rfl] at this
      simp only [this]
    rw [hin]
    by_cases y0 : y < 0
    · rw [if_pos y0, if_pos y0, if_pos rfl]
    · rw [if_neg y0, if_neg y0]
      by_cases y10 : y < 10
      · rw [if_pos y10, if_neg (fun q => (fa_of_lt y10).2.1 q), if_neg (by decide)]
        obtain ⟨w, hw, rfl⟩ := nI_ex (x := y) (n := 10) (by decide) y0 (fun q => (fa_of_lt y10).2.1 q)
        rw [ix_nI (show p < 2 ^ 31 by omega), ix_nI (show w < 2 ^ 31 by omega)]
        have ho := okF_o ok.1
        have hP' := fM_o h.1
        obtain ⟨cc, hc, ec⟩ := ok.1.2.2.2.2 p hp
        by_cases w0 : nI w = 0
        · rw [if_pos w0, if_pos w0, m_cells hg (by omega) ho hP']; rfl
        · rw [if_neg w0, if_neg w0]
          by_cases w1 : nI w = 1
          · rw [if_pos w1, if_pos w1, show (3 : Int32) + nI p = nI (3 + p) from nI_add 3 p, if_pos (inb_nI (show 3 + p < 2270 by omega) (by decide)), ix_nI (by omega), fM_x h.1 (show p < 8 by omega)]
          · rw [if_neg w1, if_neg w1]
            have n1 : w ≠ 1 := fun q => w1 (by rw [q]; rfl)
            have n0 : w ≠ 0 := fun q => w0 (by rw [q]; rfl)
            by_cases w8 : 8 ≤ w
            · rw [if_pos (show (8 : Int32) ≤ nI w from (nI_leI (a := 8) (by decide) (by omega)).mpr w8)]
              by_cases e8 : w = 8
              · subst e8
                rw [if_pos (show nI 8 = (8 : Int32) from rfl), if_neg (show ¬ nI 8 = (9 : Int32) by decide), if_pos (show nI 8 = (8 : Int32) from rfl), m_ground hg (by omega) ho hP']; rfl
              · have e9 : w = 9 := by omega
                subst e9
                have hb := okF_b ok.1
                rw [if_neg (show ¬ nI 9 = (8 : Int32) by decide), if_pos (show nI 9 = (9 : Int32) from rfl), show M 62 (ix 1) = nI S.F.b from fM_b h.1, N_bit (by omega) (by omega)]
            · rw [if_neg (show ¬ (8 : Int32) ≤ nI w from fun q => w8 ((nI_leI (a := 8) (by decide) (by omega)).mp q)), if_neg (show ¬ nI w = (9 : Int32) from fun q => by have := (nI_eq (b := 9) (by omega) (by decide)).mp q; omega), if_neg (show ¬ nI w = (8 : Int32) from fun q => by have := (nI_eq (b := 8) (by omega) (by decide)).mp q; omega)]
              have er : rm (nI w - 2) 3 = nI ((w - 2) % 3) := by
                rw [show (2 : Int32) = nI 2 from rfl, nI_sub (by omega)]
                exact rm_nI (d := 3) (by omega) (by decide) (by decide)
              rw [er]
              unfold jn_X8_piece_67
              by_cases w5 : 5 ≤ w
              · rw [if_neg (show ¬ nI w ≤ (4 : Int32) from fun q => by have := (nI_leI (b := 4) (by omega) (by decide)).mp q; omega), if_pos (show (5 : Int32) ≤ nI w from (nI_leI (a := 5) (by decide) (by omega)).mpr w5), show (w - 2) % 3 = w - 5 by omega]
                have := m_end true hg (show p < 8 by omega) (show w - 5 < 3 by omega) ho hP'
                simp only [if_true] at this
                rw [this, hiB_eq hc ec]
                rfl
              · rw [if_pos (show nI w ≤ (4 : Int32) from (nI_leI (b := 4) (by omega) (by decide)).mpr (by omega)), if_neg (show ¬ (5 : Int32) ≤ nI w from fun q => w5 ((nI_leI (a := 5) (by decide) (by omega)).mp q)), show (w - 2) % 3 = w - 2 by omega]
                have := m_end false hg (show p < 8 by omega) (show w - 2 < 3 by omega) ho hP'
                simp only [Bool.false_eq_true, if_false] at this
                rw [this, loB_eq (by omega) hc ec]
                rfl
      · rw [if_neg y10, if_pos (fa_of_nlt y10), if_pos rfl]
/-! counts -/
def aCnt (x : Int32) (S : ST) : Int32 := if x = 0 then nI S.F.n else if x = 1 then nI (alN S.F.o 216) else if x = 2 then nI S.F.b else if x = 3 then S.F.s else if x = 4 then nI (pr S.F.A S.F.b) else if x = 5 then nI S.tl else if x = 6 then nI S.h else -1
theorem tc_cnt {g : Nat} (hg : 5000 < g) (x : Int32) : TC (fn_X7_count g x) (aCnt x) id := by
  intro M S h
  unfold fn_X7_count aCnt
  by_cases c0 : x = 0
  · rw [if_pos c0, if_pos c0, h.2.1.1]; exact ⟨M, rfl, h, hiE_rf _⟩
  rw [if_neg c0, if_neg c0]
  by_cases c1 : x = 1
  · rw [if_pos c1, if_pos c1]
    obtain ⟨M1, a1, a2, a3, a4⟩ := c_kM hg h
    rw [a1]
    simp only [Option.bind_some]
    rw [a3.2.2.2.2]
    exact ⟨M1, rfl, a4, a2⟩
  rw [if_neg c1, if_neg c1]
  by_cases c2 : x = 2
  · rw [if_pos c2, if_pos c2, h.2.1.2.1]; exact ⟨M, rfl, h, hiE_rf _⟩
  rw [if_neg c2, if_neg c2]
  by_cases c3 : x = 3
  · rw [if_pos c3, if_pos c3, h.2.1.2.2.1]; exact ⟨M, rfl, h, hiE_rf _⟩
  rw [if_neg c3, if_neg c3]
  by_cases c4 : x = 4
  · rw [if_pos c4, if_pos c4]
    obtain ⟨M1, a1, a2, a3, a4⟩ := c_kR hg h
    rw [a1]
    simp only [Option.bind_some]
    rw [a4.2.1.2.1, c_props a3.1 (okA_F h.1.1) hg (okF_b h.1.1)]
    exact ⟨M1, rfl, a4, hiE_of a2 (by decide)⟩
  rw [if_neg c4, if_neg c4]
  by_cases c5 : x = 5
  · rw [if_pos c5, if_pos c5, h.2.2.2.1.1]; exact ⟨M, rfl, h, hiE_rf _⟩
  rw [if_neg c5, if_neg c5]
  by_cases c6 : x = 6
  · obtain ⟨od, o1, o2, o3⟩ := h.2.2.1
    rw [if_pos c6, if_pos c6, o2]; exact ⟨M, rfl, h, hiE_rf _⟩
  rw [if_neg c6, if_neg c6]
  exact ⟨M, rfl, h, hiE_rf _⟩
theorem tm_cnt {g : Nat} (hg : 5000 < g) (x : Int32) : QM (fn_X8_count g x) (aCnt x) := by
  intro M S ok h
  unfold fn_X8_count aCnt
  by_cases c0 : x = 0
  · rw [if_pos c0, if_pos c0, show M 62 (ix 0) = nI S.F.n from fM_n h.1]
  rw [if_neg c0, if_neg c0]
  by_cases c1 : x = 1
  · rw [if_pos c1, if_pos c1, m_many hg (okF_o ok.1) (fM_o h.1)]; rfl
  rw [if_neg c1, if_neg c1]
  by_cases c2 : x = 2
  · rw [if_pos c2, if_pos c2, show M 62 (ix 1) = nI S.F.b from fM_b h.1]
  rw [if_neg c2, if_neg c2]
  by_cases c3 : x = 3
  · rw [if_pos c3, if_pos c3, show M 62 (ix 2) = S.F.s from fM_s h.1]
  rw [if_neg c3, if_neg c3]
  by_cases c4 : x = 4
  · rw [if_pos c4, if_pos c4, show M 62 (ix 1) = nI S.F.b from fM_b h.1, m_props h.2.2.2 (okA_F ok.1) hg (okF_b ok.1)]; rfl
  rw [if_neg c4, if_neg c4]
  by_cases c5 : x = 5
  · rw [if_pos c5, if_pos c5, h.2.2.1.1]
  rw [if_neg c5, if_neg c5]
  by_cases c6 : x = 6
  · rw [if_pos c6, if_pos c6, h.2.1.1]
  rw [if_neg c6, if_neg c6]
