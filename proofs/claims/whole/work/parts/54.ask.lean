/-! ===== the questions ===== -/
def aS (v : ST → Nat → Int32) (x : Int32) (S : ST) : Int32 := if stl' S.F.n x = 0 then -1 else v S (ix x)
theorem aS_0 {v : ST → Nat → Int32} {x : Int32} {S : ST} (h : stl' S.F.n x = 0) : aS v x S = -1 := if_pos h
theorem aS_1 {v : ST → Nat → Int32} {s : Nat} {S : ST} (hs : s < 256) (h : ¬ stl' S.F.n (nI s) = 0) : aS v (nI s) S = v S s := by
  unfold aS
  rw [if_neg h, ix_nI (by omega)]
/-- a question about a set, which the class answers out of its relations -/
theorem TC_S {f : Mem → Option (Int32 × Mem)} {k : Mem → Option (Int32 × Mem)} {v : ST → Nat → Int32} {x : Int32} {g : Nat} (hg : 5000 < g) (hf : ∀ M, f M = if fn_X7_isSet x M = 0 then some ((-1 : Int32), M) else (fn_X7_knownRelations g M).bind k) (hk : ∀ M S s, x = nI s → okF S.F → s < 2 ^ S.F.n → cR M S.F → k M = some (v S s, M)) : TC f (aS v x) id := by
  intro M S h
  rw [hf M, c_stl h.1.1.1 h.2.1]
  by_cases c : stl' S.F.n x = 0
  · rw [if_pos c, aS_0 c]
    exact ⟨M, rfl, h, hiE_rf _⟩
  · obtain ⟨s, hs, rfl⟩ := stl_ex h.1.1.1 c
    obtain ⟨M1, a1, a2, a3, a4⟩ := c_kR hg h
    rw [if_neg c, a1, aS_1 (lt256 hs h.1.1.1) c]
    simp only [Option.bind_some]
    exact ⟨M1, hk M1 S s rfl h.1.1 hs a3, a4, hiE_of a2 (by decide)⟩
theorem QM_S {f : Mem → Option Int32} {k : Mem → Option Int32} {v : ST → Nat → Int32} {x : Int32} (hf : ∀ M, f M = if fn_X8_isSet x M = 0 then some (-1 : Int32) else k M) (hk : ∀ M S s, x = nI s → okF S.F → s < 2 ^ S.F.n → JM M S → k M = some (v S s)) : QM f (aS v x) := by
  intro M S ok h
  rw [hf M, m_stl ok.1.1 (fM_n h.1)]
  by_cases c : stl' S.F.n x = 0
  · rw [if_pos c, aS_0 c]
  · obtain ⟨s, hs, rfl⟩ := stl_ex ok.1.1 c
    rw [if_neg c, aS_1 (lt256 hs ok.1.1) c]
    exact hk M S s rfl ok.1 hs h
def aProps := aS (fun S s => nI (pr S.F.A s))
def aStand := aS (fun S s => nI (stand S.F.A s))
def aLock := aS (fun S s => nI (lk S.F.A s))
def aHang := aS (fun S s => if hang S.F.A s then 1 else 0)
def aGrp (y : Int32) := aS (fun S s => if y = 0 then bI (gb S.F.A s) else if gb S.F.A s = 0 then -9 else gwI S.F.A (gb S.F.A s) s)
theorem tc_props {g : Nat} (hg : 5000 < g) (x : Int32) : TC (fn_X7_props g x) (aProps x) id := by
  refine TC_S hg (fun M => rfl) ?_
  rintro M S s rfl ok hs hR
  try dsimp only
  rw [c_props hR.1 (okA_F ok) hg (lt256 hs ok.1)]
  rfl
theorem tm_props {g : Nat} (hg : 5000 < g) (x : Int32) : QM (fn_X8_props g x) (aProps x) := by
  refine QM_S (fun M => rfl) ?_
  rintro M S s rfl ok hs h
  try dsimp only
  rw [m_props h.2.2.2 (okA_F ok) hg (lt256 hs ok.1)]
  rfl
theorem tc_stand {g : Nat} (hg : 5000 < g) (x : Int32) : TC (fn_X7_standing g x) (aStand x) id := by
  refine TC_S hg (fun M => rfl) ?_
  rintro M S s rfl ok hs hR
  try dsimp only
  rw [c_standing hR.1 (okA_F ok) hg hs]
  rfl
theorem tm_stand {g : Nat} (hg : 5000 < g) (x : Int32) : QM (fn_X8_standing g x) (aStand x) := by
  refine QM_S (fun M => rfl) ?_
  rintro M S s rfl ok hs h
  try dsimp only
  rw [m_standing h.2.2.2 (okA_F ok) hg hs]
  rfl
theorem tc_lock {g : Nat} (hg : 5000 < g) (x : Int32) : TC (fn_X7_locked g x) (aLock x) id := by
  refine TC_S hg (fun M => rfl) ?_
  rintro M S s rfl ok hs hR
  try dsimp only
  rw [c_locked hR.1 (okA_F ok) hg hs]
  rfl
theorem tm_lock {g : Nat} (hg : 5000 < g) (x : Int32) : QM (fn_X8_locked g x) (aLock x) := by
  refine QM_S (fun M => rfl) ?_
  rintro M S s rfl ok hs h
  try dsimp only
  rw [m_locked h.2.2.2 (okA_F ok) hg hs]
  rfl
theorem tc_hang {g : Nat} (hg : 5000 < g) (x : Int32) : TC (fn_X7_hangsTogether g x) (aHang x) id := by
  refine TC_S hg (fun M => rfl) ?_
  rintro M S s rfl ok hs hR
  try dsimp only
  rw [c_hang hR.1 (okA_F ok) hg hs]
  cases hang S.F.A s <;> simp
theorem tm_hang {g : Nat} (hg : 5000 < g) (x : Int32) : QM (fn_X8_hangsTogether g x) (aHang x) := by
  refine QM_S (fun M => rfl) ?_
  rintro M S s rfl ok hs h
  try dsimp only
  rw [m_hang h.2.2.2 (m_CTok hg ok.1 (okF_o ok) (fM_o h.1)) (okA_F ok) hg hs]
  cases hang S.F.A s <;> simp
theorem gb_lt (A : AB) {s : Nat} (hs : s < 256) : gb A s < 256 := by
  have := gbs_le A s (s - 1)
  unfold gb
  omega
theorem tc_grp {g : Nat} (hg : 5000 < g) (x y : Int32) : TC (fn_X7_firstGroup g x y) (aGrp y x) id := by
  refine TC_S hg (fun M => rfl) ?_
  rintro M S s rfl ok hs hR
  try dsimp only
  have hb := gb_lt S.F.A (lt256 hs ok.1)
  rw [c_group hR.1 (okA_F ok) hg (lt256 hs ok.1)]
  simp only [Option.bind_some]
  unfold bI
  by_cases c : gb S.F.A s = 0
  · rw [if_pos c, if_pos rfl, if_pos c]
    simp
  · rw [if_neg c, if_neg (m9_ne _ (by omega)), if_neg c]
    by_cases y0 : y = 0
    · rw [if_pos y0, if_pos y0]
    · rw [if_neg y0, if_neg y0, c_groupWay hR.1 (okA_F ok) hg hb]
      rfl
theorem tm_grp {g : Nat} (hg : 5000 < g) (x y : Int32) : QM (fn_X8_firstGroup g x y) (aGrp y x) := by
  refine QM_S (fun M => rfl) ?_
  rintro M S s rfl ok hs h
  try dsimp only
  have hb := gb_lt S.F.A (lt256 hs ok.1)
  rw [m_group h.2.2.2 (okA_F ok) hg (lt256 hs ok.1)]
  simp only [Option.bind_some]
  unfold bI
  by_cases c : gb S.F.A s = 0
  · rw [if_pos c, if_pos rfl, if_pos c]
    simp [jn_X8_firstGroup_26]
  · rw [if_neg c, if_neg (m9_ne _ (by omega)), if_neg c]
    by_cases y0 : y = 0
    · rw [if_pos y0, if_pos y0]; rfl
    · rw [if_neg y0, if_neg y0, N_dif, m_common h.2.2.2 (okA_F ok) hg hb]
      simp only [Option.bind_some]
      rw [low_group hg (show gd S.F.A (gb S.F.A s) s < 6 from gbs_gd S.F.A s (s - 1) c)]
      rfl
/-! orders -/
theorem TC_P {f : Mem → Option (Int32 × Mem)} {k : Mem → Option (Int32 × Mem)} {v : ST → Nat → Int32} {x : Int32} {g : Nat} (hg : 5000 < g) (hf : ∀ M, f M = if fn_X7_isSet x M = 0 then some ((-1 : Int32), M) else (fn_X7_knownPlanner g M).bind k) (hk : ∀ M S s, x = nI s → okF S.F → s < 2 ^ S.F.n → TAB M S.F.A → k M = some (v S s, M)) : TC f (aS v x) id := by
  intro M S h
  rw [hf M, c_stl h.1.1.1 h.2.1]
  by_cases c : stl' S.F.n x = 0
  · rw [if_pos c, aS_0 c]
    exact ⟨M, rfl, h, hiE_rf _⟩
  · obtain ⟨s, hs, rfl⟩ := stl_ex h.1.1.1 c
    obtain ⟨M1, a1, a2, a3, a4, a5, a6⟩ := c_kP hg h
    rw [if_neg c, a1, aS_1 (lt256 hs h.1.1.1) c]
    simp only [Option.bind_some]
    exact ⟨M1, hk M1 S s rfl h.1.1 hs a4.1, a6, a2⟩
theorem TM_P {f : Mem → Option (Int32 × Mem)} {k : Mem → Option (Int32 × Mem)} {v : ST → Nat → Int32} {x : Int32} {g : Nat} (hg : 5000 < g) (hf : ∀ M, f M = if fn_X8_isSet x M = 0 then some ((-1 : Int32), M) else (fn_X8_findsOrders g x M).bind k) (hk : ∀ M S s, x = nI s → okF S.F → s < 2 ^ S.F.n → MT M S.F.A s (s + 1) → k M = some (v S s, M)) : TM f (aS v x) id := by
  intro M S ok h
  rw [hf M, m_stl ok.1.1 (fM_n h.1)]
  by_cases c : stl' S.F.n x = 0
  · rw [if_pos c, aS_0 c]
    exact ⟨M, rfl, h, loE_rf _⟩
  · obtain ⟨s, hs, rfl⟩ := stl_ex ok.1.1 c
    obtain ⟨M1, a1, a2, a3⟩ := m_orders h.2.2.2 (okA_F ok.1) hg hs
    rw [if_neg c, a1, aS_1 (lt256 hs ok.1.1) c]
    simp only [Option.bind_some]
    exact ⟨M1, hk M1 S s rfl ok.1 hs a3, JM_up h (fun j _ => by rw [a2 61 (by decide)]) (fun a ha => a2 a (by simp; omega)), loE_of a2 (by decide)⟩
def aOrd := aS (fun S s => nI (TT S.F.A s).1)
def aFew := aS (fun S s => LI S.F.A s)
theorem tc_ord {g : Nat} (hg : 5000 < g) (x : Int32) : TC (fn_X7_orders g x) (aOrd x) id := by
  refine TC_P hg (fun M => rfl) ?_
  rintro M S s rfl ok hs hT
  have := lt256 hs ok.1
  try dsimp only
  rw [if_pos (inb_nI this (by decide)), ix_nI (by omega), (hT s hs).1]
theorem tm_ord {g : Nat} (hg : 5000 < g) (x : Int32) : TM (fn_X8_orders g x) (aOrd x) id := by
  refine TM_P hg (fun M => rfl) ?_
  rintro M S s rfl ok hs hT
  have := lt256 hs ok.1
  try dsimp only
  rw [if_pos (inb_nI this (by decide)), ix_nI (by omega), (hT s (by omega) (sub_rf s)).1]
theorem tc_few {g : Nat} (hg : 5000 < g) (x : Int32) : TC (fn_X7_fewestProps g x) (aFew x) id := by
  refine TC_P hg (fun M => rfl) ?_
  rintro M S s rfl ok hs hT
  have := lt256 hs ok.1
  try dsimp only
  rw [if_pos (inb_nI this (by decide)), ix_nI (by omega), (hT s hs).2.1]
theorem tm_few {g : Nat} (hg : 5000 < g) (x : Int32) : TM (fn_X8_fewestProps g x) (aFew x) id := by
  refine TM_P hg (fun M => rfl) ?_
  rintro M S s rfl ok hs hT
  have := lt256 hs ok.1
  try dsimp only
  rw [if_pos (inb_nI this (by decide)), ix_nI (by omega), (hT s (by omega) (sub_rf s)).2]
def aPlan (y z : Int32) := aS (fun S s => if 0 ≤ y then PLV S.F.A s y z else -1)
theorem tm_plan {g : Nat} (hg : 5000 < g) (x y z : Int32) : TM (fn_X8_planned g x y z) (aPlan y z x) id := by
  intro M S ok h
  have e := m_stl ok.1.1 (fM_n h.1) x
  by_cases c : stl' S.F.n x = 0
  · unfold fn_X8_planned
    rw [e, if_pos c, aPlan, aS_0 c]
    exact ⟨M, rfl, h, loE_rf _⟩
  · obtain ⟨s, hs, rfl⟩ := stl_ex ok.1.1 c
    rw [aPlan, aS_1 (lt256 hs ok.1.1) c]
    by_cases y0 : 0 ≤ y
    · obtain ⟨M1, a1, a2⟩ := m_planned h.2.2.2 (okA_F ok.1) (x2 := y) (x3 := z) hg hs (by rw [e]; exact c) y0
      rw [a1, if_pos y0]
      exact ⟨M1, rfl, JM_up h (fun j _ => by rw [a2 61 (by decide)]) (fun a ha => a2 a (by simp; omega)), loE_of a2 (by decide)⟩
    · unfold fn_X8_planned
      rw [e, if_neg c, if_neg y0, if_neg y0]
      exact ⟨M, rfl, h, loE_rf _⟩
theorem tc_plan {g : Nat} (hg : 5000 < g) (x y z : Int32) : TC (fn_X7_planned g x y z) (aPlan y z x) id := by
  intro M S h
  unfold fn_X7_planned
  rw [c_stl h.1.1.1 h.2.1]
  by_cases c : stl' S.F.n x = 0
  · rw [if_pos c, aPlan, aS_0 c]
    exact ⟨M, rfl, h, hiE_rf _⟩
  · obtain ⟨s, hs, rfl⟩ := stl_ex h.1.1.1 c
    have h256 := lt256 hs h.1.1.1
    rw [if_neg c, aPlan, aS_1 h256 c]
    by_cases y0 : 0 ≤ y
    · rw [if_pos y0, if_pos y0]
      obtain ⟨M1, a1, a2, a3, a4, a5, a6⟩ := c_kP hg h
      rw [a1]
      simp only [Option.bind_some]
      obtain ⟨M2, b1, b2, b3, b4⟩ := c_plan a3.1 (okA_F h.1.1) a4 hg hs
      rw [b1]
      simp only [Option.bind_some]
      have kR : cR M2 S.F := cR_eq a3 (fun a x y => b2 a (by simp; omega))
      have kP : PLok M2 S.F.A := ⟨TAB_of a4.1 (b2 _ (by decide)) (b2 _ (by decide)) (b2 _ (by decide)), Or.inr ⟨s, hs, b3, b4⟩⟩
      have j2 : JC M2 S := by
        refine JC_up a6 (fun a ha => b2 a (by simp; omega)) ?_ (Or.inr kR) (Or.inr ⟨kR, kP⟩)
        rw [b2 0 (by decide)]
        rcases a6.2.2.2.2.1 with q | q
        · exact Or.inl q
        · exact Or.inr (MEi_eq q (fun a x y => b2 a (by simp; omega)))
      have hh : hiE M M2 := hiE_tr a2 (hiE_of b2 (by decide))
      have hpop := pop_le 8 s
      rw [b4.1]
      unfold PLV
      by_cases cT : (TT S.F.A s).1 = 0
      · rw [if_pos cT, if_pos cT, if_pos (show nI 0 ≤ y from y0)]
        exact ⟨M2, rfl, j2, hh⟩
      · rw [if_neg cT, if_neg cT]
        by_cases yl : y < nI (pop 8 s)
        · rw [if_neg (fun q => (fa_of_lt yl).2.1 q), if_pos yl]
          obtain ⟨k, hk, rfl⟩ := nI_ex (x := y) (n := pop 8 s) (by omega) (fun q => (fa_of_lt q).2.1 y0) (fun q => (fa_of_lt yl).2.1 q)
          rw [if_pos (show nI k < (8 : Int32) from nI_lt (b := 8) (by omega) (by decide)), if_pos (inb_nI (show k < 8 by omega) (by decide)), if_pos (inb_nI (show k < 8 by omega) (by decide)), ix_nI (by omega)]
          obtain ⟨p1, p2⟩ := b4.2 cT k hk
          unfold PV
          rw [p1, p2]
          by_cases z0 : z = 0
          · rw [if_pos z0, if_pos z0]; exact ⟨M2, rfl, j2, hh⟩
          · rw [if_neg z0, if_neg z0]; exact ⟨M2, rfl, j2, hh⟩
        · rw [if_pos (fa_of_nlt yl), if_neg yl]
          exact ⟨M2, rfl, j2, hh⟩
    · rw [if_neg y0, if_neg y0]
      exact ⟨M, rfl, h, hiE_rf _⟩
