/-! ===== digest ===== -/
def dgm (h : Int64) (r : Int32) : Int64 := (31 : Int64) * h + r.toInt64
theorem dgm_e (h : Int64) (r : Int32) : (31 : Int64) * h + r.toInt64 = dgm h r := rfl
def dgi (f : Nat → Int64 → Int64) : Nat → Int64 → Int64
  | 0, h => h
  | m + 1, h => f m (dgi f m h)
theorem dgi_2 (f : Nat → Int64 → Int64) (h : Int64) : dgi f 2 h = f 1 (f 0 h) := rfl
def dgP (S : ST) (p : Nat) (h : Int64) : Int64 := dgi (fun k h => dgm h (aBlk (nI p) (nI k) S)) 6 (dgi (fun k h => dgm h (aPc (nI p) (nI k) S)) 10 h)
def dgL (S : ST) (x : Int32) (k : Nat) (h : Int64) : Int64 := dgm (dgm h (aPlan (nI k) 0 x S)) (aPlan (nI k) 1 x S)
def dgS (S : ST) (x : Int32) (h : Int64) : Int64 := dgm (dgm (dgm (dgm (dgm (dgi (dgL S x) 8 (dgm (dgm h (aOrd x S)) (aFew x S))) (aLock x S)) (aGrp 0 x S)) (aGrp 1 x S)) (aStand x S)) (aHang x S)
def dgA (S : ST) : Int64 := dgS S (nI S.F.b) (dgS S (nI (2 ^ S.F.n - 1)) (dgi (dgP S) S.F.n (dgi (fun k h => dgm h (aCnt (nI k) S)) 7 12942)))
theorem c_fold {b : (Int64 × Int32 × Mem) → Option ((Int64 × Int32 × Mem) ⊕ (Int64 × Mem))} {S : ST} {N g : Nat} (f : Nat → Int64 → Int64) (hg : N < g) (hs : ∀ k h M, k < N → JC M S → ∃ M', b (h, nI k, M) = some (.inl (f k h, nI (k + 1), M')) ∧ JC M' S ∧ hiE M M') (he : ∀ h M, JC M S → b (h, nI N, M) = some (.inr (h, M))) (h : Int64) {M : Mem} (hJ : JC M S) : ∃ M', lpN g b (h, (0 : Int32), M) = some (dgi f N h, M') ∧ JC M' S ∧ hiE M M' := by
  have key : ∃ r, lpN g b (h, (0 : Int32), M) = some r ∧ (r.1 = dgi f N h ∧ JC r.2 S ∧ hiE M r.2) := by
    refine lp_inv (fun k w => w.1 = dgi f k h ∧ w.2.1 = nI k ∧ JC w.2.2 S ∧ hiE M w.2.2) _ N ?_ ?_ hg ⟨rfl, rfl, hJ, hiE_rf _⟩
    · rintro k ⟨h', v, M1⟩ hk ⟨q1, q2, q3, q4⟩
      dsimp only at q1 q2 q3 q4
      subst q1; subst q2
      obtain ⟨M2, a1, a2, a3⟩ := hs k (dgi f k h) M1 hk q3
      exact ⟨_, a1, rfl, rfl, a2, hiE_tr q4 a3⟩
    · rintro ⟨h', v, M1⟩ ⟨q1, q2, q3, q4⟩
      dsimp only at q1 q2 q3 q4
      subst q1; subst q2
      exact ⟨_, he _ _ q3, rfl, q3, q4⟩
  obtain ⟨⟨r, M'⟩, k1, k2, k3, k4⟩ := key
  dsimp only at k2 k3 k4
  subst k2
  exact ⟨M', k1, k3, k4⟩
theorem c_mixP {g : Nat} (hg : 5000 < g) {M : Mem} {S : ST} (h : JC M S) (p : Nat) (v : Int64) : ∃ M', fn_X7_mixPiece g v (nI p) M = some (dgP S p v, M') ∧ JC M' S ∧ hiE M M' := by
  unfold fn_X7_mixPiece dgP
  obtain ⟨M1, a1, a2, a3⟩ := c_fold (b := bd_X7_mixPiece_6 g (nI p)) (S := S) (N := 10) (g := g) (fun k h => dgm h (aPc (nI p) (nI k) S)) (by omega) (by
    intro k h M hk hJ
    obtain ⟨M1, a1, a2, a3⟩ := tc_pc hg (nI p) (nI k) M S hJ
    simp only [bd_X7_mixPiece_6, u3]
    rw [if_neg (show ¬ (10 : Int32) ≤ nI k from nI_ge (b := 10) hk (by decide)), a1]
    simp only [Option.bind_some, u2, bv, dgm_e]
    rw [inc]
    exact ⟨M1, rfl, a2, a3⟩) (by
    intro h M hJ
    simp only [bd_X7_mixPiece_6, u3]
    rw [if_pos (by decide)]) v h
  rw [a1]
  simp only [Option.bind_some, u2]
  obtain ⟨M2, b1, b2, b3⟩ := c_fold (b := bd_X7_mixPiece_39 g (nI p)) (S := S) (N := 6) (g := g) (fun k h => dgm h (aBlk (nI p) (nI k) S)) (by omega) (by
    intro k h M hk hJ
    obtain ⟨M1, a1, a2, a3⟩ := tc_blk hg (nI p) (nI k) M S hJ
    simp only [bd_X7_mixPiece_39, u3]
    rw [if_neg (show ¬ (6 : Int32) ≤ nI k from nI_ge (b := 6) hk (by decide)), a1]
    simp only [Option.bind_some, u2, bv, dgm_e]
    rw [inc]
    exact ⟨M1, rfl, a2, a3⟩) (by
    intro h M hJ
    simp only [bd_X7_mixPiece_39, u3]
    rw [if_pos (by decide)]) (dgi (fun k h => dgm h (aPc (nI p) (nI k) S)) 10 v) a2
  rw [b1]
  exact ⟨M2, rfl, b2, hiE_tr a3 b3⟩
theorem c_mixS {g : Nat} (hg : 5000 < g) {M : Mem} {S : ST} (h : JC M S) (x w : Int32) (v : Int64) : ∃ M', jn_X7_digest_82 g x w v M = some (.inl (dgS S x v, w + 1, M')) ∧ JC M' S ∧ hiE M M' := by
  unfold jn_X7_digest_82
  obtain ⟨M1, a1, a2, a3⟩ := tc_ord hg x M S h
  rw [a1]
  simp only [Option.bind_some, u2, bv, dgm_e]
  obtain ⟨M2, b1, b2, b3⟩ := tc_few hg x M1 S a2
  rw [b1]
  simp only [Option.bind_some, u2, bv, dgm_e]
  obtain ⟨M3, d1, d2, d3⟩ := c_fold (b := bd_X7_digest_115 g x) (S := S) (N := 8) (g := g) (dgL S x) (by omega) (by
    intro k h M hk hJ
    obtain ⟨M1, a1, a2, a3⟩ := tc_plan hg x (nI k) 0 M S hJ
    obtain ⟨M2, b1, b2, b3⟩ := tc_plan hg x (nI k) 1 M1 S a2
    simp only [bd_X7_digest_115, u3]
    rw [if_neg (show ¬ (8 : Int32) ≤ nI k from nI_ge (b := 8) hk (by decide)), a1]
    simp only [Option.bind_some, u2, bv, dgm_e]
    rw [b1]
    simp only [Option.bind_some, u2, bv, dgm_e]
    rw [inc]
    exact ⟨M2, rfl, b2, hiE_tr a3 b3⟩) (by
    intro h M hJ
    simp only [bd_X7_digest_115, u3]
    rw [if_pos (by decide)]) (dgm (dgm v (aOrd x S)) (aFew x S)) b2
  rw [d1]
  simp only [Option.bind_some, u2, bv, dgm_e]
  obtain ⟨M4, e1, e2, e3⟩ := tc_lock hg x M3 S d2
  rw [e1]
  simp only [Option.bind_some, u2, bv, dgm_e]
  obtain ⟨M5, f1, f2, f3⟩ := tc_grp hg x 0 M4 S e2
  rw [f1]
  simp only [Option.bind_some, u2, bv, dgm_e]
  obtain ⟨M6, k1, k2, k3⟩ := tc_grp hg x 1 M5 S f2
  rw [k1]
  simp only [Option.bind_some, u2, bv, dgm_e]
  obtain ⟨M7, l1, l2, l3⟩ := tc_stand hg x M6 S k2
  rw [l1]
  simp only [Option.bind_some, u2, bv, dgm_e]
  obtain ⟨M8, n1, n2, n3⟩ := tc_hang hg x M7 S l2
  rw [n1]
  simp only [Option.bind_some, u2, bv, dgm_e]
  exact ⟨M8, rfl, n2, hiE_tr a3 (hiE_tr b3 (hiE_tr d3 (hiE_tr e3 (hiE_tr f3 (hiE_tr k3 (hiE_tr l3 n3))))))⟩
set_option maxHeartbeats 4000000 in
theorem tc_dig {g : Nat} (hg : 5000 < g) {M : Mem} {S : ST} (h : JC M S) : ∃ M', fn_X7_digest g M = some (dgA S, M') ∧ JC M' S ∧ hiE M M' := by
  unfold fn_X7_digest
  simp only [bv]
  obtain ⟨M1, a1, a2, a3⟩ := c_fold (b := bd_X7_digest_6 g) (S := S) (N := 7) (g := g) (fun k h => dgm h (aCnt (nI k) S)) (by omega) (by
    intro k h M hk hJ
    obtain ⟨M1, a1, a2, a3⟩ := tc_cnt hg (nI k) M S hJ
    simp only [bd_X7_digest_6, u3]
    rw [if_neg (show ¬ (7 : Int32) ≤ nI k from nI_ge (b := 7) hk (by decide)), a1]
    simp only [Option.bind_some, u2, bv, dgm_e]
    rw [inc]
    exact ⟨M1, rfl, a2, a3⟩) (by
    intro h M hJ
    simp only [bd_X7_digest_6, u3]
    rw [if_pos (by decide)]) 12942 h
  rw [a1]
  simp only [Option.bind_some, u2]
  have n8 := h.1.1.1
  obtain ⟨M2, b1, b2, b3⟩ := c_fold (b := bd_X7_digest_33 g) (S := S) (N := S.F.n) (g := g) (dgP S) (by omega) (by
    intro k h M hk hJ
    obtain ⟨M1, a1, a2, a3⟩ := c_mixP hg hJ k h
    simp only [bd_X7_digest_33, u3]
    rw [hJ.2.1.1, if_neg (nI_ge hk (by omega)), a1]
    simp only [Option.bind_some, u2]
    rw [inc]
    exact ⟨M1, rfl, a2, a3⟩) (by
    intro h M hJ
    simp only [bd_X7_digest_33, u3]
    rw [hJ.2.1.1, if_pos (Int32.le_refl _)]) (dgi (fun k h => dgm h (aCnt (nI k) S)) 7 12942) a2
  rw [b1]
  simp only [Option.bind_some, u2]
  obtain ⟨M3, d1, d2, d3⟩ := c_fold (b := bd_X7_digest_59 g) (S := S) (N := 2) (g := g) (fun k => dgS S (if k = 0 then nI (2 ^ S.F.n - 1) else nI S.F.b)) (by omega) (by
    intro k h M hk hJ
    simp only [bd_X7_digest_59, u3]
    rw [if_neg (show ¬ (2 : Int32) ≤ nI k from nI_ge (b := 2) hk (by decide))]
    by_cases k0 : k = 0
    · rw [if_pos ((nI_z (by omega)).mpr k0), if_pos k0]
      unfold fn_X7_allPieces
      rw [hJ.2.1.1, all_eq n8, ← inc]
      exact c_mixS hg hJ _ _ _
    · rw [if_neg (fun q => k0 ((nI_z (by omega)).mp q)), if_neg k0, hJ.2.1.2.1, ← inc]
      exact c_mixS hg hJ _ _ _) (by
    intro h M hJ
    simp only [bd_X7_digest_59, u3]
    rw [if_pos (by decide)]) (dgi (dgP S) S.F.n (dgi (fun k h => dgm h (aCnt (nI k) S)) 7 12942)) b2
  rw [dgi_2] at d1
  rw [if_neg (by decide), if_pos rfl] at d1
  rw [d1]
  unfold dgA
  exact ⟨M3, rfl, d2, hiE_tr a3 (hiE_tr b3 d3)⟩
/-! the reference -/
def hM (M : Mem) : Int64 := l64 (M 61 13) (M 61 14)
theorem hM_eq {M M' : Mem} (e : M' 61 = M 61) : hM M' = hM M := by unfold hM; rw [e]
theorem hM_stl (M : Mem) (v : Int64) : hM (stl M 61 13 v) = v := by
  unfold hM stl
  rw [stf_at, upd_ne _ _ (by decide), upd_at, upd_at]
  exact l64_eq v
theorem JM_stl {M : Mem} {S : ST} (h : JM M S) (v : Int64) : JM (stl M 61 13 v) S ∧ loE M (stl M 61 13 v) := by
  refine ⟨JM_up h (fun j hj => ?_) (fun a ha => ?_), fun a ha => ?_⟩
  · unfold stl
    rw [stf_at, upd_ne _ _ (by omega), upd_ne _ _ (by omega)]
  · unfold stl
    exact stf_ne _ _ (by omega)
  · unfold stl
    exact stf_ne _ _ (by omega)
theorem m_mix {M : Mem} {S : ST} (h : JM M S) (r : Int32) : ∃ M', fn_X8_mixes r M = some M' ∧ JM M' S ∧ loE M M' ∧ hM M' = dgm (hM M) r := by
  refine ⟨_, rfl, (JM_stl h _).1, (JM_stl h _).2, ?_⟩
  rw [hM_stl]
  rfl
def TMe (f : Mem → Option (Int32 × Mem)) (r : ST → Int32) : Prop := ∀ M S, okS S → JM M S → ∃ M', f M = some (r S, M') ∧ JM M' S ∧ loE M M' ∧ hM M' = hM M
theorem TMe_P {f : Mem → Option (Int32 × Mem)} {k : Mem → Option (Int32 × Mem)} {v : ST → Nat → Int32} {x : Int32} {g : Nat} (hg : 5000 < g) (hf : ∀ M, f M = if fn_X8_isSet x M = 0 then some ((-1 : Int32), M) else (fn_X8_findsOrders g x M).bind k) (hk : ∀ M S s, x = nI s → okF S.F → s < 2 ^ S.F.n → MT M S.F.A s (s + 1) → k M = some (v S s, M)) : TMe f (aS v x) := by
  intro M S ok h
  rw [hf M, m_stl ok.1.1 (fM_n h.1)]
  by_cases c : stl' S.F.n x = 0
  · rw [if_pos c, aS_0 c]
    exact ⟨M, rfl, h, loE_rf _, rfl⟩
  · obtain ⟨s, hs, rfl⟩ := stl_ex ok.1.1 c
    obtain ⟨M1, a1, a2, a3⟩ := m_orders h.2.2.2 (okA_F ok.1) hg hs
    rw [if_neg c, a1, aS_1 (lt256 hs ok.1.1) c]
    simp only [Option.bind_some]
    exact ⟨M1, hk M1 S s rfl ok.1 hs a3, JM_up h (fun j _ => by rw [a2 61 (by decide)]) (fun a ha => a2 a (by simp; omega)), loE_of a2 (by decide), hM_eq (a2 61 (by decide))⟩
theorem me_ord {g : Nat} (hg : 5000 < g) (x : Int32) : TMe (fn_X8_orders g x) (aOrd x) := by
  refine TMe_P hg (fun M => rfl) ?_
  rintro M S s rfl ok hs hT
  have := lt256 hs ok.1
  try dsimp only
  rw [if_pos (inb_nI this (by decide)), ix_nI (by omega), (hT s (by omega) (sub_rf s)).1]
theorem me_few {g : Nat} (hg : 5000 < g) (x : Int32) : TMe (fn_X8_fewestProps g x) (aFew x) := by
  refine TMe_P hg (fun M => rfl) ?_
  rintro M S s rfl ok hs hT
  have := lt256 hs ok.1
  try dsimp only
  rw [if_pos (inb_nI this (by decide)), ix_nI (by omega), (hT s (by omega) (sub_rf s)).2]
theorem me_plan {g : Nat} (hg : 5000 < g) (x y z : Int32) : TMe (fn_X8_planned g x y z) (aPlan y z x) := by
  intro M S ok h
  have e := m_stl ok.1.1 (fM_n h.1) x
  by_cases c : stl' S.F.n x = 0
  · unfold fn_X8_planned
    rw [e, if_pos c, aPlan, aS_0 c]
    exact ⟨M, rfl, h, loE_rf _, rfl⟩
  · obtain ⟨s, hs, rfl⟩ := stl_ex ok.1.1 c
    rw [aPlan, aS_1 (lt256 hs ok.1.1) c]
    by_cases y0 : 0 ≤ y
    · obtain ⟨M1, a1, a2⟩ := m_planned h.2.2.2 (okA_F ok.1) (x2 := y) (x3 := z) hg hs (by rw [e]; exact c) y0
      rw [a1, if_pos y0]
      exact ⟨M1, rfl, JM_up h (fun j _ => by rw [a2 61 (by decide)]) (fun a ha => a2 a (by simp; omega)), loE_of a2 (by decide), hM_eq (a2 61 (by decide))⟩
    · unfold fn_X8_planned
      rw [e, if_neg c, if_neg y0, if_neg y0]
      exact ⟨M, rfl, h, loE_rf _, rfl⟩
theorem m_fold {b : (Int32 × Mem) → Option ((Int32 × Mem) ⊕ Mem)} {S : ST} {N g : Nat} (f : Nat → Int64 → Int64) (hg : N < g) (hs : ∀ k M, k < N → JM M S → ∃ M', b (nI k, M) = some (.inl (nI (k + 1), M')) ∧ JM M' S ∧ loE M M' ∧ hM M' = f k (hM M)) (he : ∀ M, JM M S → b (nI N, M) = some (.inr M)) {M : Mem} (hJ : JM M S) : ∃ M', lpN g b ((0 : Int32), M) = some M' ∧ (JM M' S ∧ loE M M' ∧ hM M' = dgi f N (hM M)) := by
  refine lp_inv (fun k w => w.1 = nI k ∧ JM w.2 S ∧ loE M w.2 ∧ hM w.2 = dgi f k (hM M)) _ N ?_ ?_ hg ⟨rfl, hJ, loE_rf _, rfl⟩
  · rintro k ⟨v, M1⟩ hk ⟨q1, q2, q3, q4⟩
    dsimp only at q1 q2 q3 q4
    subst q1
    obtain ⟨M2, a1, a2, a3, a4⟩ := hs k M1 hk q2
    exact ⟨_, a1, rfl, a2, loE_tr q3 a3, by rw [a4, q4]; rfl⟩
  · rintro ⟨v, M1⟩ ⟨q1, q2, q3, q4⟩
    dsimp only at q1 q2 q3 q4
    subst q1
    exact ⟨_, he _ q2, q2, q3, q4⟩
theorem m_mixS {g : Nat} (hg : 5000 < g) {M : Mem} {S : ST} (ok : okS S) (h : JM M S) {s : Nat} (hs : s < 2 ^ S.F.n) : ∃ M', fn_X8_mixesSet g (nI s) M = some M' ∧ JM M' S ∧ loE M M' ∧ hM M' = dgS S (nI s) (hM M) := by
  have hv : ¬ stl' S.F.n (nI s) = 0 := stl_in ok.1.1 hs
  have h256 := lt256 hs ok.1.1
  have eL : ∀ N, JM N S → fn_X8_lockedOf g (nI s) N = some (aLock (nI s) S) := fun N hN => by
    rw [m_locked hN.2.2.2 (okA_F ok.1) hg hs, aLock, aS_1 h256 hv]
  have eS : ∀ N, JM N S → fn_X8_standingOf g (nI s) N = some (aStand (nI s) S) := fun N hN => by
    rw [m_standing hN.2.2.2 (okA_F ok.1) hg hs, aStand, aS_1 h256 hv]
  generalize nI s = x at *
  unfold fn_X8_mixesSet
  obtain ⟨M1, a1, a2, a3, a4⟩ := me_ord hg x M S ok h
  rw [a1]
  simp only [Option.bind_some, u2]
  obtain ⟨M2, b1, b2, b3, b4⟩ := m_mix a2 (aOrd x S)
  rw [b1]
  simp only [Option.bind_some]
  obtain ⟨M3, c1, c2, c3, c4⟩ := me_few hg x M2 S ok b2
  rw [c1]
  simp only [Option.bind_some, u2]
  obtain ⟨M4, d1, d2, d3, d4⟩ := m_mix c2 (aFew x S)
  rw [d1]
  simp only [Option.bind_some]
  obtain ⟨M5, e1, e2, e3, e4⟩ := m_fold (b := bd_X8_mixesSet_20 g x) (S := S) (N := 8) (g := g) (dgL S x) (by omega) (by
    intro k M hk hJ
    obtain ⟨M1, a1, a2, a3, a4⟩ := me_plan hg x (nI k) 0 M S ok hJ
    obtain ⟨M2, b1, b2, b3, b4⟩ := m_mix a2 (aPlan (nI k) 0 x S)
    obtain ⟨M3, c1, c2, c3, c4⟩ := me_plan hg x (nI k) 1 M2 S ok b2
    obtain ⟨M4, d1, d2, d3, d4⟩ := m_mix c2 (aPlan (nI k) 1 x S)
    simp only [bd_X8_mixesSet_20, u2]
    rw [if_neg (show ¬ (8 : Int32) ≤ nI k from nI_ge (b := 8) hk (by decide)), a1]
    simp only [Option.bind_some, u2]
    rw [b1]
    simp only [Option.bind_some, u2]
    rw [c1]
    simp only [Option.bind_some, u2]
    rw [d1]
    simp only [Option.bind_some, u2]
    rw [inc]
    refine ⟨M4, rfl, d2, loE_tr a3 (loE_tr b3 (loE_tr c3 d3)), ?_⟩
    rw [d4, c4, b4, a4]
    rfl) (by
    intro M hJ
    simp only [bd_X8_mixesSet_20, u2]
    rw [if_pos (by decide)]) d2
  rw [e1]
  simp only [Option.bind_some, u1]
  rw [eL M5 e2]
  simp only [Option.bind_some]
  obtain ⟨M6, f1, f2, f3, f4⟩ := m_mix e2 (aLock x S)
  rw [f1]
  simp only [Option.bind_some]
  rw [tm_grp hg x 0 M6 S ok f2]
  simp only [Option.bind_some]
  obtain ⟨M7, k1, k2, k3, k4⟩ := m_mix f2 (aGrp 0 x S)
  rw [k1]
  simp only [Option.bind_some]
  rw [tm_grp hg x 1 M7 S ok k2]
  simp only [Option.bind_some]
  obtain ⟨M8, l1, l2, l3, l4⟩ := m_mix k2 (aGrp 1 x S)
  rw [l1]
  simp only [Option.bind_some]
  rw [eS M8 l2]
  simp only [Option.bind_some]
  obtain ⟨M9, n1, n2, n3, n4⟩ := m_mix l2 (aStand x S)
  rw [n1]
  simp only [Option.bind_some]
  rw [tm_hang hg x M9 S ok n2]
  simp only [Option.bind_some]
  obtain ⟨M10, p1, p2, p3, p4⟩ := m_mix n2 (aHang x S)
  rw [p1]
  refine ⟨M10, rfl, p2, loE_tr a3 (loE_tr b3 (loE_tr c3 (loE_tr d3 (loE_tr e3 (loE_tr f3 (loE_tr k3 (loE_tr l3 (loE_tr n3 p3)))))))), ?_⟩
  rw [p4, n4, l4, k4, f4, e4, d4, c4, b4, a4]
  rfl
theorem tm_dig {g : Nat} (hg : 5000 < g) {M : Mem} {S : ST} (ok : okS S) (h : JM M S) : ∃ M', fn_X8_digest g M = some (dgA S, M') ∧ JM M' S ∧ loE M M' := by
  unfold fn_X8_digest
  simp only [bv]
  obtain ⟨j0, lo0⟩ := JM_stl h 12942
  have h0 := hM_stl M 12942
  obtain ⟨M0', hM0⟩ : ∃ z, z = stl M 61 13 12942 := ⟨_, rfl⟩
  rw [← hM0] at j0 lo0 h0 ⊢
  obtain ⟨M1, a1, a2, a3, a4⟩ := m_fold (b := bd_X8_digest_9 g) (S := S) (N := 7) (g := g) (fun k h => dgm h (aCnt (nI k) S)) (by omega) (by
    intro k M hk hJ
    obtain ⟨M1, a1, a2, a3, a4⟩ := m_mix hJ (aCnt (nI k) S)
    simp only [bd_X8_digest_9, u2]
    rw [if_neg (show ¬ (7 : Int32) ≤ nI k from nI_ge (b := 7) hk (by decide)), tm_cnt hg (nI k) M S ok hJ]
    simp only [Option.bind_some]
    rw [a1]
    simp only [Option.bind_some]
    rw [inc]
    exact ⟨M1, rfl, a2, a3, a4⟩) (by
    intro M hJ
    simp only [bd_X8_digest_9, u2]
    rw [if_pos (by decide)]) j0
  rw [a1]
  simp only [Option.bind_some, u1]
  have n8 := ok.1.1
  have e0 : ix (0 : Int32) = 0 := rfl
  obtain ⟨M2, b1, b2, b3, b4⟩ := m_fold (b := bd_X8_digest_32 g) (S := S) (N := S.F.n) (g := g) (dgP S) (by omega) (by
    intro p M hp hJ
    obtain ⟨M1, a1, a2, a3, a4⟩ := m_fold (b := bd_X8_digest_44 g (nI p)) (S := S) (N := 10) (g := g) (fun k h => dgm h (aPc (nI p) (nI k) S)) (by omega) (by
      intro k M hk hJ
      obtain ⟨M1, a1, a2, a3, a4⟩ := m_mix hJ (aPc (nI p) (nI k) S)
      simp only [bd_X8_digest_44, u2]
      rw [if_neg (show ¬ (10 : Int32) ≤ nI k from nI_ge (b := 10) hk (by decide)), tm_pc hg (nI p) (nI k) M S ok hJ]
      simp only [Option.bind_some]
      rw [a1]
      simp only [Option.bind_some]
      rw [inc]
      exact ⟨M1, rfl, a2, a3, a4⟩) (by
      intro M hJ
      simp only [bd_X8_digest_44, u2]
      rw [if_pos (by decide)]) hJ
    obtain ⟨M2, b1, b2, b3, b4⟩ := m_fold (b := bd_X8_digest_68 (nI p)) (S := S) (N := 6) (g := g) (fun k h => dgm h (aBlk (nI p) (nI k) S)) (by omega) (by
      intro k M hk hJ
      obtain ⟨M1, a1, a2, a3, a4⟩ := m_mix hJ (aBlk (nI p) (nI k) S)
      simp only [bd_X8_digest_68, u2]
      rw [if_neg (show ¬ (6 : Int32) ≤ nI k from nI_ge (b := 6) hk (by decide)), tm_blk (nI p) (nI k) M S ok hJ]
      simp only [Option.bind_some]
      rw [a1]
      simp only [Option.bind_some]
      rw [inc]
      exact ⟨M1, rfl, a2, a3, a4⟩) (by
      intro M hJ
      simp only [bd_X8_digest_68, u2]
      rw [if_pos (by decide)]) a2
    simp only [bd_X8_digest_32, u2]
    rw [e0, fM_n hJ.1, if_neg (nI_ge hp (by omega)), a1]
    simp only [Option.bind_some, u1]
    rw [b1]
    simp only [Option.bind_some]
    rw [inc]
    refine ⟨M2, rfl, b2, loE_tr a3 b3, ?_⟩
    rw [b4, a4]
    rfl) (by
    intro M hJ
    simp only [bd_X8_digest_32, u2]
    rw [e0, fM_n hJ.1, if_pos (Int32.le_refl _)]) a2
  rw [b1]
  simp only [Option.bind_some, u1]
  have eA : fn_X8_all M2 = nI (2 ^ S.F.n - 1) := by
    unfold fn_X8_all
    rw [e0, fM_n b2.1, all_eq n8]
  rw [eA]
  obtain ⟨M3, c1, c2, c3, c4⟩ := m_mixS hg ok b2 (two_lt S.F.n)
  rw [c1]
  simp only [Option.bind_some]
  rw [show M3 62 (ix (1 : Int32)) = nI S.F.b from fM_b c2.1]
  obtain ⟨M4, d1, d2, d3, d4⟩ := m_mixS hg ok c2 ok.1.2.1
  rw [d1]
  simp only [Option.bind_some]
  rw [show l64 (M4 61 13) (M4 61 14) = dgA S from by
    show hM M4 = _
    rw [d4, c4, b4, a4, h0]
    rfl]
  exact ⟨M4, rfl, d2, loE_tr lo0 (loE_tr a3 (loE_tr b3 (loE_tr c3 d3)))⟩
