/-! ===== all calls, and the start ===== -/
theorem sims_all {g : Nat} (hg : 5000 < g) : sims g JJ := by
  refine ⟨?_, ?_, ?_, ?_, ?_, ?_, ?_, ?_, ?_, ?_, ?_, ?_, ?_, ?_, ?_, ?_, ?_, ?_, ?_, ?_, ?_, ?_, ?_, ?_, ?_, ?_, ?_, ?_, ?_⟩
  · exact fun x M hJ => sim_T (tc_typ x) (tm_typ x) M hJ
  · exact fun M hJ => sim_T tc_clt tm_clt M hJ
  · exact fun M hJ => sim_T (tc_lod hg) (tm_lod hg) M hJ
  · rintro M ⟨S, c, m⟩
    exact ⟨S.fk, c.2.2.2.1.2.1, m.2.2.1.2.1, S, c, m⟩
  · exact fun M hJ => sim_T (tc_clr hg) (tm_clr hg) M hJ
  · exact fun x1 x2 x3 x4 x5 x6 M hJ => sim_T (tc_add hg x1 x2 x3 x4 x5 x6) (tm_add hg x1 x2 x3 x4 x5 x6) M hJ
  · exact fun x0 x1 x2 x3 x4 x5 x6 M hJ => sim_T (tc_ext hg x0 x1 x2 x3 x4 x5 x6) (tm_ext hg x0 x1 x2 x3 x4 x5 x6) M hJ
  · exact fun x M hJ => sim_T (tc_drp hg x) (tm_drp hg x) M hJ
  · exact fun x y M hJ => sim_T (tc_shf hg x y) (tm_shf hg x y) M hJ
  · rintro x y z M ⟨S, c, m⟩
    exact ⟨aAt x y z S, c_pat c x y z, m_pat c.1 m x y z, S, c, m⟩
  · exact fun x y M hJ => sim_Q (tc_pc hg x y) (tm_pc hg x y) M hJ
  · exact fun x y M hJ => sim_Q (tc_blk hg x y) (tm_blk x y) M hJ
  · exact fun x y M hJ => sim_Q (tc_ways hg x y) (tm_ways hg x y) M hJ
  · exact fun x y M hJ => sim_Q (tc_con hg x y) (tm_con hg x y) M hJ
  · exact fun x M hJ => sim_Q (tc_hang hg x) (tm_hang hg x) M hJ
  · exact fun x M hJ => sim_Q (tc_props hg x) (tm_props hg x) M hJ
  · exact fun x M hJ => sim_Q (tc_stand hg x) (tm_stand hg x) M hJ
  · exact fun x M hJ => sim_T (tc_ord hg x) (tm_ord hg x) M hJ
  · exact fun x M hJ => sim_T (tc_few hg x) (tm_few hg x) M hJ
  · exact fun x y z M hJ _ => sim_T (tc_plan hg x y z) (tm_plan hg x y z) M hJ
  · exact fun x M hJ => sim_Q (tc_lock hg x) (tm_lock hg x) M hJ
  · exact fun x y M hJ _ => sim_Q (tc_grp hg x y) (tm_grp hg x y) M hJ
  · exact fun x y M hJ => sim_T (tc_put hg x y) (tm_put hg x y) M hJ
  · exact fun x y M hJ => sim_T (tc_tko hg x y) (tm_tko hg x y) M hJ
  · exact fun M hJ => sim_T (tc_pal hg) (tm_pal hg) M hJ
  · exact fun x y M hJ => sim_T (tc_ifs hg x y) (tm_ifs hg x y) M hJ
  · exact fun M hJ => sim_T tc_und (tm_und hg) M hJ
  · exact fun x M hJ => sim_Q (tc_cnt hg x) (tm_cnt hg x) M hJ
  · rintro M ⟨S, c, m⟩
    obtain ⟨M1, a1, a2, a3⟩ := tc_dig hg c
    obtain ⟨M2, b1, b2, b3⟩ := tm_dig hg c.1 (JM_hi m a3)
    exact ⟨_, M1, M2, a1, b1, S, JC_lo a2 b3, b2⟩
def S0 : ST := (fZ, 0, (fun _ => fZ), 0, (fun _ => 0), 0)
theorem okS_0 : okS S0 := ⟨okF_Z, Nat.zero_le _, fun t ht => by have : t < 0 := ht; omega, Nat.zero_le _, fun t ht => by have : t < 0 := ht; omega⟩
theorem M0_0 {k : Nat} (h : own0 k = false) (h14 : k ≠ 14) : M0 k = fun _ => 0 := by
  unfold M0
  rw [if_neg h14, h]
  rfl
theorem pg_Z (k : Nat) : pg fZ k = 0 := by
  unfold pg
  repeat' split
  all_goals rfl
theorem JJ_start {g : Nat} (hg : 5000 < g) : ∃ M1, fn_X8_lays g M0 = some M1 ∧ JJ M1 := by
  have e61 : M0 61 = fun _ => 0 := M0_0 (by decide) (by decide)
  have e62 : M0 62 = fun _ => 0 := M0_0 (by decide) (by decide)
  obtain ⟨M1, a1, a2, a3⟩ := JM_lay (M := M0) (S := S0) hg okF_Z (fun k hk => by rw [e62]; exact (pg_Z k).symm) ⟨by rw [e61]; rfl, fun t ht => by have : t < 0 := ht; omega⟩ ⟨by rw [e61]; rfl, by rw [e61]; rfl, fun j hj => by have : j < 0 := hj; omega⟩
  have z : ∀ k, k < 61 → own0 k = false → k ≠ 14 → M1 k = fun _ => 0 := fun k hk h h14 => (a2 k (by simp; omega)).trans (M0_0 h h14)
  refine ⟨M1, a1, S0, ⟨okS_0, ⟨?_, ?_, ?_, ?_, ?_⟩, ⟨0, by decide, ?_, ?_, fun t ht => by have : t < 0 := ht; omega⟩, ⟨?_, ?_, fun j hj => by have : j < 0 := hj; omega⟩, Or.inl ?_, Or.inl ?_, Or.inl ?_⟩, a3⟩
  · rw [z 1 (by decide) (by decide) (by decide)]; rfl
  · rw [z 1 (by decide) (by decide) (by decide)]; rfl
  · rw [z 1 (by decide) (by decide) (by decide)]; rfl
  · intro j hj
    rw [z (1 + 2) (by decide) (by decide) (by decide)]; rfl
  · intro c hc
    rw [show M1 (1 + 1) = fO from (a2 2 (by decide)).trans (by unfold M0; rw [if_neg (by decide), if_pos (by decide)])]
    show fOi 216 c = oI 0
    unfold fOi
    rw [if_pos hc]
    rfl
  · rw [z 21 (by decide) (by decide) (by decide)]; rfl
  · rw [z 21 (by decide) (by decide) (by decide)]; rfl
  · rw [z 47 (by decide) (by decide) (by decide)]; rfl
  · rw [z 47 (by decide) (by decide) (by decide)]; rfl
  · rw [z 0 (by decide) (by decide) (by decide)]
  · rw [z 0 (by decide) (by decide) (by decide)]
  · rw [z 0 (by decide) (by decide) (by decide)]
theorem whole_start {p : Program} {e : Env} {s : State} {m : MethodId} {below : List Frame} {meth : Method} {c : Code} (l : Launch) (hflags : l.flags = flags0) {b L : Nat} {xs : Nat → Int32} (hL : L ≤ 4096) (C0 : lw_At p s m meth c b L xs) : W p l e room_1 s m #[Value.ref b] below meth c s.heap [] 0 0 (lw_Z below #[Value.ref b] s) (entryFrame m ([Value.ref b] : List Value).toArray 4) := by
  obtain ⟨M1, h1, h2⟩ := JJ_start (g := 5001) (by decide)
  exact whole_start0 l hL C0 (sims_all (g := 5001) (by decide)) h1 h2
