/-! ===== the plan: its steps ===== -/
def PV (A : AB) (s k : Nat) (x3 : Int32) : Int32 := if x3 = 0 then nI (nx A s (bf A s k)) else fwI A (nx A s (bf A s k)) (bf A s k)
def PLV (A : AB) (s : Nat) (x2 x3 : Int32) : Int32 := if (TT A s).1 = 0 then -9 else if x2 < nI (pop 8 s) then PV A s (ix x2) x3 else -9
theorem fd_lt_of_cf {A : AB} {p s : Nat} (h : cf A p s = true) : fd A p s < 6 := by unfold cf at h; simpa using h
theorem m_planned {M : Mem} {A : AB} (h : LC M A) (hA : okA A) {s g : Nat} {x2 x3 : Int32} (hg : 5000 < g) (hs : s < 2 ^ A.n) (hset : ¬ fn_X8_isSet (nI s) M = 0) (h0 : 0 ≤ x2) : ∃ M', fn_X8_planned g (nI s) x2 x3 M = some (PLV A s x2 x3, M') ∧ eqx [66, 67, 68] M M' := by
  have hn := hA.1
  have h256 := lt256 hs hn
  obtain ⟨M3, g1, g2, g3⟩ := m_orders h hA hg hs
  have hLI := (g3 s (by omega) (sub_rf s)).2
  unfold fn_X8_planned
  rw [if_neg hset, if_pos h0, g1]
  simp only [Option.bind_some]
  rw [if_pos (inb_nI (by omega) (by omega)), ix_nI (by omega), hLI, m_bits hg h256]
  unfold PLV
  by_cases c0 : (TT A s).1 = 0
  · rw [if_pos ((LI_m9 hA s).mpr c0), if_pos c0]
    exact ⟨M3, rfl, eqx_mono g2 (by decide)⟩
  · rw [if_neg (fun q => c0 ((LI_m9 hA s).mp q)), if_neg c0]
    simp only [Option.bind_some]
    have hT : 0 < (TT A s).1 := by omega
    have hpop := pop_le 8 s
    by_cases c1 : x2 < nI (pop 8 s)
    · rw [if_pos c1, if_pos c1]
      obtain ⟨k, hk, rfl⟩ : ∃ k, k < pop 8 s ∧ x2 = nI k := nI_ex (by omega) (Int32.not_lt.mpr h0) (Int32.not_le.mpr c1)
      rw [ix_nI (by omega)]
      have hF3 : M3 67 s = nI (TT A s).2 := by rw [hLI]; unfold LI; rw [if_neg c0]
      have hL3 : LC M3 A := LC_eq h (g2 62 (by decide)) (g2 63 (by decide)) (g2 64 (by decide)) (g2 65 (by decide))
      obtain ⟨M8, i1, i2, i3⟩ := m_leads hL3 hA hg hs hF3
      have hL8 : LC M8 A := LC_eq hL3 (i2 62 (by decide)) (i2 63 (by decide)) (i2 64 (by decide)) (i2 65 (by decide))
      have hF8 : M8 67 s = nI (TT A s).2 := by rw [i2 67 (by decide)]; exact hF3
      rw [i1]
      simp only [Option.bind_some]
      have hloop : ∀ i v, i < pop 8 s → ¬ nI k < nI i → bd_X8_planned_56 g (nI s) (nI k) x3 M8 (nI (bf A s i), v, nI i) = some (.inl (nI (bf A s (i + 1)), PV A s i x3, nI (i + 1))) := by
        intro i v hi ck
        obtain ⟨b1, b2, b3, b4⟩ := bf_ok hA hs hT i (by omega)
        obtain ⟨b5, b6⟩ := b4 hi
        obtain ⟨y1, y2, y3, y4⟩ := nx_yes b6
        have hb256 : bf A s i < 256 := by omega
        simp only [bd_X8_planned_56, u3]
        rw [if_neg ck]
        refine lp_forb (fun p => nI p) (nx A s (bf A s i)) (nI (nx A s (bf A s i))) rfl (by omega) ?_ ?_ ?_
        · intro p hp
          have hno := fa_first_no (nfD A s (DD A s) (bf A s i)) A.n p hp
          simp only [bd_X8_planned_65, u1]
          rw [has8 (by omega) (by omega), has8 (by omega) (by omega)]
          unfold nfD at hno
          cases q1 : s.testBit p
          · simp [inc]
          · cases q2 : (bf A s i).testBit p
            · have hgt := or_gt q2
              have hle := sub_le (sub_or b1 (two_pow_sub q1))
              rw [m_canCome hL8 hA hg h256 (by omega) (by omega) hF8 (i3 _ hle (by omega))]
              rw [q1, q2] at hno
              have hno2 : (cf A p (bf A s i) && (decide (pr A (bf A s i ||| 2 ^ p) ≤ (TT A s).2) && DD A s (bf A s i ||| 2 ^ p))) = false := by simpa using hno
              rw [hno2]
              simp [inc]
            · simp [inc]
        · simp only [bd_X8_planned_65, u1]
          have hle := sub_le (sub_or b1 (two_pow_sub y1))
          rw [has8 (by omega) (by omega), has8 (by omega) (by omega), y1, y2, m_canCome hL8 hA hg h256 (by omega) b6 hF8 (i3 _ hle (by have := or_gt y2; omega))]
          unfold EE at y4
          rw [y3, y4]
          simp
        · simp only [u1]
          have hjn : ∀ t, jn_X8_planned_122 t (nI (bf A s i)) (nI i) (nI (nx A s (bf A s i))) = some (.inl (nI (bf A s (i + 1)), t, nI (i + 1))) := by
            intro t
            simp only [jn_X8_planned_122, bv]
            rw [N_sl (by omega), N_or, inc]
            rfl
          unfold PV
          by_cases cx : x3 = 0
          · rw [if_pos cx, if_pos cx, hjn]
          · rw [if_neg cx, if_neg cx, m_waysOf hL8 hA hg (by omega)]
            simp only [Option.bind_some]
            rw [low_ways hg y3]
            simp only [Option.bind_some]
            rw [hjn]
      let S : Nat → Int32 × Int32 × Int32 := fun i => (nI (bf A s i), (if i = 0 then -9 else PV A s (i - 1) x3), nI i)
      refine ⟨M8, ?_, eqx_tr (eqx_mono g2 (by decide)) (eqx_mono i2 (by decide))⟩
      refine lp_forb S (k + 1) (PV A s k x3) rfl (by omega) ?_ ?_ rfl
      · intro i hi
        show bd_X8_planned_56 g (nI s) (nI k) x3 M8 (nI (bf A s i), _, nI i) = _
        rw [hloop i _ (by omega) (nI_nlt (by omega) (by omega))]
        show _ = some (Sum.inl (nI (bf A s (i + 1)), (if i + 1 = 0 then -9 else PV A s (i + 1 - 1) x3), nI (i + 1)))
        rw [if_neg (by omega)]
        rfl
      · show bd_X8_planned_56 g (nI s) (nI k) x3 M8 (nI (bf A s (k + 1)), (if k + 1 = 0 then -9 else PV A s (k + 1 - 1) x3), nI (k + 1)) = _
        simp only [bd_X8_planned_56, u3]
        rw [if_pos (show nI k < nI (k + 1) from nI_lt (by omega) (by omega)), if_neg (by omega)]
        rfl
    · rw [if_neg c1, if_neg c1]
      exact ⟨M3, rfl, eqx_mono g2 (by decide)⟩
