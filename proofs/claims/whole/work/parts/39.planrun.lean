/-! ===== the plan: the reference ===== -/
theorem or_lt {s b p m : Nat} (h1 : b < 2 ^ m) (hp : p < m) : b ||| 2 ^ p < 2 ^ m := Nat.or_lt_two_pow h1 (Nat.pow_lt_pow_right (by omega) hp)
theorem m_canCome {M : Mem} {A : AB} (h : LC M A) (hA : okA A) {s part p g : Nat} (hg : 5000 < g) (hs : s < 256) (hpart : part < 2 ^ A.n) (hp : p < A.n) (hF : M 67 s = nI (TT A s).2) {d : Bool} (hd : M 68 (part ||| 2 ^ p) = if d then 1 else 0) : fn_X8_canCome g (nI part) (nI p) (nI s) M = some (if cf A p part && (decide (pr A (part ||| 2 ^ p) ≤ (TT A s).2) && d) then 1 else 0) := by
  have hn := hA.1
  have hor := lt256 (or_lt (s := s) hpart hp) hn
  have hpr := pr_le A (part ||| 2 ^ p)
  have hF8 := TT_le hA s
  unfold fn_X8_canCome
  rw [N_sl (by omega), N_or]
  simp only [bv]
  rw [m_waysOf h hA hg (by omega), m_props h hA hg hor]
  simp only [Option.bind_some]
  rw [if_pos (inb_nI (show s < 256 by omega) (by omega)), if_pos (inb_nI hor (by omega)), ix_nI (by omega), ix_nI (by omega), hF, hd]
  simp only [nI_ltI (show (TT A s).2 < 2 ^ 31 by omega) (show pr A (part ||| 2 ^ p) < 2 ^ 31 by omega)]
  cases c1 : cf A p part
  · rw [if_pos ((nI_wm_zero A p part).mpr c1)]; simp
  · rw [if_neg (fun q => by rw [(nI_wm_zero A p part).mp q] at c1; cases c1)]
    by_cases c2 : pr A (part ||| 2 ^ p) ≤ (TT A s).2
    · rw [if_neg (by omega)]
      cases d <;> simp [c2]
    · rw [if_pos (by omega)]
      simp [c2]
theorem oI_dec (a : Nat) : nI a + (-1) = oI a := by
  cases a with
  | zero => decide
  | succ a => rw [pk_m1, oI_s]
theorem ite_b (b : Bool) : isZ (if b then (1 : Int32) else 0) := by
  cases b
  · exact isZ_0
  · exact isZ_1
def LDk (M : Mem) (A : AB) (s k : Nat) : Prop := ∀ q, q ≤ s → s < q + k → M 68 q = if DD A s q then 1 else 0
theorem m_leads {M : Mem} {A : AB} (h : LC M A) (hA : okA A) {s g : Nat} (hg : 5000 < g) (hs : s < 2 ^ A.n) (hF : M 67 s = nI (TT A s).2) : ∃ M', fn_X8_findsLeads g (nI s) M = some M' ∧ eqx [68] M M' ∧ LDk M' A s (s + 1) := by
  have hn := hA.1
  have h256 := lt256 hs hn
  unfold fn_X8_findsLeads
  have key : ∃ M', lpN g (bd_X8_findsLeads_2 g (nI s)) (nI s, M) = some M' ∧ (eqx [68] M M' ∧ LDk M' A s (s + 1)) := by
    refine lp_inv (fun k w => w.1 = oI (s + 1 - k) ∧ eqx [68] M w.2 ∧ LDk w.2 A s k) _ (s + 1) ?_ ?_ (by omega) ⟨by show nI s = oI (s + 1); rw [oI_s], eqx_rf _ _, fun q h1 h2 => by omega⟩
    · rintro k ⟨v, N⟩ hk ⟨hv, hE, hT⟩
      have hv : v = oI (s + 1 - k) := hv
      have hE : eqx [68] M N := hE
      have hT : LDk N A s k := hT
      obtain ⟨part, hpart⟩ : ∃ part, part = s - k := ⟨_, rfl⟩
      have hv2 : v = nI part := by rw [hv, show s + 1 - k = part + 1 by omega, oI_s]
      subst hv2
      have hps : part ≤ s := by omega
      have hz : ¬ nI part < 0 := nI_nn (by omega)
      have hin : inb (nI part) 256 := inb_nI (by omega) (by omega)
      -- the flag at first, then over the pieces
      have h21 : ∀ c : Bool, c = (part == s) → ∃ N', jn_X8_findsLeads_21 g (if c then 1 else 0) (nI part) (nI part) (nI s) N = some (.inl (oI part, N')) ∧ eqx [68] M N' ∧ LDk N' A s (k + 1) := by
        intro c hc
        unfold jn_X8_findsLeads_21
        rw [if_pos hin, if_pos (ite_b c), ix_nI (by omega)]
        simp only [bv]
        obtain ⟨N1, hN1⟩ : ∃ z, z = st N 68 part (if c then 1 else 0) := ⟨_, rfl⟩
        rw [← hN1]
        have e1 : eqx [68] M N1 := by rw [hN1]; exact eqx_st hE (by decide) _ _
        have t1 : LDk N1 A s k := by
          intro q h1 h2
          have := hT q h1 h2
          rw [hN1]
          simpa [st, upd, show q ≠ part by omega] using this
        have a1 : N1 68 part = if c then 1 else 0 := by rw [hN1, st_at, upd_at]
        have fin : ∀ N' : Mem, eqx [68] M N' → LDk N' A s k → N' 68 part = (if DD A s part then 1 else 0) → LDk N' A s (k + 1) := by
          intro N' _ h2 h3 q hq1 hq2
          by_cases e : q = part
          · subst e; exact h3
          · exact h2 q hq1 (by omega)
        by_cases cs : sub part s
        · have hwi : fn_X8_isWithin (nI part) (nI s) = 1 := by
            unfold fn_X8_isWithin
            rw [N_dif, dif_zero.mpr cs, if_pos (by decide)]
          have hp2 : part < 2 ^ A.n := by omega
          obtain ⟨f, hf⟩ : ∃ f, f = nfD A s (DD A s) part := ⟨_, rfl⟩
          have inner : ∃ N', lpN g (bd_X8_findsLeads_24 g (nI part) (nI s)) ((0 : Int32), N1) = some N' ∧ (eqx [68] M N' ∧ LDk N' A s k ∧ N' 68 part = if (c || decide (fa_first f A.n < A.n)) then 1 else 0) := by
            refine lp_inv (fun p w => w.1 = nI p ∧ eqx [68] M w.2 ∧ LDk w.2 A s k ∧ w.2 68 part = if (c || decide (fa_first f p < p)) then 1 else 0) _ A.n ?_ ?_ (by omega) ⟨rfl, e1, t1, by show N1 68 part = _; rw [a1]; simp [fa_first]⟩
            · rintro p ⟨v, N3⟩ hp ⟨hv, hE3, hT3, h68⟩
              have hv : v = nI p := hv
              subst hv
              have hE3 : eqx [68] M N3 := hE3
              have hT3 : LDk N3 A s k := hT3
              have h68 : N3 68 part = if (c || decide (fa_first f p < p)) then 1 else 0 := h68
              have hL3 : LC N3 A := LC_eq h (hE3 62 (by decide)) (hE3 63 (by decide)) (hE3 64 (by decide)) (hE3 65 (by decide))
              have h03 : N3 62 (ix (0 : Int32)) = nI A.n := hL3.1
              simp only [bd_X8_findsLeads_24, u2]
              rw [h03, if_neg (nI_ge hp (by omega)), hwi, if_neg (by decide), if_pos hin, ix_nI (by omega), has8 (by omega) (by omega), has8 (by omega) (by omega)]
              have hst : ∀ b : Bool, ∃ N', jn_X8_findsLeads_87 (if b then 1 else 0) (nI part) (nI p) N3 = some (.inl (nI (p + 1), N')) ∧ eqx [68] M N' ∧ LDk N' A s k ∧ N' 68 part = if b then 1 else 0 := by
                intro b
                refine ⟨st N3 68 part (if b then 1 else 0), ?_, eqx_st hE3 (by decide) _ _, ?_, by rw [st_at, upd_at]⟩
                · unfold jn_X8_findsLeads_87
                  rw [if_pos hin, if_pos (ite_b b), ix_nI (by omega)]
                  simp [bv, inc]
                · intro q h1 h2
                  have := hT3 q h1 h2
                  simpa [st, upd, show q ≠ part by omega] using this
              -- what stands there after piece p
              have goal2 : ∀ b : Bool, (c || decide (fa_first f (p + 1) < p + 1)) = b → ∀ R, R = jn_X8_findsLeads_87 (if b then 1 else 0) (nI part) (nI p) N3 → ∃ s' : Int32 × Mem, R = some (.inl s') ∧ s'.1 = nI (p + 1) ∧ eqx [68] M s'.2 ∧ LDk s'.2 A s k ∧ s'.2 68 part = if (c || decide (fa_first f (p + 1) < p + 1)) then 1 else 0 := by
                intro b hb R hR
                obtain ⟨N', g1, g2, g3, g4⟩ := hst b
                exact ⟨(nI (p + 1), N'), by rw [hR, g1], rfl, g2, g3, by rw [hb]; exact g4⟩
              have hstep : decide (fa_first f (p + 1) < p + 1) = (decide (fa_first f p < p) || f p) := by
                have e : fa_first f (p + 1) = if fa_first f p < p then fa_first f p else if f p then p else p + 1 := rfl
                by_cases c1 : fa_first f p < p
                · have e1 : fa_first f (p + 1) = fa_first f p := by rw [e, if_pos c1]
                  rw [e1]; simp [c1]; omega
                · have e1 : fa_first f (p + 1) = if f p then p else p + 1 := by rw [e, if_neg c1]
                  rw [e1]
                  cases f p <;> simp [c1]
              rw [h68]
              by_cases c6 : (c || decide (fa_first f p < p)) = true
              · rw [c6]
                refine goal2 true ?_ _ ?_
                · rw [hstep, ← Bool.or_assoc, c6]; rfl
                · simp [jn_X8_findsLeads_82]
              · have c6' : (c || decide (fa_first f p < p)) = false := by simpa using c6
                rw [c6']
                have hbp : (c || decide (fa_first f (p + 1) < p + 1)) = f p := by rw [hstep, ← Bool.or_assoc, c6']; rfl
                refine goal2 (f p) hbp _ ?_
                rw [hf]
                unfold nfD
                cases q1 : s.testBit p
                · simp [jn_X8_findsLeads_86]
                · cases q2 : part.testBit p
                  · have hgt := or_gt q2
                    have hle := sub_le (sub_or cs (two_pow_sub q1))
                    have hd := hT3 (part ||| 2 ^ p) hle (by omega)
                    have hF3 : N3 67 s = nI (TT A s).2 := by rw [hE3 67 (by decide)]; exact hF
                    rw [m_canCome hL3 hA hg h256 hp2 hp hF3 hd]
                    cases cf A p part && (decide (pr A (part ||| 2 ^ p) ≤ (TT A s).2) && DD A s (part ||| 2 ^ p)) <;> simp [jn_X8_findsLeads_86, jn_X8_findsLeads_82]
                  · simp [jn_X8_findsLeads_86]
            · rintro ⟨v, N3⟩ ⟨hv, hE3, hT3, h68⟩
              have hv : v = nI A.n := hv
              have hE3 : eqx [68] M N3 := hE3
              subst hv
              have hL3 : LC N3 A := LC_eq h (hE3 62 (by decide)) (hE3 63 (by decide)) (hE3 64 (by decide)) (hE3 65 (by decide))
              have h03 : N3 62 (ix (0 : Int32)) = nI A.n := hL3.1
              refine ⟨N3, ?_, hE3, hT3, h68⟩
              simp only [bd_X8_findsLeads_24, u2]
              rw [h03, if_pos (Int32.le_refl _)]
          obtain ⟨N', i1, i2, i3, i4⟩ := inner
          refine ⟨N', ?_, i2, fin N' i2 i3 ?_⟩
          · rw [i1]
            simp [u1, oI_dec]
          · rw [i4]
            congr 1
            rw [hc, hf]
            by_cases e : part = s
            · subst e; simp [DD_s]
            · rw [DD_row A (by omega), dif_zero.mpr cs]
              have : (part == s) = false := by simpa using e
              rw [this]
              unfold nx
              simp
        · have hwi : fn_X8_isWithin (nI part) (nI s) = 0 := by
            unfold fn_X8_isWithin
            rw [N_dif, if_neg (fun q => cs (dif_zero.mp ((nI_z (Nat.lt_trans (dif_lt (m := 8) (show part < 2 ^ 8 by omega)) (by decide))).mp q)))]
          have hb0 : bd_X8_findsLeads_24 g (nI part) (nI s) ((0 : Int32), N1) = some (.inr N1) := by
            simp only [bd_X8_findsLeads_24, u2]
            by_cases c0 : N1 62 (ix (0 : Int32)) ≤ 0
            · rw [if_pos c0]
            · rw [if_neg c0, hwi, if_pos rfl]
          have hne : part ≠ s := fun e => cs (by rw [e]; exact sub_rf s)
          refine ⟨N1, ?_, e1, fin N1 e1 t1 ?_⟩
          · refine lp_forb (fun _ => ((0 : Int32), N1)) 0 N1 rfl (by omega) (fun j hj => by omega) hb0 ?_
            simp [u1, oI_dec]
          · rw [a1, hc, DD_row A (by omega)]
            have e1 : (part == s) = false := by simpa using hne
            have e2 : (dif part s == 0) = false := by
              cases q : (dif part s == 0)
              · rfl
              · exact absurd (dif_zero.mp (by simpa using q)) cs
            rw [e1, e2]; rfl
      obtain ⟨N', j1, j2, j3⟩ := h21 (part == s) rfl
      refine ⟨(oI part, N'), ?_, by show oI part = oI (s + 1 - (k + 1)); congr 1; omega, j2, j3⟩
      simp only [bd_X8_findsLeads_2, u2]
      rw [if_neg hz]
      by_cases e : part = s
      · subst e
        rw [if_pos rfl, ← j1]; simp
      · rw [if_neg (fun q => e ((nI_eq (by omega) (by omega)).mp q)), ← j1]
        have : (part == s) = false := by simpa using e
        rw [this]; rfl
    · rintro ⟨v, N⟩ ⟨hv, hE, hT⟩
      have hv : v = oI (s + 1 - (s + 1)) := hv
      rw [Nat.sub_self, oI_0] at hv
      subst hv
      refine ⟨N, ?_, hE, hT⟩
      simp only [bd_X8_findsLeads_2, u2]
      rw [if_pos (by decide)]
  obtain ⟨M', k1, k2, k3⟩ := key
  exact ⟨M', by rw [k1]; rfl, k2, k3⟩
