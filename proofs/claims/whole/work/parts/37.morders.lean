/-! ===== orders: the reference's tables ===== -/
theorem LC_eq {M M' : Mem} {A : AB} (h : LC M A) (h0 : M' 62 = M 62) (h1 : M' 63 = M 63) (h2 : M' 64 = M 64) (h3 : M' 65 = M 65) : LC M' A := by
  unfold LC at *
  rw [h0, h1, h2, h3]
  exact h
def lik (c m q : Nat) : Int32 := if c = 0 then -9 else nI (max m q)
theorem m_comesLast {M : Mem} {A : AB} (h : LC M A) (hA : okA A) {part p g : Nat} (hg : 5000 < g) (hp : part < 2 ^ A.n) (hpn : p < A.n) (hbit : part.testBit p = true)
    (hb1 : M 66 (dif part (2 ^ p)) = nI (TT A (dif part (2 ^ p))).1) (hb2 : M 67 (dif part (2 ^ p)) = LI A (dif part (2 ^ p))) (hc : M 66 part = nI (rwk A (TT A) part p).1) (hm : M 67 part = lik (rwk A (TT A) part p).1 (rwk A (TT A) part p).2 (pr A part)) :
    ∃ M', fn_X8_comesLast g (nI part) (nI p) M = some M' ∧ eqx [66, 67] M M' ∧ (∀ q, q ≠ part → M' 66 q = M 66 q ∧ M' 67 q = M 67 q) ∧ M' 66 part = nI (rwk A (TT A) part (p + 1)).1 ∧ M' 67 part = lik (rwk A (TT A) part (p + 1)).1 (rwk A (TT A) part (p + 1)).2 (pr A part) := by
  have hn := hA.1
  have h256 := lt256 hp hn
  have hlt := dif_less hbit
  have hl1 := rwk_le A (TT A) part p
  have hl2 := TT_le hA (dif part (2 ^ p))
  have hpr := pr_le A part
  have hrl := rwk_lt hA (part := part) (p := p) (by omega) h256
  have hrl2 := rwk_lt hA (part := part) (p := p + 1) (by omega) h256
  have hq : inb (nI (dif part (2 ^ p))) 256 := inb_nI (by omega) (by omega)
  have hqp : inb (nI part) 256 := inb_nI (by omega) (by omega)
  have hif : ∀ (x y : Option Mem), (if inb (nI (dif part (2 ^ p))) 256 then x else y) = x := fun x y => if_pos hq
  have hifp : ∀ (x y : Option Mem), (if inb (nI part) 256 then x else y) = x := fun x y => if_pos hqp
  unfold fn_X8_comesLast
  rw [N_sl (by omega), N_dif]
  simp only [bv]
  rw [m_waysOf h hA hg (by omega)]
  simp only [Option.bind_some, hif, ix_nI (show dif part (2 ^ p) < 2 ^ 31 by omega), hb2]
  by_cases c3 : cf A p (dif part (2 ^ p)) = true
  · rw [if_neg (fun q => by rw [(nI_wm_zero A p _).mp q] at c3; cases c3)]
    by_cases c2 : 0 < (TT A (dif part (2 ^ p))).1
    · have hLI : LI A (dif part (2 ^ p)) = nI (TT A (dif part (2 ^ p))).2 := by unfold LI; rw [if_neg (by omega)]
      rw [if_neg (fun q => by have := (LI_m9 hA _).mp q; omega), m_props h hA hg h256, hLI]
      have key : ∀ most, most = max (TT A (dif part (2 ^ p))).2 (pr A part) → ∃ M', jn_X8_comesLast_58 (nI most) (nI (dif part (2 ^ p))) (nI part) M = some M' ∧ eqx [66, 67] M M' ∧ (∀ q, q ≠ part → M' 66 q = M 66 q ∧ M' 67 q = M 67 q) ∧ M' 66 part = nI (rwk A (TT A) part (p + 1)).1 ∧ M' 67 part = lik (rwk A (TT A) part (p + 1)).1 (rwk A (TT A) part (p + 1)).2 (pr A part) := by
        intro most hmost
        rw [rwk_y hbit c2 c3] at hrl2 ⊢
        simp only [] at hrl2 ⊢
        unfold jn_X8_comesLast_58
        simp only [hif, hifp, bv, ix_nI (show part < 2 ^ 31 by omega), ix_nI (show dif part (2 ^ p) < 2 ^ 31 by omega), hc, hb1, nI_add]
        obtain ⟨N, hN⟩ : ∃ z, z = st M 66 part (nI ((rwk A (TT A) part p).1 + (TT A (dif part (2 ^ p))).1)) := ⟨_, rfl⟩
        rw [← hN]
        have e67 : N 67 part = lik (rwk A (TT A) part p).1 (rwk A (TT A) part p).2 (pr A part) := by rw [hN, st_ne _ _ _ (by decide)]; exact hm
        rw [e67]
        have fin : ∀ v, v = nI (max (min (rwk A (TT A) part p).2 (TT A (dif part (2 ^ p))).2) (pr A part)) → ∃ M', jn_X8_comesLast_113 v (nI part) N = some M' ∧ eqx [66, 67] M M' ∧ (∀ q, q ≠ part → M' 66 q = M 66 q ∧ M' 67 q = M 67 q) ∧ M' 66 part = nI ((rwk A (TT A) part p).1 + (TT A (dif part (2 ^ p))).1) ∧ M' 67 part = lik ((rwk A (TT A) part p).1 + (TT A (dif part (2 ^ p))).1) (min (rwk A (TT A) part p).2 (TT A (dif part (2 ^ p))).2) (pr A part) := by
          intro v hv
          refine ⟨st N 67 part v, ?_, ?_, ?_, ?_, ?_⟩
          · unfold jn_X8_comesLast_113
            rw [hifp, ix_nI (by omega)]
            rfl
          · rw [hN]; exact eqx_st (eqx_st (eqx_rf _ M) (by decide) _ _) (by decide) _ _
          · intro q hq2
            rw [hN]
            simp [st, upd, hq2]
          · rw [hN]; simp [st, upd]
          · rw [hN, hv]
            unfold lik
            rw [if_neg (by omega)]
            simp [st, upd]
        unfold lik
        by_cases c0 : (rwk A (TT A) part p).1 = 0
        · rw [if_pos c0, if_pos rfl]
          have e8 : (rwk A (TT A) part p).2 = 8 := by
            have : ∀ j, (rwk A (TT A) part j).1 = 0 → (rwk A (TT A) part j).2 = 8 := by
              intro j
              induction j with
              | zero => intro _; rfl
              | succ j ih =>
                intro hj
                by_cases cq : part.testBit j = true ∧ 0 < (TT A (dif part (2 ^ j))).1 ∧ cf A j (dif part (2 ^ j)) = true
                · rw [rwk_y cq.1 cq.2.1 cq.2.2] at hj
                  simp only [] at hj
                  omega
                · rw [rwk_n cq] at hj ⊢
                  exact ih hj
            exact this p c0
          unfold jn_X8_comesLast_102
          refine fin _ ?_
          rw [hmost, e8, Nat.min_eq_right (by omega)]
        · rw [if_neg c0, if_neg (m9_ne _ (by omega))]
          simp only [nI_leI (show max (rwk A (TT A) part p).2 (pr A part) < 2 ^ 31 by omega) (show most < 2 ^ 31 by omega)]
          by_cases c5 : max (rwk A (TT A) part p).2 (pr A part) ≤ most
          · rw [if_pos c5]
            refine fin _ ?_
            congr 1
            omega
          · rw [if_neg c5]
            unfold jn_X8_comesLast_102
            refine fin _ ?_
            congr 1
            omega
      simp only [Option.bind_some, nI_leI (show pr A part < 2 ^ 31 by omega) (show (TT A (dif part (2 ^ p))).2 < 2 ^ 31 by omega)]
      by_cases c4 : pr A part ≤ (TT A (dif part (2 ^ p))).2
      · rw [if_pos c4]
        exact key _ (by omega)
      · rw [if_neg c4]
        exact key _ (by omega)
    · rw [if_pos ((LI_m9 hA _).mpr (by omega)), rwk_n (fun q => c2 q.2.1)]
      exact ⟨M, rfl, eqx_rf _ _, fun q _ => ⟨rfl, rfl⟩, hc, hm⟩
  · rw [if_pos ((nI_wm_zero A p _).mpr (by simpa using c3)), rwk_n (fun q => c3 q.2.2)]
    exact ⟨M, rfl, eqx_rf _ _, fun q _ => ⟨rfl, rfl⟩, hc, hm⟩
def MT (M : Mem) (A : AB) (s k : Nat) : Prop := ∀ q, q < k → sub q s → M 66 q = nI (TT A q).1 ∧ M 67 q = LI A q
theorem m_orders {M : Mem} {A : AB} (h : LC M A) (hA : okA A) {s g : Nat} (hg : 5000 < g) (hs : s < 2 ^ A.n) : ∃ M', fn_X8_findsOrders g (nI s) M = some M' ∧ eqx [66, 67] M M' ∧ MT M' A s (s + 1) := by
  have hn := hA.1
  have h256 := lt256 hs hn
  unfold fn_X8_findsOrders
  simp only [bv]
  obtain ⟨M2, hM2⟩ : ∃ z, z = st (st M 66 (ix 0) 1) 67 (ix 0) 0 := ⟨_, rfl⟩
  rw [← hM2]
  have hz : ix (0 : Int32) = 0 := by decide
  have e2 : eqx [66, 67] M M2 := by rw [hM2]; exact eqx_st (eqx_st (eqx_rf _ M) (by decide) _ _) (by decide) _ _
  have t2 : MT M2 A s 1 := by
    intro q hq _
    have : q = 0 := by omega
    subst this
    rw [hM2, hz]
    refine ⟨?_, ?_⟩
    · rw [st_ne _ _ _ (by decide), st_at, upd_at]; rfl
    · rw [st_at, upd_at]; rfl
  have key : ∃ M', lpN g (bd_X8_findsOrders_16 g (nI s)) ((1 : Int32), M2) = some M' ∧ (eqx [66, 67] M M' ∧ MT M' A s (s + 1)) := by
    refine lp_inv (fun k w => w.1 = nI (k + 1) ∧ eqx [66, 67] M w.2 ∧ MT w.2 A s (k + 1)) _ s ?_ ?_ (by omega) ⟨rfl, e2, t2⟩
    · rintro k ⟨v, N⟩ hk ⟨hv, hE, hT⟩
      have hv : v = nI (k + 1) := hv
      have hE : eqx [66, 67] M N := hE
      have hT : MT N A s (k + 1) := hT
      subst hv
      simp only [bd_X8_findsOrders_16, u2]
      rw [if_neg (show ¬ nI s < nI (k + 1) from nI_nlt (by omega) (by omega)), if_pos (inb_nI (by omega) (by omega))]
      simp only [bv]
      rw [if_pos (inb_nI (by omega) (by omega)), ix_nI (by omega)]
      obtain ⟨N2, hN2⟩ : ∃ z, z = st (st N 66 (k + 1) 0) 67 (k + 1) (-9) := ⟨_, rfl⟩
      rw [← hN2]
      have eN : eqx [66, 67] M N2 := by rw [hN2]; exact eqx_st (eqx_st hE (by decide) _ _) (by decide) _ _
      have tN : MT N2 A s (k + 1) := by
        intro q hq hsub
        have := hT q hq hsub
        rw [hN2]
        simpa [st, upd, show q ≠ k + 1 by omega] using this
      have aN : N2 66 (k + 1) = 0 ∧ N2 67 (k + 1) = -9 := by rw [hN2]; simp [st, upd]
      have hLN : LC N2 A := LC_eq h (eN 62 (by decide)) (eN 63 (by decide)) (eN 64 (by decide)) (eN 65 (by decide))
      by_cases cs : sub (k + 1) s
      · have hwi : fn_X8_isWithin (nI (k + 1)) (nI s) = 1 := by
          unfold fn_X8_isWithin
          rw [N_dif, dif_zero.mpr cs, if_pos (by decide)]
        have hkn : k + 1 < 2 ^ A.n := by omega
        have inner : ∃ N', lpN g (bd_X8_findsOrders_38 g (nI (k + 1)) (nI s)) ((0 : Int32), N2) = some N' ∧ (eqx [66, 67] M N' ∧ MT N' A s (k + 1) ∧ N' 66 (k + 1) = nI (rwk A (TT A) (k + 1) A.n).1 ∧ N' 67 (k + 1) = lik (rwk A (TT A) (k + 1) A.n).1 (rwk A (TT A) (k + 1) A.n).2 (pr A (k + 1))) := by
          refine lp_inv (fun p w => w.1 = nI p ∧ eqx [66, 67] M w.2 ∧ MT w.2 A s (k + 1) ∧ w.2 66 (k + 1) = nI (rwk A (TT A) (k + 1) p).1 ∧ w.2 67 (k + 1) = lik (rwk A (TT A) (k + 1) p).1 (rwk A (TT A) (k + 1) p).2 (pr A (k + 1))) _ A.n ?_ ?_ (by omega) ⟨rfl, eN, tN, aN.1, aN.2⟩
          · rintro p ⟨v, N3⟩ hp ⟨hv, hE3, hT3, h66, h67⟩
            have hv : v = nI p := hv
            have hE3 : eqx [66, 67] M N3 := hE3
            have hT3 : MT N3 A s (k + 1) := hT3
            have h66 : N3 66 (k + 1) = nI (rwk A (TT A) (k + 1) p).1 := h66
            have h67 : N3 67 (k + 1) = lik (rwk A (TT A) (k + 1) p).1 (rwk A (TT A) (k + 1) p).2 (pr A (k + 1)) := h67
            subst hv
            have hL3 : LC N3 A := LC_eq h (hE3 62 (by decide)) (hE3 63 (by decide)) (hE3 64 (by decide)) (hE3 65 (by decide))
            have h03 : N3 62 (ix (0 : Int32)) = nI A.n := hL3.1
            simp only [bd_X8_findsOrders_38, u2]
            rw [h03, if_neg (nI_ge hp (by omega)), hwi, if_neg (by decide), has8 (by omega) (by omega)]
            cases cb : (k + 1).testBit p
            · refine ⟨(nI (p + 1), N3), by simp [inc], rfl, hE3, hT3, ?_, ?_⟩
              · rw [rwk_n (fun q => by rw [cb] at q; cases q.1)]; exact h66
              · rw [rwk_n (fun q => by rw [cb] at q; cases q.1)]; exact h67
            · have hd := hT3 _ (dif_less cb) (sub_tr (dif_sub _ _) cs)
              obtain ⟨N4, g1, g2, g3, g4, g5⟩ := m_comesLast hL3 hA hg hkn hp cb hd.1 hd.2 h66 h67
              rw [g1]
              refine ⟨(nI (p + 1), N4), by simp [inc], rfl, eqx_tr hE3 g2, ?_, g4, g5⟩
              intro q hq hsub
              have := g3 q (by omega)
              rw [show (nI (p + 1), N4).2 = N4 from rfl, this.1, this.2]
              exact hT3 q hq hsub
          · rintro ⟨v, N3⟩ ⟨hv, hE3, hT3, h66, h67⟩
            have hv : v = nI A.n := hv
            have hE3 : eqx [66, 67] M N3 := hE3
            subst hv
            have hL3 : LC N3 A := LC_eq h (hE3 62 (by decide)) (hE3 63 (by decide)) (hE3 64 (by decide)) (hE3 65 (by decide))
            have h03 : N3 62 (ix (0 : Int32)) = nI A.n := hL3.1
            refine ⟨N3, ?_, hE3, hT3, h66, h67⟩
            simp only [bd_X8_findsOrders_38, u2]
            rw [h03, if_pos (Int32.le_refl _)]
        obtain ⟨N', i1, i2, i3, i4, i5⟩ := inner
        rw [i1]
        refine ⟨(nI (k + 1 + 1), N'), by simp [u1, inc], rfl, i2, ?_⟩
        intro q hq hsub
        by_cases e : q = k + 1
        · subst e
          have eT : TT A (k + 1) = row A (TT A) (k + 1) := TT_row A (by omega)
          have e1 : (TT A (k + 1)).1 = (rwk A (TT A) (k + 1) A.n).1 := by rw [eT]; rfl
          have e2 : (TT A (k + 1)).2 = max (rwk A (TT A) (k + 1) A.n).2 (pr A (k + 1)) := by rw [eT]; rfl
          refine ⟨?_, ?_⟩
          · rw [e1]; exact i4
          · unfold LI
            rw [e1, e2]
            exact i5
        · exact i3 q (by omega) hsub
      · have hwi : fn_X8_isWithin (nI (k + 1)) (nI s) = 0 := by
          unfold fn_X8_isWithin
          rw [N_dif, if_neg (fun q => cs (dif_zero.mp ((nI_z (Nat.lt_trans (dif_lt (m := 8) (show k + 1 < 2 ^ 8 by omega)) (by decide))).mp q)))]
        have hb0 : bd_X8_findsOrders_38 g (nI (k + 1)) (nI s) ((0 : Int32), N2) = some (.inr N2) := by
          simp only [bd_X8_findsOrders_38, u2]
          by_cases c0 : N2 62 (ix (0 : Int32)) ≤ 0
          · rw [if_pos c0]
          · rw [if_neg c0, hwi, if_pos rfl]
        refine ⟨(nI (k + 1 + 1), N2), ?_, rfl, eN, ?_⟩
        · refine lp_forb (fun _ => ((0 : Int32), N2)) 0 N2 rfl (by omega) (fun j hj => by omega) hb0 ?_
          simp [u1, inc]
        · intro q hq hsub
          by_cases e : q = k + 1
          · subst e; exact absurd hsub cs
          · exact tN q (by omega) hsub
    · rintro ⟨v, N⟩ ⟨hv, hE, hT⟩
      have hv : v = nI (s + 1) := hv
      subst hv
      refine ⟨N, ?_, hE, hT⟩
      simp only [bd_X8_findsOrders_16, u2]
      rw [if_pos (show nI s < nI (s + 1) from nI_lt (by omega) (by omega))]
  obtain ⟨M', k1, k2, k3⟩ := key
  exact ⟨M', by rw [k1]; rfl, k2, k3⟩
