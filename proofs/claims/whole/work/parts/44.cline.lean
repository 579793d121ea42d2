/-! a line of cells -/
def wl (o : Nat → Nat) (L t : Nat) : Nat := if t = 0 then 0 else o (lc L (t - 1))
def lnB (o : Nat → Nat) (L p d q i : Nat) : Bool := (d == 2 * (L / 36) + 1 && anyB (fun t => o (lc L t) == p + 1 && anyB (fun t' => o (lc L t') == q + 1) t) i) || (d == 2 * (L / 36) && anyB (fun t => o (lc L (5 - t)) == p + 1 && anyB (fun t' => o (lc L (5 - t')) == q + 1) t) i)
def lnT (o : Nat → Nat) (L p q i : Nat) : Bool := anyB (fun t => (wl o L t == p + 1 && o (lc L t) == q + 1) || (wl o L t == q + 1 && o (lc L t) == p + 1)) i
def lnU (o : Nat → Nat) (L p q i : Nat) : Bool := anyB (fun t => wl o L t == q + 1 && o (lc L t) == p + 1) i
def lnC (o : Nat → Nat) (L a b i : Nat) : Nat := fb_sm (fun t => (if wl o L t = a + 1 ∧ o (lc L t) = b + 1 then 1 else 0) + (if wl o L t = b + 1 ∧ o (lc L t) = a + 1 then 1 else 0)) i
theorem ble1 : ∀ (E ne d1 d2 x y px py P Q : Bool), (((E || (ne && ((d1 && x) || (d2 && y)))) || (px && (d1 && (P && ne)))) || (py && (d2 && (Q && ne)))) = (E || (ne && ((d1 && (x || (px && P))) || (d2 && (y || (py && Q)))))) := by decide
theorem ne_of (a b : Nat) (h : a ≠ b) : (a != b) = true := by simp [h]
theorem c_line {M : Mem} {k k1 L g : Nat} {o : Nat → Nat} {E : Nat → Nat → Nat → Bool} {T U : Nat → Nat → Bool} {C : Nat → Nat → Nat} (hg : 5000 < g) (hL : L < 108) (hk : k1 + 1 ∉ [k + 1, k + 2, k + 3, k + 4]) (ho : ∀ c, c < 216 → o c ≤ 8) (h0 : hO M k1 o) (h1 : hB M k E) (h2 : hT M k T) (h3 : hU M k U) (h4 : hC M k C) :
    ∃ M', fn_X5_readLine g k k1 (nI (L / 36)) (nI (lst L)) M = some M' ∧ eqx [k + 1, k + 2, k + 3, k + 4] M M' ∧ hB M' k (fun p d q => E p d q || (q != p && lnB o L p d q 6)) ∧ hT M' k (fun p q => T p q || (q != p && lnT o L p q 6)) ∧ hU M' k (fun p q => U p q || (q != p && (L / 36 == 2 && lnU o L p q 6))) ∧ hC M' k (fun a b => C a b + lnC o L a b 6) := by
  unfold fn_X5_readLine
  have hax : L / 36 < 3 := by omega
  rw [sd_eq0 _ hax]
  simp only [bv]
  have key : ∃ M', lpN g (bd_X5_readLine_18 k k1 (nI (sd (L / 36))) (nI (L / 36)) (nI (lst L))) ((0 : Int32), (0 : Int32), (-1 : Int32), (0 : Int32), M) = some M' ∧ (eqx [k + 1, k + 2, k + 3, k + 4] M M' ∧ hB M' k (fun p d q => E p d q || (q != p && lnB o L p d q 6)) ∧ hT M' k (fun p q => T p q || (q != p && lnT o L p q 6)) ∧ hU M' k (fun p q => U p q || (q != p && (L / 36 == 2 && lnU o L p q 6))) ∧ hC M' k (fun a b => C a b + lnC o L a b 6)) := by
    refine lp_inv (fun i w => w.1 = nI (msk (fun q => anyB (fun t => o (lc L t) == q + 1) i) 8) ∧ w.2.1 = nI (msk (fun q => anyB (fun t => o (lc L (5 - t)) == q + 1) i) 8) ∧ w.2.2.1 = oI (wl o L i) ∧ w.2.2.2.1 = nI i ∧ eqx [k + 1, k + 2, k + 3, k + 4] M w.2.2.2.2 ∧ hB w.2.2.2.2 k (fun p d q => E p d q || (q != p && lnB o L p d q i)) ∧ hT w.2.2.2.2 k (fun p q => T p q || (q != p && lnT o L p q i)) ∧ hU w.2.2.2.2 k (fun p q => U p q || (q != p && (L / 36 == 2 && lnU o L p q i))) ∧ hC w.2.2.2.2 k (fun a b => C a b + lnC o L a b i)) _ 6 ?_ ?_ (by omega) ?_
    · rintro i ⟨v1, v2, v3, v4, N⟩ hi ⟨e1, e2, e3, e4, hE, j1, j2, j3, j4⟩
      dsimp only at e1 e2 e3 e4 hE j1 j2 j3 j4
      subst e1; subst e2; subst e3; subst e4
      have hc1 := lc_lt0 L hL i hi
      have hc2 := lc_lt0 L hL (5 - i) (by omega)
      have ho1 := ho _ hc1
      have ho2 := ho _ hc2
      have hN : N (k1 + 1) = M (k1 + 1) := hE _ hk
      have hwl : wl o L i ≤ 8 := by
        unfold wl
        split
        · omega
        · exact ho _ (lc_lt0 L hL _ (by omega))
      have ex1 : nI (lst L) + nI i * nI (sd (L / 36)) = nI (lc L i) := by rw [pk_mul, nI_add]; rfl
      have ex2 : nI (lst L) + (5 - nI i) * nI (sd (L / 36)) = nI (lc L (5 - i)) := by
        rw [show (5 : Int32) = nI 5 from rfl, nI_sub (by omega), pk_mul, nI_add]; rfl
      have ed1 : (2 : Int32) * nI (L / 36) + 1 = nI (2 * (L / 36) + 1) := by
        rw [show (2 : Int32) = nI 2 from rfl, pk_mul, inc]
      have ed2 : (2 : Int32) * nI (L / 36) = nI (2 * (L / 36)) := by
        rw [show (2 : Int32) = nI 2 from rfl, pk_mul]
      simp only [bd_X5_readLine_18, u5]
      rw [if_neg (show ¬ (6 : Int32) ≤ nI i from nI_ge (b := 6) hi (by decide)), ex1, ex2, ed1, ed2, if_pos (inb_nI hc1 (by omega)), ix_nI (by omega)]
      simp only [bv]
      rw [hN, h0 _ hc1]
      obtain ⟨N1, a1, a2, a3⟩ := c_block j1 ho1 (show 2 * (L / 36) + 1 < 6 by omega) (fun q => anyB (fun t => o (lc L t) == q + 1) i)
      rw [a1]
      simp only [Option.bind_some, u2]
      have hN1 : N1 (k1 + 1) = M (k1 + 1) := (a2 _ (fun q => hk (by simp at q; simp [q]))).trans hN
      rw [if_pos (inb_nI hc2 (by omega)), ix_nI (by omega), hN1, h0 _ hc2]
      obtain ⟨N2, b1, b2, b3⟩ := c_block a3 ho2 (show 2 * (L / 36) < 6 by omega) (fun q => anyB (fun t => o (lc L (5 - t)) == q + 1) i)
      rw [b1]
      simp only [Option.bind_some, u2]
      have hE2 : eqx [k + 1, k + 2, k + 3, k + 4] M N2 := eqx_tr hE (eqx_tr (eqx_mono a2 (by simp)) (eqx_mono b2 (by simp)))
      have f1 : hB N2 k (fun p d q => E p d q || (q != p && lnB o L p d q (i + 1))) := by
        refine hB_c b3 rfl ?_
        intro p d q _ _ _
        unfold lnB
        rw [anyB_s, anyB_s]
        exact (ble1 _ _ _ _ _ _ _ _ _ _).symm
      have q3 : N2 (k + 3) = N (k + 3) := (b2 _ (by simp)).trans (a2 _ (by simp))
      have q4 : N2 (k + 4) = N (k + 4) := (b2 _ (by simp)).trans (a2 _ (by simp))
      have q1 : N2 (k + 1) = N (k + 1) := (b2 _ (by simp)).trans (a2 _ (by simp))
      have g2 := hT_c j2 q3 (fun _ _ _ _ => rfl)
      have g3 := hU_c j3 q4 (fun _ _ _ _ => rfl)
      have g4 := hC_c j4 q1 (fun _ _ _ _ _ => rfl)
      have hwn : wl o L (i + 1) = o (lc L i) := by unfold wl; rw [if_neg (by omega)]; rfl
      by_cases cj : o (lc L i) = 0 ∨ wl o L i = 0 ∨ o (lc L i) = wl o L i
      · refine ⟨(nI (msk (fun q => anyB (fun t => o (lc L t) == q + 1) i || o (lc L i) == q + 1) 8), nI (msk (fun q => anyB (fun t => o (lc L (5 - t)) == q + 1) i || o (lc L (5 - i)) == q + 1) 8), oI (o (lc L i)), nI i + 1, N2), ?_, rfl, rfl, by rw [hwn], inc i, hE2, f1, ?_, ?_, ?_⟩
        · skip
          by_cases c1 : o (lc L i) = 0
          · rw [if_pos ((oI_m1 (by omega)).mpr c1)]; rfl
          · rw [if_neg (fun q => c1 ((oI_m1 (by omega)).mp q))]
            by_cases c2 : wl o L i = 0
            · rw [if_pos ((oI_m1 (by omega)).mpr c2)]; rfl
            · rw [if_neg (fun q => c2 ((oI_m1 (by omega)).mp q)), if_pos (by rw [show o (lc L i) = wl o L i by omega])]; rfl
        · refine hT_c g2 rfl ?_
          intro p q _ _
          unfold lnT
          rw [anyB_s]
          by_cases e : q = p
          · subst e; simp
          · have : ((wl o L i == p + 1 && o (lc L i) == q + 1) || (wl o L i == q + 1 && o (lc L i) == p + 1)) = false := by
              rw [Bool.eq_false_iff]; intro z; simp at z; omega
            rw [this, Bool.or_false]
        · refine hU_c g3 rfl ?_
          intro p q _ _
          unfold lnU
          rw [anyB_s]
          by_cases e : q = p
          · subst e; simp
          · have : (wl o L i == q + 1 && o (lc L i) == p + 1) = false := by
              rw [Bool.eq_false_iff]; intro z; simp at z; omega
            rw [this, Bool.or_false]
        · refine hC_c g4 rfl ?_
          intro a b _ _ hab
          unfold lnC
          rw [fb_sm_succ, if_neg (by omega), if_neg (by omega)]
          rfl
      · obtain ⟨s, hs⟩ : ∃ s, o (lc L i) = s + 1 := ⟨o (lc L i) - 1, by omega⟩
        obtain ⟨f, hf⟩ : ∃ f, wl o L i = f + 1 := ⟨wl o L i - 1, by omega⟩
        rw [hs, hf, oI_s, oI_s, if_neg (m1_ne s (by omega)), if_neg (m1_ne f (by omega)), if_neg (fun q => by have := (nI_eq (show s < 2 ^ 31 by omega) (show f < 2 ^ 31 by omega)).mp q; omega)]
        obtain ⟨N3, d1, d2, d3, d4, d5⟩ := c_join g2 g3 g4 (show f < 8 by omega) (show s < 8 by omega) (by omega) hax
        rw [d1]
        simp only [Option.bind_some]
        refine ⟨_, rfl, by rw [← hs]; rfl, rfl, by rw [hwn, hs, oI_s], inc i, eqx_tr hE2 (eqx_mono d2 (by simp)), hB_c f1 (d2 _ (by simp)) (fun _ _ _ _ _ _ => rfl), hT_c d3 rfl ?_, hU_c d4 rfl ?_, hC_c d5 rfl ?_⟩
        · intro p q _ _
          unfold lnT
          rw [anyB_s, hs, hf]
          by_cases e : q = p
          · subst e
            have : ((f == q && s == q) || (f == q && s == q)) = false := by rw [Bool.eq_false_iff]; intro z; simp at z; omega
            rw [this]; simp
          · rw [ne_of _ _ e]
            simp [Bool.or_assoc]
        · intro p q _ _
          unfold lnU
          rw [anyB_s, hs, hf]
          by_cases e : q = p
          · subst e
            have : (f == q && s == q) = false := by rw [Bool.eq_false_iff]; intro z; simp at z; omega
            rw [this]; simp
          · rw [ne_of _ _ e]
            simp [Bool.and_or_distrib_left, Bool.or_assoc]
        · intro a b _ _ hab
          unfold lnC
          rw [fb_sm_succ, hs, hf]
          simp only [Nat.add_right_cancel_iff]
          omega
    · rintro ⟨v1, v2, v3, v4, N⟩ ⟨e1, e2, e3, e4, hE, j1, j2, j3, j4⟩
      dsimp only at e1 e2 e3 e4 hE j1 j2 j3 j4
      subst e4
      refine ⟨N, ?_, hE, j1, j2, j3, j4⟩
      simp only [bd_X5_readLine_18, u5]
      rw [if_pos (by decide)]
    · refine ⟨by rw [show (fun q => anyB (fun t => o (lc L t) == q + 1) 0) = fun _ => false from rfl, msk_z]; rfl, by rw [show (fun q => anyB (fun t => o (lc L (5 - t)) == q + 1) 0) = fun _ => false from rfl, msk_z]; rfl, rfl, rfl, eqx_rf _ _, hB_c h1 rfl ?_, hT_c h2 rfl ?_, hU_c h3 rfl ?_, hC_c h4 rfl ?_⟩
      · intro p d q _ _ _; simp [lnB, anyB]
      · intro p q _ _; simp [lnT, anyB]
      · intro p q _ _; simp [lnU, anyB]
      · intro a b _ _ _; rfl
  obtain ⟨M', z1, z2⟩ := key
  exact ⟨M', by rw [z1]; rfl, z2⟩
