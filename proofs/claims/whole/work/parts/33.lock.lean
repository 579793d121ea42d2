/-! ===== hanging together ===== -/
theorem nI_self (y : Int32) : nI y.toBitVec.toNat = y := by
  apply Int32.toBitVec_inj.mp
  show BitVec.ofNat 32 _ = _
  simp
def lwb (s : Nat) : Nat := s &&& (-(nI s)).toBitVec.toNat
theorem lwb_eq (s : Nat) : nI s &&& -(nI s) = nI (lwb s) := by
  unfold lwb
  rw [← N_and, nI_self]
theorem lwb_lt {s m : Nat} (h : s < m) : lwb s < m := and_lt _ h
def adH (A : AB) (s k T : Nat) : Nat := if T.testBit k then A.tc k &&& s else 0
theorem adH_mono (A : AB) (s : Nat) : mono (adH A s) := by
  intro k a b h
  unfold adH
  cases h1 : a.testBit k
  · simp; exact sub_0 _
  · rw [h k h1]; exact sub_rf _
theorem adH_lt (A : AB) {s n : Nat} (hs : s < 2 ^ n) : ∀ k a, a < 2 ^ n → adH A s k a < 2 ^ n := by
  intro k a _
  unfold adH
  split
  · exact and_lt' _ hs
  · exact Nat.two_pow_pos n
theorem rd_more {n : Nat} {ad : Nat → Nat → Nat} (hl : ∀ k a, a < 2 ^ n → ad k a < 2 ^ n) (hm : mono ad) {T : Nat} (h : T < 2 ^ n) {m m' : Nat} (h1 : n ≤ m) (h2 : n ≤ m') : rd_s n ad T m = rd_s n ad T m' :=
  rd_same hm hm (rd_closed hl h h2) (rd_sub _ _ _ _) (rd_closed hl h h1) (rd_sub _ _ _ _)
def hang (A : AB) (s : Nat) : Bool := decide (rd_s A.n (adH A s) (lwb s) A.n = s)
theorem c_hang {M : Mem} {k : Nat} {A : AB} (h : RC M k A) (hA : okA A) {s g : Nat} (hg : 5000 < g) (hs : s < 2 ^ A.n) : fn_X5_isConnected g k (nI s) M = some (if hang A s then 1 else 0) := by
  have hn := hA.1
  have hs8 := lt256 hs hn
  unfold fn_X5_isConnected bv
  rw [lwb_eq]
  have hR := fun i => rd_lt (adH_lt A hs) (lwb_lt hs) i
  refine lp_forb (fun i => (nI (rd_s A.n (adH A s) (lwb s) i), nI i)) A.n (nI (rd_s A.n (adH A s) (lwb s) A.n)) rfl (by omega) ?_ ?_ ?_
  · intro i hi
    simp only [bd_X5_isConnected_7, u2]
    rw [h.1, if_neg (nI_ge hi (by omega))]
    refine lp_forb (fun p => (nI (ps (adH A s) (rd_s A.n (adH A s) (lwb s) i) p), nI p)) A.n (nI (rd_s A.n (adH A s) (lwb s) (i + 1))) rfl (by omega) ?_ ?_ (by simp [u1, inc])
    · intro p hp
      have hT := lt256 (ps_lt (adH_lt A hs) (hR i) p) hn
      simp only [bd_X5_isConnected_18, u2, ps]
      generalize ps (adH A s) (rd_s A.n (adH A s) (lwb s) i) p = T at hT ⊢
      rw [h.1, if_neg (nI_ge hp (by omega)), has7 (by omega) (by omega), if_pos (inb_nI (by omega) (by omega)), ix_nI (by omega), h.2.2.1 p (by omega), N_and, N_or]
      unfold adH
      cases h1 : T.testBit p
      · simp [inc]
      · simp [inc, bv]
    · simp only [bd_X5_isConnected_18, u2]
      rw [h.1, if_pos (Int32.le_refl _)]
      rfl
  · simp only [bd_X5_isConnected_7, u2]
    rw [h.1, if_pos (Int32.le_refl _)]
  · simp only [u1]
    unfold hang
    have hb := lt256 (hR A.n) hn
    by_cases e : rd_s A.n (adH A s) (lwb s) A.n = s
    · rw [if_pos (by rw [e])]; simp [e]
    · rw [if_neg (fun q => e ((nI_eq (by omega) (by omega)).mp q))]; simp [e]
/-- the contact of two pieces, as the reference finds it, tells whether they touch -/
def CTok (g : Nat) (M : Mem) (A : AB) : Prop := ∀ p q, p < A.n → q < A.n → p ≠ q → ∃ v, v < 5000 ∧ fn_X8_contactOf g (nI p) (nI q) M = some (nI v) ∧ (v = 0 ↔ (A.tc p).testBit q = false)
theorem m_hang {M : Mem} {A : AB} {g : Nat} (h : LC M A) (hct : CTok g M A) (hA : okA A) {s : Nat} (hg : 5000 < g) (hs : s < 2 ^ A.n) : fn_X8_hangs g (nI s) M = some (if hang A s then 1 else 0) := by
  have hn := hA.1
  have hs8 := lt256 hs hn
  have h0 : M 62 (ix (0 : Int32)) = nI A.n := h.1
  unfold fn_X8_hangs bv
  rw [lwb_eq]
  have hR := fun i => rd_lt (adH_lt A hs) (lwb_lt hs) i
  refine lp_forb (fun i => (nI (rd_s A.n (adH A s) (lwb s) i), nI i)) 8 (nI (rd_s A.n (adH A s) (lwb s) 8)) rfl (by omega) ?_ ?_ ?_
  · intro i hi
    simp only [bd_X8_hangs_7, u2]
    rw [if_neg (show ¬ (8 : Int32) ≤ nI i from nI_ge (b := 8) hi (by decide))]
    refine lp_forb (fun p => (nI (ps (adH A s) (rd_s A.n (adH A s) (lwb s) i) p), nI p)) A.n (nI (rd_s A.n (adH A s) (lwb s) (i + 1))) rfl (by omega) ?_ ?_ (by simp [u1, inc])
    · intro p hp
      have hT' := ps_lt (adH_lt A hs) (hR i) p
      have hT := lt256 hT' hn
      simp only [bd_X8_hangs_16, u2, ps]
      generalize ps (adH A s) (rd_s A.n (adH A s) (lwb s) i) p = T at hT hT' ⊢
      rw [h0, if_neg (nI_ge hp (by omega))]
      cases h1 : T.testBit p
      · -- not met: the inner loop ends at once
        have e : bd_X8_hangs_30 g (nI p) (nI s) M (nI T, (0 : Int32)) = some (.inr (nI T)) := by
          simp only [bd_X8_hangs_30, u2]
          rw [h0, if_neg (show ¬ nI A.n ≤ (0 : Int32) from nI_ge (a := 0) (by omega) (by omega)), has8 (by omega) (by omega), h1]
          simp
        refine lp_forb (fun _ => (nI T, (0 : Int32))) 0 (nI T) rfl (by omega) (fun k hk => by omega) e ?_
        unfold adH
        simp [u1, inc, h1]
      · let f : Nat → Bool := fun i => s.testBit i && (A.tc p).testBit i
        have hU : ∀ q, q ≤ A.n → T ||| msk f q < 256 := by
          intro q hq
          refine Nat.or_lt_two_pow (n := 8) hT ?_
          exact Nat.lt_of_lt_of_le (msk_lt f q) (Nat.pow_le_pow_right (by omega) (by omega))
        refine lp_forb (fun q => (nI (T ||| msk f q), nI q)) A.n (nI (T ||| adH A s p T)) ?_ (by omega) ?_ ?_ (by simp [u1, inc])
        · show (nI T, (0 : Int32)) = (nI (T ||| 0), nI 0)
          rw [Nat.or_zero]
          rfl
        · intro q hq
          have hu := hU q (by omega)
          simp only [bd_X8_hangs_30, u2]
          rw [h0, if_neg (nI_ge hq (by omega)), has8 (by omega) (by omega), has8 (by omega) (by omega), has8 (by omega) (by omega)]
          have hp1 : (T ||| msk f q).testBit p = true := by rw [Nat.testBit_or, h1]; rfl
          rw [hp1]
          have hsl := N_sl (show q < 31 by omega)
          have hno : ∀ (e : f q = false ∨ (T ||| msk f q).testBit q = true), T ||| msk f (q + 1) = T ||| msk f q := by
            intro e
            show T ||| (msk f q ||| (if f q then 2 ^ q else 0)) = _
            rcases e with e | e
            · rw [e]; simp
            · cases f q
              · simp
              · rw [← Nat.or_assoc]
                refine sub_eq (sub_or (sub_rf _) (two_pow_sub e)) (sub_l _ _)
          cases h2 : s.testBit q
          · have hfq : f q = false := by show (s.testBit q && _) = false; rw [h2]; rfl
            rw [hno (Or.inl hfq)]
            simp [inc, jn_X8_hangs_87, jn_X8_hangs_88, bv]
          · cases h3 : (T ||| msk f q).testBit q
            · have hpq : p ≠ q := by intro e; subst e; rw [hp1] at h3; cases h3
              obtain ⟨v, hv, hc, hz⟩ := hct p q hp hq hpq
              rw [hc]
              by_cases hv0 : v = 0
              · have hfq : f q = false := by show (_ && (A.tc p).testBit q) = false; rw [hz.mp hv0]; simp
                rw [hno (Or.inl hfq), hv0]
                simp [inc, jn_X8_hangs_87, jn_X8_hangs_88, bv, nI_0]
              · have hfq : f q = true := by
                  show (s.testBit q && (A.tc p).testBit q) = true
                  rw [h2]
                  cases h4 : (A.tc p).testBit q
                  · exact absurd (hz.mpr h4) hv0
                  · rfl
                have hle : ¬ nI v ≤ 0 := nI_nle (by omega) (by omega)
                have e2 : T ||| msk f (q + 1) = (T ||| msk f q) ||| 2 ^ q := by
                  show T ||| (msk f q ||| (if f q then 2 ^ q else 0)) = _
                  rw [hfq, Nat.or_assoc]; rfl
                rw [e2]
                simp [inc, jn_X8_hangs_88, bv, hle, hsl, N_or]
            · rw [hno (Or.inr h3)]
              simp [inc, jn_X8_hangs_87, jn_X8_hangs_88, bv]
        · simp only [bd_X8_hangs_30, u2]
          rw [h0, if_pos (Int32.le_refl _)]
          have e3 : msk f A.n = A.tc p &&& s := by
            apply bits_eq (m := A.n) (msk_lt _ _) (and_lt' _ hs)
            intro i hi
            rw [msk_bit, Nat.testBit_and]
            show (decide (i < A.n) && (s.testBit i && (A.tc p).testBit i)) = _
            rw [decide_eq_true hi]
            cases s.testBit i <;> cases (A.tc p).testBit i <;> rfl
          unfold adH
          rw [h1, e3]
          rfl
    · simp only [bd_X8_hangs_16, u2]
      rw [h0, if_pos (Int32.le_refl _)]
      rfl
  · simp only [bd_X8_hangs_7, u2]
    rw [if_pos (by decide)]
  · simp only [u1]
    rw [rd_more (adH_lt A hs) (adH_mono A s) (lwb_lt hs) (m := 8) (m' := A.n) hn (Nat.le_refl _)]
    unfold hang
    have hb := lt256 (hR A.n) hn
    by_cases e : rd_s A.n (adH A s) (lwb s) A.n = s
    · rw [if_pos (by rw [e])]; simp [e]
    · rw [if_neg (fun q => e ((nI_eq (by omega) (by omega)).mp q))]; simp [e]
