/-! ===== the reference lays its relations ===== -/
def mB (M : Mem) (E : Nat → Nat → Nat → Bool) : Prop := ∀ p d, p < 8 → d < 6 → M 63 (8 * d + p) = nI (msk (E p d) 8)
def mU (M : Mem) (U : Nat → Nat → Bool) : Prop := ∀ p, p < 8 → M 64 p = nI (msk (U p) 8)
def mG (M : Mem) (G : Nat → Bool) : Prop := ∀ p, p < 8 → M 65 p = if G p then 1 else 0
def hP (M : Mem) (o : Nat → Nat) : Prop := ∀ c, c < 216 → M 62 (11 + c) = nI (o c)
theorem mB_c {M M' : Mem} {E E' : Nat → Nat → Nat → Bool} (h : mB M E) (hm : M' 63 = M 63) (e : ∀ p d q, p < 8 → d < 6 → q < 8 → E' p d q = E p d q) : mB M' E' := by
  intro p d hp hd
  rw [hm, h p d hp hd, msk_eq (fun q hq => e p d q hp hd hq)]
theorem mU_c {M M' : Mem} {E E' : Nat → Nat → Bool} (h : mU M E) (hm : M' 64 = M 64) (e : ∀ p q, p < 8 → q < 8 → E' p q = E p q) : mU M' E' := by
  intro p hp
  rw [hm, h p hp, msk_eq (fun q hq => e p q hp hq)]
theorem mG_c {M M' : Mem} {E E' : Nat → Bool} (h : mG M E) (hm : M' 65 = M 65) (e : ∀ p, p < 8 → E' p = E p) : mG M' E' := by
  intro p hp
  rw [hm, h p hp, e p hp]
theorem m_at {M : Mem} {o : Nat → Nat} (h : hP M o) {c : Nat} (hc : c < 216) : fn_X8_at (nI c) M = some (oI (o c)) := by
  unfold fn_X8_at
  rw [show (11 : Int32) = nI 11 from rfl, nI_add, if_pos (inb_nI (by omega) (by omega)), ix_nI (by omega), h c hc]
  rfl
theorem m_looks {M : Mem} {o : Nat → Nat} {E : Nat → Nat → Nat → Bool} {c d p g : Nat} (hg : 5000 < g) (hc : c < 216) (hd : d < 6) (hp : p < 8) (ho : ∀ c, c < 216 → o c ≤ 8) (h0 : hP M o) (h : mB M E) : ∃ M', fn_X8_looks g (nI p) (nI c) (nI d) M = some M' ∧ eqx [63] M M' ∧ mB M' (fun p' d' q => E p' d' q || (p' == p && (d' == d && (q != p' && anyB (fun j => o (rc c d j) == q + 1) (rn c d))))) := by
  unfold fn_X8_looks
  have hrn := rn_le0 c hc d hd
  have hst : ∀ x, x < 216 → ∀ y, nb x d = y → fn_X8_step (nI x) (nI d) = if y < 216 then nI y else -1 := by
    intro x hx y hy
    rw [m_nb hx hd, nbI, hy]
  simp only [bv]
  have key : ∃ M', lpN g (bd_X8_looks_7 (nI p) (nI d)) (fn_X8_step (nI c) (nI d), M) = some M' ∧ (eqx [63] M M' ∧ mB M' (fun p' d' q => E p' d' q || (p' == p && (d' == d && (q != p' && anyB (fun j => o (rc c d j) == q + 1) (rn c d)))))) := by
    refine lp_inv (fun i w => w.1 = (if i < rn c d then nI (rc c d i) else -1) ∧ eqx [63] M w.2 ∧ mB w.2 (fun p' d' q => E p' d' q || (p' == p && (d' == d && (q != p' && anyB (fun j => o (rc c d j) == q + 1) i))))) _ (rn c d) ?_ ?_ (by omega) ?_
    · rintro i ⟨v, N⟩ hi ⟨q1, q2, q3⟩
      dsimp only at q1 q2 q3
      rw [if_pos hi] at q1
      subst q1
      obtain ⟨r1, r2⟩ := rc_s0 c hc d hd i hi
      have h0n : hP N o := fun c hc => by rw [q2 _ (by decide)]; exact h0 c hc
      have hor := ho _ r1
      have hnx : fn_X8_step (nI (rc c d i)) (nI d) = if i + 1 < rn c d then nI (rc c d (i + 1)) else -1 := by
        rw [hst _ r1 _ r2]
        by_cases q : i + 1 < rn c d
        · rw [if_pos q, if_pos q, if_pos (rc_s0 c hc d hd _ q).1]
        · rw [if_neg q, if_neg q]; rfl
      simp only [bd_X8_looks_7, u2]
      rw [if_neg (nI_nn (by omega)), m_at h0n r1]
      simp only [Option.bind_some]
      rw [i8, if_pos (inb_nI (show 8 * d + p < 48 by omega) (by omega)), ix_nI (by omega), q3 p d hp hd]
      have fin : ∀ v X, v = nI (msk X 8) → (∀ q, q < 8 → X q = (q != p && o (rc c d i) == q + 1)) → ∃ s', jn_X8_looks_51 v (nI (msk (fun q => E p d q || (p == p && (d == d && (q != p && anyB (fun j => o (rc c d j) == q + 1) i)))) 8)) (nI (8 * d + p)) (nI (rc c d i)) (nI d) N = some (.inl s') ∧ s'.1 = (if i + 1 < rn c d then nI (rc c d (i + 1)) else -1) ∧ eqx [63] M s'.2 ∧ mB s'.2 (fun p' d' q => E p' d' q || (p' == p && (d' == d && (q != p' && anyB (fun j => o (rc c d j) == q + 1) (i + 1))))) := by
        intro v X hv hX
        unfold jn_X8_looks_51
        rw [if_pos (inb_nI (show 8 * d + p < 48 by omega) (by omega)), ix_nI (by omega), hnx]
        simp only [bv]
        refine ⟨_, rfl, rfl, eqx_st q2 (by decide) _ _, ?_⟩
        intro p' d' hp' hd'
        dsimp only
        rw [st_at]
        by_cases e : 8 * d' + p' = 8 * d + p
        · have e1 : p' = p := by omega
          have e2 : d' = d := by omega
          subst e1; subst e2
          rw [upd_at, hv, N_or, msk_or]
          congr 1
          apply msk_eq
          intro q hq
          rw [hX q hq, anyB_s]
          simp [Bool.and_or_distrib_left, Bool.or_assoc]
        · rw [upd_ne _ _ e, q3 p' d' hp' hd']
          congr 1
          apply msk_eq
          intro q _
          by_cases ep : p' = p
          · have ed : ¬ d' = d := by omega
            simp only [show (d' == d) = false from beq_eq_false_iff_ne.mpr ed, Bool.false_and, Bool.and_false]
          · simp only [show (p' == p) = false from beq_eq_false_iff_ne.mpr ep, Bool.false_and, Bool.and_false]
      by_cases c1 : o (rc c d i) = 0
      · rw [if_pos ((oI_lt0 (by omega)).mpr c1)]
        unfold jn_X8_looks_50
        exact fin 0 (fun _ => false) (by rw [msk_z]; rfl) (fun q _ => by rw [c1]; simp)
      · obtain ⟨s, hs⟩ : ∃ s, o (rc c d i) = s + 1 := ⟨o (rc c d i) - 1, by omega⟩
        rw [hs, oI_s, if_neg (nI_nn (by omega))]
        by_cases c2 : s = p
        · subst c2
          rw [if_pos rfl]
          unfold jn_X8_looks_50
          exact fin 0 (fun _ => false) (by rw [msk_z]; rfl) (fun q _ => by rw [hs, eq_comm, Bool.eq_false_iff]; intro z; simp at z; omega)
        · rw [if_neg (fun q => c2 ((nI_eq (by omega) (by omega)).mp q)), N_sl (by omega), msk_one (show s < 8 by omega)]
          exact fin _ _ rfl (fun q _ => by rw [hs, Bool.eq_iff_iff]; simp; omega)
    · rintro ⟨v, N⟩ ⟨q1, q2, q3⟩
      dsimp only at q1 q2 q3
      rw [if_neg (by omega)] at q1
      subst q1
      refine ⟨N, ?_, q2, q3⟩
      simp only [bd_X8_looks_7, u2]
      rw [if_pos (by decide)]
    · refine ⟨?_, eqx_rf _ _, mB_c h rfl (fun p' d' q _ _ _ => by simp [anyB])⟩
      rw [hst c hc _ (rc_00 c hc d hd)]
      by_cases q : 0 < rn c d
      · rw [if_pos q, if_pos q, if_pos (rc_s0 c hc d hd 0 q).1]
      · rw [if_neg q, if_neg q]; rfl
  obtain ⟨M', z1, z2⟩ := key
  exact ⟨M', by rw [z1]; rfl, z2⟩
def rB (o : Nat → Nat) (i p d q : Nat) : Bool := q != p && anyB (fun c => o c == p + 1 && anyB (fun j => o (rc c d j) == q + 1) (rn c d)) i
def rU (o : Nat → Nat) (i p q : Nat) : Bool := q != p && anyB (fun c => decide (36 ≤ c) && (o c == p + 1 && o (c - 36) == q + 1)) i
def rG (o : Nat → Nat) (i p : Nat) : Bool := anyB (fun c => decide (c < 36) && o c == p + 1) i
theorem m_cell {M : Mem} {o : Nat → Nat} {c p g : Nat} (hg : 5000 < g) (hc : c < 216) (hop : o c = p + 1) (ho : ∀ c, c < 216 → o c ≤ 8) (h0 : hP M o) (h1 : mB M (rB o c)) (h2 : mU M (rU o c)) (h3 : mG M (rG o c)) (b : Bool) (hb : b = rG o (c + 1) p) : ∃ M', jn_X8_lays_93 g (if b then 1 else 0) (nI p) (nI c) (nI p) M = some (.inl (nI (c + 1), M')) ∧ eqx [63, 64, 65] M M' ∧ mB M' (rB o (c + 1)) ∧ mU M' (rU o (c + 1)) ∧ mG M' (rG o (c + 1)) := by
  have hp : p < 8 := by have := ho c hc; omega
  have ip : inb (nI p) 8 := inb_nI hp (by omega)
  unfold jn_X8_lays_93
  rw [if_pos ip, if_pos (by cases b <;> simp [isZ]), ix_nI (by omega)]
  simp only [bv]
  obtain ⟨M1, hM1⟩ : ∃ z, z = st M 65 p (if b = true then 1 else 0) := ⟨_, rfl⟩
  rw [← hM1]
  have e1 : eqx [65] M M1 := by rw [hM1]; exact eqx_st (eqx_rf _ _) (by decide) _ _
  have g1 : mG M1 (rG o (c + 1)) := by
    intro p' hp'
    rw [hM1, st_at]
    by_cases e : p' = p
    · subst e; rw [upd_at, hb]
    · rw [upd_ne _ _ e, h3 p' hp']
      unfold rG
      rw [anyB_s, hop, show (p + 1 == p' + 1) = false by simp; omega]
      simp
  have h01 : hP M1 o := fun c hc => by rw [e1 _ (by decide)]; exact h0 c hc
  have mid : ∀ r, r ≤ 8 → (if 36 ≤ c then r = o (c - 36) else r = 0) → ∃ M', jn_X8_lays_112 g (oI r) (nI c) (nI p) M1 = some (.inl (nI (c + 1), M')) ∧ eqx [63, 64, 65] M M' ∧ mB M' (rB o (c + 1)) ∧ mU M' (rU o (c + 1)) ∧ mG M' (rG o (c + 1)) := by
    intro r hr8 hr
    have hU1 : M1 64 p = nI (msk (rU o c p) 8) := by rw [e1 _ (by decide)]; exact h2 p hp
    unfold jn_X8_lays_112
    rw [if_pos ip, ix_nI (by omega), hU1]
    have fin : ∀ v X, v = nI (msk X 8) → (∀ q, q < 8 → X q = (q != p && r == q + 1)) → ∃ M', jn_X8_lays_136 g v (nI (msk (rU o c p) 8)) (nI p) (nI c) (nI p) M1 = some (.inl (nI (c + 1), M')) ∧ eqx [63, 64, 65] M M' ∧ mB M' (rB o (c + 1)) ∧ mU M' (rU o (c + 1)) ∧ mG M' (rG o (c + 1)) := by
      intro v X hv hX
      unfold jn_X8_lays_136
      rw [if_pos ip, ix_nI (by omega), hv, N_or, msk_or]
      simp only [bv]
      obtain ⟨M2, hM2⟩ : ∃ z, z = st M1 64 p (nI (msk (fun i => rU o c p i || X i) 8)) := ⟨_, rfl⟩
      rw [← hM2]
      have e2 : eqx [64] M1 M2 := by rw [hM2]; exact eqx_st (eqx_rf _ _) (by decide) _ _
      have u2' : mU M2 (rU o (c + 1)) := by
        intro p' hp'
        rw [hM2, st_at]
        by_cases e : p' = p
        · subst e
          rw [upd_at]
          congr 1
          apply msk_eq
          intro q hq
          rw [hX q hq]
          unfold rU
          rw [anyB_s, hop]
          by_cases c36 : 36 ≤ c
          · rw [if_pos c36] at hr
            rw [hr]
            simp [c36, Bool.and_or_distrib_left]
          · rw [if_neg c36] at hr
            rw [hr]
            simp [c36]
        · rw [upd_ne _ _ e, e1 _ (by decide), h2 p' hp']
          congr 1
          apply msk_eq
          intro q hq
          unfold rU
          rw [anyB_s, hop, show (p + 1 == p' + 1) = false by simp; omega]
          simp
      have h02 : hP M2 o := fun c hc => by rw [e2 _ (by decide)]; exact h01 c hc
      have b2 : mB M2 (rB o c) := mB_c h1 ((e2 _ (by decide)).trans (e1 _ (by decide))) (fun _ _ _ _ _ _ => rfl)
      have key : ∃ M', lpN g (bd_X8_lays_141 g (nI c) (nI p)) ((0 : Int32), M2) = some M' ∧ (eqx [63] M2 M' ∧ mB M' (rB o (c + 1))) := by
        refine lp_inv (fun i w => w.1 = nI i ∧ eqx [63] M2 w.2 ∧ mB w.2 (fun p' d' q => rB o c p' d' q || (p' == p && (decide (d' < i) && (q != p' && anyB (fun j => o (rc c d' j) == q + 1) (rn c d')))))) _ 6 ?_ ?_ (by omega) ⟨rfl, eqx_rf _ _, mB_c b2 rfl (fun p' d' q _ _ _ => by simp)⟩
        · rintro d ⟨v, N⟩ hd ⟨q1, q2, q3⟩
          dsimp only at q1 q2 q3
          subst q1
          have h0n : hP N o := fun c hc => by rw [q2 _ (by decide)]; exact h02 c hc
          obtain ⟨N1, z1, z2, z3⟩ := m_looks hg hc hd hp ho h0n q3
          simp only [bd_X8_lays_141, u2]
          rw [if_neg (show ¬ (6 : Int32) ≤ nI d from nI_ge (b := 6) hd (by decide)), z1]
          refine ⟨_, rfl, inc d, eqx_tr q2 z2, mB_c z3 rfl ?_⟩
          intro p' d' q _ _ _
          by_cases e : d' = d
          · subst e; simp
          · rw [show decide (d' < d + 1) = decide (d' < d) by simp; omega, show (d' == d) = false by simp [e]]
            simp
        · rintro ⟨v, N⟩ ⟨q1, q2, q3⟩
          dsimp only at q1 q2 q3
          subst q1
          refine ⟨N, ?_, q2, mB_c q3 rfl ?_⟩
          · simp only [bd_X8_lays_141, u2]
            rw [if_pos (by decide)]
          · intro p' d' q _ hd' _
            unfold rB
            rw [anyB_s, hop, decide_eq_true hd', Bool.and_or_distrib_left]
            by_cases e : p' = p
            · subst e; simp
            · rw [show (p + 1 == p' + 1) = false by simp; omega, show (p' == p) = false by simp [e]]
              simp
      obtain ⟨M', z1, z2, z3⟩ := key
      rw [z1]
      refine ⟨M', by rw [← inc]; rfl, ?_, z3, mU_c u2' (z2 _ (by decide)) (fun _ _ _ _ => rfl), mG_c g1 ((z2 _ (by decide)).trans (e2 _ (by decide))) (fun _ _ => rfl)⟩
      exact eqx_tr (eqx_mono e1 (by decide)) (eqx_tr (eqx_mono e2 (by decide)) (eqx_mono z2 (by decide)))
    by_cases c1 : r = 0
    · subst c1
      rw [oI_0, if_pos (by decide)]
      unfold jn_X8_lays_135
      exact fin 0 (fun _ => false) (by rw [msk_z]; rfl) (fun q _ => by simp)
    · obtain ⟨s, rfl⟩ : ∃ s, r = s + 1 := ⟨r - 1, by omega⟩
      rw [oI_s, if_neg (nI_nn (by omega))]
      by_cases c2 : s = p
      · subst c2
        rw [if_pos rfl]
        unfold jn_X8_lays_135
        exact fin 0 (fun _ => false) (by rw [msk_z]; rfl) (fun q _ => by rw [eq_comm, Bool.eq_false_iff]; intro z; simp at z; omega)
      · rw [if_neg (fun q => c2 ((nI_eq (by omega) (by omega)).mp q)), N_sl (by omega), msk_one (show s < 8 by omega)]
        exact fin _ _ rfl (fun q _ => by rw [Bool.eq_iff_iff]; simp; omega)
  by_cases c36 : 36 ≤ c
  · rw [if_pos (show (36 : Int32) ≤ nI c from (nI_leI (a := 36) (by decide) (by omega)).mpr c36), show (36 : Int32) = nI 36 from rfl, nI_sub c36, m_at h01 (show c - 36 < 216 by omega)]
    simp only [Option.bind_some]
    exact mid _ (ho _ (by omega)) (by rw [if_pos c36])
  · rw [if_neg (show ¬ (36 : Int32) ≤ nI c from fun q => c36 ((nI_leI (a := 36) (by decide) (by omega)).mp q))]
    exact mid 0 (by omega) (by rw [if_neg c36])
