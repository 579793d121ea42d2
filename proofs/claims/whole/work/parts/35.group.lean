/-! ===== groups ===== -/
theorem m_bits {a g : Nat} (hg : 5000 < g) (ha : a < 256) : fn_X8_bits g (nI a) = some (nI (pop 8 a)) := by
  unfold fn_X8_bits
  refine lp_forb (fun k => (nI (fb_ct (fun i => a.testBit i) k), nI k)) 8 (nI (pop 8 a)) rfl (by omega) ?_ ?_ rfl
  · intro k hk
    simp only [bd_X8_bits_4, u2]
    rw [if_neg (show ¬ (8 : Int32) ≤ nI k from nI_ge (b := 8) hk (by decide)), N_bit (by omega) (by omega), fb_ct_succ]
    cases a.testBit k <;> simp [bv, inc]
  · simp only [bd_X8_bits_4, u2]
    rw [if_pos (by decide)]
    rfl
theorem c_bits0 : ∀ a, a < 256 → fn_J6_bitCount_0f7a4 (nI a) = nI (pop 8 a) := by decide +kernel
theorem c_bits {a : Nat} (ha : a < 256) : fn_J6_bitCount_0f7a4 (nI a) = nI (pop 8 a) := c_bits0 a ha
/-- all pieces of G are free in direction d among R -/
def gff (A : AB) (G R d p : Nat) : Bool := G.testBit p && !fr A p R d
def gpf (A : AB) (G R d : Nat) : Bool := !decide (fa_first (gff A G R d) A.n < A.n)
theorem gpf_iff (A : AB) (G R d : Nat) : gpf A G R d = true ↔ ∀ p, p < A.n → G.testBit p = true → fr A p R d = true := by
  unfold gpf
  rw [Bool.not_eq_true', decide_eq_false_iff_not]
  constructor
  · intro h p hp hG
    have h1 := fa_first_le (gff A G R d) A.n
    have h2 := fa_first_no (gff A G R d) A.n p (by omega)
    unfold gff at h2
    rw [hG] at h2
    simpa using h2
  · intro h q
    have h1 := fa_first_yes (gff A G R d) A.n q
    generalize fa_first (gff A G R d) A.n = p at q h1
    unfold gff at h1
    rw [Bool.and_eq_true] at h1
    rw [h p q h1.1] at h1
    simp at h1
theorem c_groupFree {M : Mem} {k : Nat} {A : AB} (h : RC M k A) (hA : okA A) {G R d g : Nat} (hg : 5000 < g) (hG : G < 256) (hd : d < 6) : fn_X5_isGroupFree g k (nI G) (nI d) (nI R) M = some (if gpf A G R d then 1 else 0) := by
  have hn := hA.1
  unfold fn_X5_isGroupFree
  have hb : ∀ p, p < A.n → bd_X5_isGroupFree_3 k (nI G) (nI d) (nI R) M (nI p) = if gff A G R d p then some (.inr (.inr 0)) else some (.inl (nI (p + 1))) := by
    intro p hp
    simp only [bd_X5_isGroupFree_3, u1]
    rw [h.1, if_neg (nI_ge hp (by omega)), has7 (by omega) (by omega), c_isFree h hA (by omega) hd]
    unfold gff
    cases G.testBit p
    · simp [inc]
    · cases fr A p R d <;> simp [inc]
  have hle := fa_first_le (gff A G R d) A.n
  have hs : ∀ p, p < fa_first (gff A G R d) A.n → bd_X5_isGroupFree_3 k (nI G) (nI d) (nI R) M (nI p) = some (.inl (nI (p + 1))) := by
    intro p hp
    rw [hb p (by omega), fa_first_no _ _ _ hp]; rfl
  unfold gpf
  by_cases hc : fa_first (gff A G R d) A.n < A.n
  · refine lp_forb (fun p => nI p) _ (.inr 0) rfl (by omega) hs (by rw [hb _ hc, fa_first_yes _ _ hc]; rfl) ?_
    simp [el, hc]
  · have e : fa_first (gff A G R d) A.n = A.n := by omega
    refine lp_forb (fun p => nI p) A.n (.inl ()) rfl (by omega) (fun p hp => hs p (by omega)) ?_ ?_
    · simp only [bd_X5_isGroupFree_3, u1]
      rw [h.1, if_pos (Int32.le_refl _)]
    · simp [el, hc]
/-- the first direction of a group, or 6 -/
def gd (A : AB) (G s : Nat) : Nat := fa_first (gpf A G (dif s G)) 6
def gwI (A : AB) (G s : Nat) : Int32 := if gd A G s < 6 then nI (gd A G s) else -9
theorem gd_le (A : AB) (G s : Nat) : gd A G s ≤ 6 := fa_first_le _ _
theorem c_groupWay {M : Mem} {k : Nat} {A : AB} (h : RC M k A) (hA : okA A) {G s g : Nat} (hg : 5000 < g) (hG : G < 256) : fn_X5_wayOfGroup g k (nI G) (nI s) M = some (gwI A G s) := by
  unfold fn_X5_wayOfGroup
  have hle := gd_le A G s
  have hb : ∀ d, d < 6 → bd_X5_wayOfGroup_2 g k (nI G) (nI s) M (nI d) = if gpf A G (dif s G) d then some (.inr (.inr (nI d))) else some (.inl (nI (d + 1))) := by
    intro d hd
    simp only [bd_X5_wayOfGroup_2, u1]
    rw [if_neg (show ¬ (6 : Int32) ≤ nI d from nI_ge (b := 6) hd (by decide)), N_dif, c_groupFree h hA hg hG hd]
    cases gpf A G (dif s G) d <;> simp [inc]
  have hs : ∀ d, d < gd A G s → bd_X5_wayOfGroup_2 g k (nI G) (nI s) M (nI d) = some (.inl (nI (d + 1))) := by
    intro d hd
    rw [hb d (by omega), fa_first_no _ _ _ hd]; rfl
  unfold gwI
  by_cases hc : gd A G s < 6
  · refine lp_forb (fun d => nI d) (gd A G s) (.inr (nI (gd A G s))) rfl (by omega) hs (by rw [hb _ hc, show gpf A G (dif s G) (gd A G s) = true from fa_first_yes _ _ hc]; rfl) ?_
    simp [el, hc]
  · refine lp_forb (fun d => nI d) 6 (.inl ()) rfl (by omega) (fun d hd => hs d (by omega)) ?_ ?_
    · simp only [bd_X5_wayOfGroup_2, u1]
      rw [if_pos (by decide)]
    · simp [el, hc]
def cmw (A : AB) (G R : Nat) : Nat → Nat
  | 0 => 63
  | k + 1 => cmw A G R k &&& (if G.testBit k then wm A k R else 63)
theorem bit63 (d : Nat) : (63 : Nat).testBit d = decide (d < 6) := by
  rw [show (63 : Nat) = 2 ^ 6 - 1 from rfl, Nat.testBit_two_pow_sub_one]
theorem cmw_bit (A : AB) (G R d : Nat) : ∀ k, (cmw A G R k).testBit d = true ↔ d < 6 ∧ ∀ p, p < k → G.testBit p = true → fr A p R d = true
  | 0 => by
    show (63 : Nat).testBit d = true ↔ _
    rw [bit63]
    simp
  | k + 1 => by
    show (cmw A G R k &&& _).testBit d = true ↔ _
    rw [Nat.testBit_and, Bool.and_eq_true, cmw_bit A G R d k]
    constructor
    · rintro ⟨⟨h1, h2⟩, h3⟩
      refine ⟨h1, fun p hp hG => ?_⟩
      by_cases e : p = k
      · subst e
        rw [hG] at h3
        simp only [if_true] at h3
        rw [wm_bit] at h3
        simp [h1] at h3
        exact h3
      · exact h2 p (by omega) hG
    · rintro ⟨h1, h2⟩
      refine ⟨⟨h1, fun p hp hG => h2 p (by omega) hG⟩, ?_⟩
      cases hG : G.testBit k
      · simp [bit63, h1]
      · simp only [if_true]
        rw [wm_bit, h2 k (by omega) hG]
        simp [h1]
theorem m_common {M : Mem} {A : AB} (h : LC M A) (hA : okA A) {G R g : Nat} (hg : 5000 < g) (hG : G < 256) : fn_X8_commonWays g (nI G) (nI R) M = some (nI (cmw A G R A.n)) := by
  have hn := hA.1
  have h0 : M 62 (ix (0 : Int32)) = nI A.n := h.1
  unfold fn_X8_commonWays
  refine lp_forb (fun k => (nI (cmw A G R k), nI k)) A.n (nI (cmw A G R A.n)) rfl (by omega) ?_ ?_ rfl
  · intro p hp
    simp only [bd_X8_commonWays_6, u2]
    rw [h0, if_neg (nI_ge hp (by omega)), has8 (by omega) (by omega), m_waysOf h hA hg (by omega)]
    simp only [cmw]
    cases G.testBit p
    · simp [jn_X8_commonWays_39, bv, inc]
      show nI _ &&& nI 63 = _
      rw [N_and]
    · simp [jn_X8_commonWays_39, bv, inc]
      rw [N_and]
  · simp only [bd_X8_commonWays_6, u2]
    rw [h0, if_pos (Int32.le_refl _)]
theorem cmw_lt (A : AB) (G R : Nat) (k : Nat) : cmw A G R k < 64 := by
  apply Nat.lt_pow_two_of_testBit (n := 6)
  intro i hi
  cases q : (cmw A G R k).testBit i
  · rfl
  · have := ((cmw_bit A G R i k).mp q).1
    omega
theorem cmw_gpf (A : AB) (G R d : Nat) : (cmw A G R A.n).testBit d = (decide (d < 6) && gpf A G R d) := by
  cases q : (cmw A G R A.n).testBit d
  · cases hd : decide (d < 6)
    · rfl
    · cases hg : gpf A G R d
      · rfl
      · have := (cmw_bit A G R d A.n).mpr ⟨by simpa using hd, (gpf_iff A G R d).mp hg⟩
        rw [q] at this; cases this
  · obtain ⟨h1, h2⟩ := (cmw_bit A G R d A.n).mp q
    rw [(gpf_iff A G R d).mpr h2, decide_eq_true h1]; rfl
theorem cmw_zero (A : AB) (G s : Nat) : nI (cmw A G (dif s G) A.n) = 0 ↔ ¬ gd A G s < 6 := by
  rw [nI_z (by have := cmw_lt A G (dif s G) A.n; omega)]
  constructor
  · intro h q
    have := cmw_gpf A G (dif s G) (gd A G s)
    rw [h, Nat.zero_testBit, show gpf A G (dif s G) (gd A G s) = true from fa_first_yes _ _ q] at this
    simp [q] at this
  · intro h
    apply Nat.eq_of_testBit_eq
    intro d
    rw [cmw_gpf, Nat.zero_testBit]
    by_cases hd : d < 6
    · have h1 := gd_le A G s
      rw [show gpf A G (dif s G) d = false from fa_first_no _ _ _ (show d < gd A G s by omega)]
      simp
    · simp [hd]
theorem low_group {A : AB} {G s g : Nat} (hg : 5000 < g) (hc : gd A G s < 6) : fn_X8_lowest g (nI (cmw A G (dif s G) A.n)) = some (gwI A G s) := by
  rw [m_lowest hg (by have := cmw_lt A G (dif s G) A.n; omega) (i := gd A G s) (by omega) (by rw [cmw_gpf, show gpf A G (dif s G) (gd A G s) = true from fa_first_yes _ _ hc]; simp [hc]) (fun j hj => by rw [cmw_gpf, show gpf A G (dif s G) j = false from fa_first_no _ _ _ hj]; simp)]
  unfold gwI
  rw [if_pos hc]
theorem dif_zero {a b : Nat} : dif a b = 0 ↔ sub a b := by
  constructor
  · intro h i hi
    have := dif_bit a b i
    rw [h, Nat.zero_testBit, hi] at this
    cases q : b.testBit i
    · rw [q] at this; cases this
    · rfl
  · intro h
    apply Nat.eq_of_testBit_eq
    intro i
    rw [dif_bit, Nat.zero_testBit]
    cases q : a.testBit i
    · rfl
    · rw [h i q]; rfl
theorem dif_lt {a b m : Nat} (h : a < 2 ^ m) : dif a b < 2 ^ m := sub_lt (dif_sub a b) h
/-- the best group among 1 .. k; 0: none -/
def gbs (A : AB) (s : Nat) : Nat → Nat
  | 0 => 0
  | k + 1 => if dif (k + 1) s == 0 && (gbs A s k == 0 || decide (pop 8 (k + 1) < pop 8 (gbs A s k))) && decide (gd A (k + 1) s < 6) then k + 1 else gbs A s k
def gb (A : AB) (s : Nat) : Nat := gbs A s (s - 1)
theorem gbs_y {A : AB} {s k : Nat} (h1 : dif (k + 1) s = 0) (h2 : gbs A s k = 0 ∨ pop 8 (k + 1) < pop 8 (gbs A s k)) (h3 : gd A (k + 1) s < 6) : gbs A s (k + 1) = k + 1 := by
  have e : gbs A s (k + 1) = if dif (k + 1) s == 0 && (gbs A s k == 0 || decide (pop 8 (k + 1) < pop 8 (gbs A s k))) && decide (gd A (k + 1) s < 6) then k + 1 else gbs A s k := rfl
  rw [e, if_pos]
  simp [h1, h3]
  exact h2
theorem gbs_n {A : AB} {s k : Nat} (h : ¬ (dif (k + 1) s = 0 ∧ (gbs A s k = 0 ∨ pop 8 (k + 1) < pop 8 (gbs A s k)) ∧ gd A (k + 1) s < 6)) : gbs A s (k + 1) = gbs A s k := by
  have e : gbs A s (k + 1) = if dif (k + 1) s == 0 && (gbs A s k == 0 || decide (pop 8 (k + 1) < pop 8 (gbs A s k))) && decide (gd A (k + 1) s < 6) then k + 1 else gbs A s k := rfl
  rw [e, if_neg]
  intro q
  apply h
  simp at q
  exact ⟨q.1.1, q.1.2, q.2⟩
def szI (b : Nat) : Int32 := if b = 0 then 8 else nI (pop 8 b)
def bI (b : Nat) : Int32 := if b = 0 then -9 else nI b
theorem gbs_le (A : AB) (s : Nat) : ∀ k, gbs A s k ≤ k
  | 0 => Nat.le_refl _
  | k + 1 => by
    have h := gbs_le A s k
    have e : gbs A s (k + 1) = if dif (k + 1) s == 0 && (gbs A s k == 0 || decide (pop 8 (k + 1) < pop 8 (gbs A s k))) && decide (gd A (k + 1) s < 6) then k + 1 else gbs A s k := rfl
    rw [e]
    split
    · exact Nat.le_refl _
    · omega
theorem gbs_gd (A : AB) (s : Nat) : ∀ k, gbs A s k ≠ 0 → gd A (gbs A s k) s < 6
  | 0 => fun h => absurd rfl h
  | k + 1 => by
    intro h
    have ih := gbs_gd A s k
    by_cases c : (dif (k + 1) s == 0 && (gbs A s k == 0 || decide (pop 8 (k + 1) < pop 8 (gbs A s k))) && decide (gd A (k + 1) s < 6)) = true
    · have e : gbs A s (k + 1) = k + 1 := by show (if _ then _ else _) = _; rw [if_pos c]
      rw [e]
      rw [Bool.and_eq_true] at c
      simpa using c.2
    · have e : gbs A s (k + 1) = gbs A s k := by show (if _ then _ else _) = _; rw [if_neg c]
      rw [e] at h ⊢
      exact ih h
theorem pop_lt8 {G s : Nat} (hs : s < 256) (hlt : G < s) (h : sub G s) : pop 8 G < 8 := by
  have h1 := pop_strict (n := 8) h hs (by omega)
  have h2 := pop_le 8 s
  omega
theorem c_group {M : Mem} {k : Nat} {A : AB} (h : RC M k A) (hA : okA A) {s g : Nat} (hg : 5000 < g) (hs : s < 256) : fn_X5_smallestGroup g k (nI s) M = some (bI (gb A s)) := by
  unfold fn_X5_smallestGroup
  refine lp_forb (fun j => (bI (gbs A s j), szI (gbs A s j), nI (j + 1))) (s - 1) (bI (gb A s)) rfl (by omega) ?_ ?_ rfl
  · intro j hj
    have hb8 : gbs A s j < 256 := by have := gbs_le A s j; omega
    have hp8 := pop_le 8 (gbs A s j)
    have hpG := pop_le 8 (j + 1)
    simp only [bd_X5_smallestGroup_9, u3]
    rw [if_neg (show ¬ nI s ≤ nI (j + 1) from nI_ge (by omega) (by omega)), N_dif, c_bits (show j + 1 < 256 by omega)]
    have hd : dif (j + 1) s < 2 ^ 31 := Nat.lt_trans (dif_lt (m := 8) (show j + 1 < 2 ^ 8 by omega)) (by decide)
    by_cases c1 : dif (j + 1) s = 0
    · rw [if_pos ((nI_z hd).mpr c1)]
      have hpl := pop_lt8 hs (by omega) (dif_zero.mp c1)
      have hsz : (szI (gbs A s j) ≤ nI (pop 8 (j + 1))) ↔ ¬ (gbs A s j = 0 ∨ pop 8 (j + 1) < pop 8 (gbs A s j)) := by
        unfold szI
        by_cases c2 : gbs A s j = 0
        · rw [if_pos c2]
          show nI 8 ≤ nI (pop 8 (j + 1)) ↔ _
          rw [nI_leI (by decide) (by omega)]
          simp [c2]; omega
        · rw [if_neg c2, nI_leI (by omega) (by omega)]
          simp [c2]
      by_cases c3 : gbs A s j = 0 ∨ pop 8 (j + 1) < pop 8 (gbs A s j)
      · rw [if_neg (fun q => hsz.mp q c3)]
        simp only [jn_X5_smallestGroup_38]
        rw [if_neg (by decide), c_groupWay h hA hg (show j + 1 < 256 by omega), c_bits (show j + 1 < 256 by omega)]
        unfold gwI
        by_cases c4 : gd A (j + 1) s < 6
        · rw [gbs_y c1 c3 c4]
          simp [c4, m9_ne _ (show gd A (j + 1) s < 2 ^ 31 by omega), bv, inc, bI, szI]
        · rw [gbs_n (fun q => c4 q.2.2)]
          simp [c4, inc]
      · rw [if_pos (hsz.mpr c3), gbs_n (fun q => c3 q.2.1)]
        simp [jn_X5_smallestGroup_37, jn_X5_smallestGroup_38, inc]
    · rw [if_neg (fun q => c1 ((nI_z hd).mp q)), gbs_n (fun q => c1 q.1)]
      simp [jn_X5_smallestGroup_37, jn_X5_smallestGroup_38, inc]
  · simp only [bd_X5_smallestGroup_9, u3]
    rw [if_pos (show nI s ≤ nI (s - 1 + 1) from nI_le (by omega) (by omega))]
    rfl
theorem m_group {M : Mem} {A : AB} (h : LC M A) (hA : okA A) {s g : Nat} (hg : 5000 < g) (hs : s < 256) : fn_X8_groupOf g (nI s) M = some (bI (gb A s)) := by
  unfold fn_X8_groupOf
  refine lp_forb (fun j => (bI (gbs A s j), nI (j + 1))) (s - 1) (bI (gb A s)) rfl (by omega) ?_ ?_ rfl
  · intro j hj
    have hb8 : gbs A s j < 256 := by have := gbs_le A s j; omega
    have hp8 := pop_le 8 (gbs A s j)
    have hpG := pop_le 8 (j + 1)
    simp only [bd_X8_groupOf_5, u2, fn_X8_isWithin]
    rw [if_neg (show ¬ nI s ≤ nI (j + 1) from nI_ge (by omega) (by omega)), N_dif]
    have hd : dif (j + 1) s < 2 ^ 31 := Nat.lt_trans (dif_lt (m := 8) (show j + 1 < 2 ^ 8 by omega)) (by decide)
    have h40 : ∀ v, jn_X8_groupOf_40 g 1 v (nI (j + 1)) (nI s) M = if gd A (j + 1) s < 6 then some (.inl (nI (j + 1), nI (j + 1 + 1))) else some (.inl (v, nI (j + 1 + 1))) := by
      intro v
      simp only [jn_X8_groupOf_40]
      rw [if_neg (by decide), N_dif, m_common h hA hg (show j + 1 < 256 by omega)]
      by_cases c4 : gd A (j + 1) s < 6
      · have : ¬ nI (cmw A (j + 1) (dif s (j + 1)) A.n) = 0 := fun q => (cmw_zero A (j + 1) s).mp q c4
        simp [this, c4, jn_X8_groupOf_65, inc]
      · have := (cmw_zero A (j + 1) s).mpr c4
        simp [this, c4, jn_X8_groupOf_64, jn_X8_groupOf_65, inc]
    have h40' : ∀ v, jn_X8_groupOf_40 g 0 v (nI (j + 1)) (nI s) M = some (.inl (v, nI (j + 1 + 1))) := by
      intro v
      simp [jn_X8_groupOf_40, jn_X8_groupOf_64, jn_X8_groupOf_65, inc]
    simp only [gbs, jn_X8_groupOf_39, jn_X8_groupOf_35, h40, h40']
    by_cases c1 : dif (j + 1) s = 0
    · rw [if_pos ((nI_z hd).mpr c1)]
      by_cases c2 : gbs A s j = 0
      · have e : bI (gbs A s j) = -9 := by unfold bI; rw [if_pos c2]
        rw [e]
        by_cases c4 : gd A (j + 1) s < 6
        · simp [c1, c2, c4, bI]
        · simp [c1, c2, c4, bI]
      · have e : bI (gbs A s j) = nI (gbs A s j) := by unfold bI; rw [if_neg c2]
        rw [e, m_bits hg (show j + 1 < 256 by omega), m_bits hg hb8]
        have hne : ¬ nI (gbs A s j) = -9 := m9_ne _ (by omega)
        by_cases c3 : pop 8 (j + 1) < pop 8 (gbs A s j)
        · have hle : ¬ nI (pop 8 (gbs A s j)) ≤ nI (pop 8 (j + 1)) := nI_ge c3 (by omega)
          by_cases c4 : gd A (j + 1) s < 6
          · simp [c1, c2, c3, c4, hne, hle, bI]
          · simp [c1, c2, c3, c4, hne, hle, bI]
        · have hle : nI (pop 8 (gbs A s j)) ≤ nI (pop 8 (j + 1)) := nI_le (by omega) (by omega)
          simp [c1, c2, c3, hne, hle, bI]
    · rw [if_neg (fun q => c1 ((nI_z hd).mp q))]
      simp [c1]
  · simp only [bd_X8_groupOf_5, u2]
    rw [if_pos (show nI s ≤ nI (s - 1 + 1) from nI_le (by omega) (by omega))]
    rfl
