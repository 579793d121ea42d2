/-! ===== what follows from the tables of blocking, support, contact: class and reference ===== -/
/-- pieces, blocking (piece, direction), below, touching, grounded -/
abbrev AB : Type := Nat × (Nat → Nat → Nat) × (Nat → Nat) × (Nat → Nat) × Nat
abbrev AB.n (A : AB) : Nat := A.1
abbrev AB.B (A : AB) : Nat → Nat → Nat := A.2.1
abbrev AB.be (A : AB) : Nat → Nat := A.2.2.1
abbrev AB.tc (A : AB) : Nat → Nat := A.2.2.2.1
abbrev AB.gr (A : AB) : Nat := A.2.2.2.2
def okA (A : AB) : Prop := A.n ≤ 8 ∧ (∀ p d, A.B p d < 256) ∧ (∀ p, A.be p < 256) ∧ (∀ p, A.tc p < 256) ∧ A.gr < 256
def RC (M : Mem) (k : Nat) (A : AB) : Prop := M k 5 = nI A.n ∧ (∀ p d, p < 8 → d < 6 → M (k + 2) (6 * p + d) = nI (A.B p d)) ∧ (∀ p, p < 8 → M (k + 3) p = nI (A.tc p)) ∧ (∀ p, p < 8 → M (k + 4) p = nI (A.be p)) ∧ M k 4 = nI A.gr
def LC (M : Mem) (A : AB) : Prop := M 62 0 = nI A.n ∧ (∀ p d, p < 8 → d < 6 → M 63 (8 * d + p) = nI (A.B p d)) ∧ (∀ p, p < 8 → M 64 p = nI (A.be p)) ∧ (∀ p, p < 8 → M 65 p = if A.gr.testBit p then 1 else 0)
theorem i6 (p d : Nat) : (6 : Int32) * nI p + nI d = nI (6 * p + d) := by
  show nI 6 * nI p + nI d = _
  rw [pk_mul, nI_add]
theorem i8 (p d : Nat) : (8 : Int32) * nI p + nI d = nI (8 * p + d) := by
  show nI 8 * nI p + nI d = _
  rw [pk_mul, nI_add]
theorem and_lt {a : Nat} (b : Nat) {m : Nat} (h : a < m) : a &&& b < m := Nat.lt_of_le_of_lt Nat.and_le_left h
theorem and_lt' (a : Nat) {b : Nat} {m : Nat} (h : b < m) : a &&& b < m := Nat.lt_of_le_of_lt Nat.and_le_right h
def fr (A : AB) (p s d : Nat) : Bool := A.B p d &&& s == 0
/-- the first direction in which a piece is free, or 6 -/
def fd (A : AB) (p s : Nat) : Nat := fa_first (fr A p s) 6
def cf (A : AB) (p s : Nat) : Bool := decide (fd A p s < 6)
def fwI (A : AB) (p s : Nat) : Int32 := if fd A p s < 6 then nI (fd A p s) else -9
def wm (A : AB) (p s : Nat) : Nat := msk (fr A p s) 6
theorem fd_le (A : AB) (p s : Nat) : fd A p s ≤ 6 := fa_first_le _ _
theorem fd_yes {A : AB} {p s : Nat} (h : fd A p s < 6) : fr A p s (fd A p s) = true := fa_first_yes _ _ h
theorem fd_no {A : AB} {p s d : Nat} (h : d < fd A p s) : fr A p s d = false := fa_first_no _ _ _ h
theorem cf_iff (A : AB) (p s : Nat) : cf A p s = true ↔ ∃ d, d < 6 ∧ fr A p s d = true := by
  unfold cf
  rw [decide_eq_true_eq]
  constructor
  · intro h; exact ⟨_, h, fa_first_yes _ _ h⟩
  · rintro ⟨d, h1, h2⟩
    apply Classical.byContradiction
    intro hn
    have := fa_first_no (fr A p s) 6 d (by show d < fd A p s; omega)
    rw [this] at h2
    cases h2
theorem c_isFree {M : Mem} {k : Nat} {A : AB} (h : RC M k A) (hA : okA A) {p d s : Nat} (hp : p < 8) (hd : d < 6) : fn_X5_isFree k (nI p) (nI d) (nI s) M = some (if fr A p s d then 1 else 0) := by
  unfold fn_X5_isFree
  rw [i6, if_pos (inb_nI (by omega) (by omega)), ix_nI (by omega), h.2.1 p d hp hd, N_and]
  have hb : A.B p d &&& s < 2 ^ 31 := Nat.lt_trans (and_lt s (hA.2.1 p d)) (by decide)
  by_cases e : A.B p d &&& s = 0
  · rw [if_pos ((nI_z hb).mpr e)]; simp [fr, e]
  · rw [if_neg (fun q => e ((nI_z hb).mp q))]; simp [fr, e]
theorem m_isFree {M : Mem} {A : AB} (h : LC M A) (hA : okA A) {p d s : Nat} (hp : p < 8) (hd : d < 6) : fn_X8_isFree (nI p) (nI s) (nI d) M = some (if fr A p s d then 1 else 0) := by
  unfold fn_X8_isFree
  rw [i8, if_pos (inb_nI (by omega) (by omega)), ix_nI (by omega), h.2.1 p d hp hd, N_and]
  have hb : A.B p d &&& s < 2 ^ 31 := Nat.lt_trans (and_lt s (hA.2.1 p d)) (by decide)
  by_cases e : A.B p d &&& s = 0
  · rw [if_pos ((nI_z hb).mpr e)]; simp [fr, e]
  · rw [if_neg (fun q => e ((nI_z hb).mp q))]; simp [fr, e]
theorem le6 {d : Nat} (h : d ≤ 6) : ((6 : Int32) ≤ nI d) ↔ d = 6 := by
  show nI 6 ≤ nI d ↔ _
  rw [nI_leI (by decide) (by omega)]
  omega
theorem inc (k : Nat) : nI k + (1 : Int32) = nI (k + 1) := nI_1 k
theorem c_firstWay {M : Mem} {k : Nat} {A : AB} (h : RC M k A) (hA : okA A) {p s g : Nat} (hg : 5000 < g) (hp : p < 8) : fn_X5_firstWay g k (nI p) (nI s) M = some (fwI A p s) := by
  unfold fn_X5_firstWay
  have hle := fd_le A p s
  have hb : ∀ d, d < 6 → bd_X5_firstWay_2 k (nI p) (nI s) M (nI d) = if fr A p s d then some (.inr (.inr (nI d))) else some (.inl (nI (d + 1))) := by
    intro d hd
    simp only [bd_X5_firstWay_2, u1]
    rw [if_neg (show ¬ (6 : Int32) ≤ nI d from fun q => by have := (le6 (by omega)).mp q; omega), c_isFree h hA hp hd]
    cases fr A p s d <;> simp [inc]
  have hb6 : bd_X5_firstWay_2 k (nI p) (nI s) M (nI 6) = some (.inr (.inl ())) := by
    simp only [bd_X5_firstWay_2, u1]
    rw [if_pos (by decide)]
  have hs : ∀ d, d < fd A p s → bd_X5_firstWay_2 k (nI p) (nI s) M (nI d) = some (.inl (nI (d + 1))) := by
    intro d hd
    rw [hb d (by omega), fd_no hd]
    rfl
  by_cases hc : fd A p s < 6
  · refine lp_forb (fun d => nI d) (fd A p s) (.inr (nI (fd A p s))) rfl (by omega) hs (by rw [hb _ hc, fd_yes hc]; rfl) ?_
    show some (nI (fd A p s)) = some (fwI A p s)
    unfold fwI
    rw [if_pos hc]
  · have e6 : fd A p s = 6 := by omega
    refine lp_forb (fun d => nI d) 6 (.inl ()) rfl (by omega) (fun d hd => hs d (by omega)) hb6 ?_
    show some (-9 : Int32) = some (fwI A p s)
    unfold fwI
    rw [if_neg hc]
theorem fwI_cf (A : AB) (p s : Nat) : (fwI A p s = -9) ↔ cf A p s = false := by
  unfold fwI cf
  have := fd_le A p s
  by_cases hc : fd A p s < 6
  · rw [if_pos hc]; simp [hc, m9_ne _ (show fd A p s < 2 ^ 31 by omega)]
  · rw [if_neg hc]; simp [hc]
theorem m_waysOf {M : Mem} {A : AB} (h : LC M A) (hA : okA A) {p s g : Nat} (hg : 5000 < g) (hp : p < 8) : fn_X8_waysOf g (nI p) (nI s) M = some (nI (wm A p s)) := by
  unfold fn_X8_waysOf
  refine lp_forb (fun d => (nI (msk (fr A p s) d), nI d)) 6 (nI (wm A p s)) rfl (by omega) ?_ ?_ rfl
  · intro d hd
    simp only [bd_X8_waysOf_5, u2]
    rw [if_neg (show ¬ (6 : Int32) ≤ nI d from fun q => by have := (le6 (by omega)).mp q; omega), m_isFree h hA hp hd]
    simp only [msk]
    cases hf : fr A p s d
    · simp [jn_X8_waysOf_32, bv, inc]
    · simp [jn_X8_waysOf_32, bv, inc]
      rw [N_sl (by omega), N_or]
  · simp only [bd_X8_waysOf_5, u2]
    rw [if_pos (by decide)]
    rfl
theorem wm_lt (A : AB) (p s : Nat) : wm A p s < 64 := msk_lt _ 6
theorem wm_bit (A : AB) (p s i : Nat) : (wm A p s).testBit i = (decide (i < 6) && fr A p s i) := msk_bit _ _ _
theorem wm_zero (A : AB) (p s : Nat) : wm A p s = 0 ↔ cf A p s = false := by
  constructor
  · intro h
    cases hc : cf A p s
    · rfl
    · obtain ⟨d, h1, h2⟩ := (cf_iff A p s).mp hc
      have := wm_bit A p s d
      rw [h] at this
      simp [h1, h2] at this
  · intro h
    apply Nat.eq_of_testBit_eq
    intro i
    rw [wm_bit, Nat.zero_testBit]
    cases hf : fr A p s i
    · simp
    · by_cases hi : i < 6
      · have := (cf_iff A p s).mpr ⟨i, hi, hf⟩
        rw [h] at this; cases this
      · simp [hi]
theorem nI_wm_zero (A : AB) (p s : Nat) : nI (wm A p s) = 0 ↔ cf A p s = false := by
  rw [nI_z (by have := wm_lt A p s; omega), wm_zero]
/-- the lowest bit -/
theorem m_lowest {a i g : Nat} (hg : 5000 < g) (ha : a < 256) (hi : i < 8) (h1 : a.testBit i = true) (h0 : ∀ j, j < i → a.testBit j = false) : fn_X8_lowest g (nI a) = some (nI i) := by
  unfold fn_X8_lowest
  refine lp_forb (fun d => nI d) i (nI i) rfl (by omega) ?_ ?_ rfl
  · intro d hd
    simp only [bd_X8_lowest_2, u1]
    rw [N_bit (by omega) (by omega), h0 d hd]
    simp [inc]
  · simp only [bd_X8_lowest_2, u1]
    rw [N_bit (by omega) (by omega), h1]
    simp
theorem low_ways {A : AB} {p s g : Nat} (hg : 5000 < g) (hc : cf A p s = true) : fn_X8_lowest g (nI (wm A p s)) = some (fwI A p s) := by
  have hlt : fd A p s < 6 := by unfold cf at hc; simpa using hc
  rw [m_lowest hg (by have := wm_lt A p s; omega) (i := fd A p s) (by omega) (by rw [wm_bit, fd_yes hlt]; simp [hlt]) (fun j hj => by rw [wm_bit, fd_no hj]; simp)]
  unfold fwI
  rw [if_pos hlt]
/-! props -/
def prf (A : AB) (s p : Nat) : Bool := s.testBit p && (!A.gr.testBit p && (A.be p &&& s == 0))
def pr (A : AB) (s : Nat) : Nat := fb_ct (prf A s) A.n
theorem pr_le (A : AB) (s : Nat) : pr A s ≤ A.n := fb_ct_le _ _
theorem c_props {M : Mem} {k : Nat} {A : AB} (h : RC M k A) (hA : okA A) {s g : Nat} (hg : 5000 < g) (hs : s < 256) : fn_X5_propsOf g k (nI s) M = some (nI (pr A s)) := by
  unfold fn_X5_propsOf
  have hn := hA.1
  refine lp_forb (fun p => (nI (fb_ct (prf A s) p), nI p)) A.n (nI (pr A s)) rfl (by omega) ?_ ?_ rfl
  · intro p hp
    simp only [bd_X5_propsOf_4, u2]
    rw [h.1, if_neg (nI_ge hp (by omega)), has7 (by omega) (by omega), h.2.2.2.2, has7 (Nat.lt_trans hA.2.2.2.2 (by decide)) (by omega), if_pos (inb_nI (by omega) (by omega)), ix_nI (by omega), h.2.2.2.1 p (by omega), N_and]
    have hb : A.be p &&& s < 2 ^ 31 := Nat.lt_trans (and_lt s (hA.2.2.1 p)) (by decide)
    rw [fb_ct_succ]
    unfold prf
    cases h1 : s.testBit p
    · simp [inc]
    · cases h2 : A.gr.testBit p
      · by_cases e : A.be p &&& s = 0
        · rw [if_pos ((nI_z hb).mpr e)]; simp [e, inc]
        · rw [if_neg (fun q => e ((nI_z hb).mp q))]; simp [e, inc]
      · simp [inc]
  · simp only [bd_X5_propsOf_4, u2]
    rw [h.1, if_pos (Int32.le_refl _)]
    rfl
theorem m_props {M : Mem} {A : AB} (h : LC M A) (hA : okA A) {s g : Nat} (hg : 5000 < g) (hs : s < 256) : fn_X8_propsOf g (nI s) M = some (nI (pr A s)) := by
  unfold fn_X8_propsOf
  have hn := hA.1
  have h0 : M 62 (ix (0 : Int32)) = nI A.n := h.1
  refine lp_forb (fun p => (nI (fb_ct (prf A s) p), nI p)) A.n (nI (pr A s)) rfl (by omega) ?_ ?_ rfl
  · intro p hp
    simp only [bd_X8_propsOf_4, u2]
    rw [h0, if_neg (nI_ge hp (by omega)), has8 (by omega) (by omega), if_pos (inb_nI (by omega) (by omega)), if_pos (inb_nI (by omega) (by omega)), ix_nI (by omega), h.2.2.1 p (by omega), h.2.2.2 p (by omega), N_and]
    have hb : A.be p &&& s < 2 ^ 31 := Nat.lt_trans (and_lt s (hA.2.2.1 p)) (by decide)
    rw [fb_ct_succ]
    unfold prf
    cases h1 : s.testBit p
    · simp [inc, jn_X8_propsOf_47, jn_X8_propsOf_48, bv]
    · cases h2 : A.gr.testBit p
      · by_cases e : A.be p &&& s = 0
        · rw [if_pos ((nI_z hb).mpr e)]; simp [e, inc, jn_X8_propsOf_48, bv]
        · rw [if_neg (fun q => e ((nI_z hb).mp q))]; simp [e, inc, jn_X8_propsOf_47, jn_X8_propsOf_48, bv]
      · simp [inc, jn_X8_propsOf_47, jn_X8_propsOf_48, bv]
  · simp only [bd_X8_propsOf_4, u2]
    rw [h0, if_pos (Int32.le_refl _)]
    rfl
