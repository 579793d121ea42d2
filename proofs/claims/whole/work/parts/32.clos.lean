/-! ===== passes over the pieces, round after round ===== -/
/-- a is a part of b -/
def sub (a b : Nat) : Prop := ∀ i, a.testBit i = true → b.testBit i = true
theorem sub_rf (a : Nat) : sub a a := fun _ h => h
theorem sub_tr {a b c : Nat} (h : sub a b) (h2 : sub b c) : sub a c := fun i q => h2 i (h i q)
theorem sub_eq {a b : Nat} (h : sub a b) (h2 : sub b a) : a = b := by
  apply Nat.eq_of_testBit_eq
  intro i
  cases h1 : a.testBit i <;> cases h3 : b.testBit i
  · rfl
  · have := h2 i h3; rw [h1] at this; cases this
  · have := h i h1; rw [h3] at this; cases this
  · rfl
theorem sub_or {a b c : Nat} (h : sub a c) (h2 : sub b c) : sub (a ||| b) c := by
  intro i q
  rw [Nat.testBit_or, Bool.or_eq_true] at q
  rcases q with q | q
  · exact h i q
  · exact h2 i q
theorem sub_l (a b : Nat) : sub a (a ||| b) := fun i q => by rw [Nat.testBit_or, q]; rfl
theorem sub_r (a b : Nat) : sub b (a ||| b) := fun i q => by rw [Nat.testBit_or, q]; simp
theorem sub_al (a b : Nat) : sub (a &&& b) a := fun i q => by rw [Nat.testBit_and, Bool.and_eq_true] at q; exact q.1
theorem sub_ar (a b : Nat) : sub (a &&& b) b := fun i q => by rw [Nat.testBit_and, Bool.and_eq_true] at q; exact q.2
theorem sub_lt {a b m : Nat} (h : sub a b) (hb : b < 2 ^ m) : a < 2 ^ m := by
  apply Nat.lt_pow_two_of_testBit
  intro i hi
  cases q : a.testBit i
  · rfl
  · have := h i q
    rw [Nat.testBit_lt_two_pow (Nat.lt_of_lt_of_le hb (Nat.pow_le_pow_right (by omega) (by omega)))] at this
    cases this
theorem bit_lt {a m i : Nat} (h : a < 2 ^ m) (hi : a.testBit i = true) : i < m := by
  apply Classical.byContradiction
  intro q
  rw [Nat.testBit_lt_two_pow (Nat.lt_of_lt_of_le h (Nat.pow_le_pow_right (by omega) (by omega)))] at hi
  cases hi
theorem sub_0 (a : Nat) : sub 0 a := fun i q => by rw [Nat.zero_testBit] at q; cases q
/-- how many bits -/
def pop (n a : Nat) : Nat := fb_ct (fun i => a.testBit i) n
theorem pop_le (n a : Nat) : pop n a ≤ n := fb_ct_le _ _
theorem pop_mono {n a b : Nat} (h : sub a b) : pop n a ≤ pop n b := fb_ct_sub (fun k _ q => h k q)
theorem pop_strict {n a b : Nat} (h : sub a b) (hb : b < 2 ^ n) (hne : a ≠ b) : pop n a < pop n b := by
  obtain ⟨i, hi⟩ : ∃ i, ¬ (b.testBit i = true → a.testBit i = true) := by
    apply Classical.byContradiction
    intro q
    apply hne
    refine sub_eq h (fun i hi => ?_)
    apply Classical.byContradiction
    intro z
    exact q ⟨i, fun f => z (f hi)⟩
  have hbi : b.testBit i = true := by
    cases q : b.testBit i
    · exact absurd (fun e => by rw [q] at e; cases e) hi
    · rfl
  have hai : a.testBit i = false := by
    cases q : a.testBit i
    · rfl
    · exact absurd (fun _ => q) hi
  have hin := bit_lt hb hbi
  have h1 : fb_ct (fun k => if k = i then true else a.testBit k) n = fb_ct (fun k => a.testBit k) n + 1 := by
    have := fb_ct_upd (fun k => a.testBit k) true (i := i) (n := n) hin
    rw [hai] at this
    exact this
  have h2 : fb_ct (fun k => if k = i then true else a.testBit k) n ≤ fb_ct (fun k => b.testBit k) n := fb_ct_sub (fun k _ q => by
    by_cases e : k = i
    · subst e; exact hbi
    · rw [if_neg e] at q; exact h k q)
  unfold pop
  omega
/-- a pass: at piece k the bits ad k T are added -/
def ps (ad : Nat → Nat → Nat) (T : Nat) : Nat → Nat
  | 0 => T
  | k + 1 => ps ad T k ||| ad k (ps ad T k)
theorem ps_sub (ad : Nat → Nat → Nat) (T : Nat) : ∀ k, sub T (ps ad T k)
  | 0 => sub_rf T
  | k + 1 => sub_tr (ps_sub ad T k) (sub_l _ _)
theorem ps_sub2 (ad : Nat → Nat → Nat) (T : Nat) (j : Nat) : ∀ k, sub (ps ad T j) (ps ad T (j + k))
  | 0 => sub_rf _
  | k + 1 => sub_tr (ps_sub2 ad T j k) (sub_l _ _)
def mono (ad : Nat → Nat → Nat) : Prop := ∀ k a b, sub a b → sub (ad k a) (ad k b)
def closed (n : Nat) (ad : Nat → Nat → Nat) (C : Nat) : Prop := ∀ k, k < n → sub (ad k C) C
theorem ps_in {n : Nat} {ad : Nat → Nat → Nat} (hm : mono ad) {C T : Nat} (hC : closed n ad C) (h : sub T C) : ∀ k, k ≤ n → sub (ps ad T k) C
  | 0, _ => h
  | k + 1, hk => sub_or (ps_in hm hC h k (by omega)) (sub_tr (hm k _ _ (ps_in hm hC h k (by omega))) (hC k (by omega)))
theorem ps_fix {n : Nat} {ad : Nat → Nat → Nat} {T : Nat} (h : ps ad T n = T) : closed n ad T := by
  intro k hk
  have h1 : ps ad T k = T := sub_eq (by
    have := ps_sub2 ad T k (n - k)
    rw [show k + (n - k) = n by omega, h] at this
    exact this) (ps_sub ad T k)
  have h2 : sub (ps ad T (k + 1)) T := by
    have := ps_sub2 ad T (k + 1) (n - (k + 1))
    rw [show k + 1 + (n - (k + 1)) = n by omega, h] at this
    exact this
  have h3 : sub (ad k (ps ad T k)) (ps ad T (k + 1)) := sub_r _ _
  rw [h1] at h3
  exact sub_tr h3 h2
/-- m rounds -/
def rd_s (n : Nat) (ad : Nat → Nat → Nat) (T : Nat) : Nat → Nat
  | 0 => T
  | m + 1 => ps ad (rd_s n ad T m) n
theorem rd_sub (n : Nat) (ad : Nat → Nat → Nat) (T : Nat) : ∀ m, sub T (rd_s n ad T m)
  | 0 => sub_rf T
  | m + 1 => sub_tr (rd_sub n ad T m) (ps_sub _ _ _)
theorem rd_in {n : Nat} {ad : Nat → Nat → Nat} (hm : mono ad) {C T : Nat} (hC : closed n ad C) (h : sub T C) : ∀ m, sub (rd_s n ad T m) C
  | 0 => h
  | m + 1 => ps_in hm hC (rd_in hm hC h m) n (Nat.le_refl n)
theorem ps_lt {n : Nat} {ad : Nat → Nat → Nat} (hl : ∀ k a, a < 2 ^ n → ad k a < 2 ^ n) {T : Nat} (h : T < 2 ^ n) : ∀ k, ps ad T k < 2 ^ n
  | 0 => h
  | k + 1 => Nat.or_lt_two_pow (ps_lt hl h k) (hl k _ (ps_lt hl h k))
theorem rd_lt {n : Nat} {ad : Nat → Nat → Nat} (hl : ∀ k a, a < 2 ^ n → ad k a < 2 ^ n) {T : Nat} (h : T < 2 ^ n) : ∀ m, rd_s n ad T m < 2 ^ n
  | 0 => h
  | m + 1 => ps_lt hl (rd_lt hl h m) n
theorem rd_fix {n : Nat} {ad : Nat → Nat → Nat} (hl : ∀ k a, a < 2 ^ n → ad k a < 2 ^ n) {T : Nat} (h : T < 2 ^ n) : ∀ m, ps ad (rd_s n ad T m) n = rd_s n ad T m ∨ m ≤ pop n (rd_s n ad T m)
  | 0 => Or.inr (Nat.zero_le _)
  | m + 1 => by
    rcases rd_fix hl h m with q | q
    · left
      show ps ad (ps ad (rd_s n ad T m) n) n = ps ad (rd_s n ad T m) n
      rw [q, q]
    · by_cases e : rd_s n ad T m = ps ad (rd_s n ad T m) n
      · left
        show ps ad (ps ad (rd_s n ad T m) n) n = ps ad (rd_s n ad T m) n
        rw [← e, ← e]
      · right
        have := pop_strict (ps_sub ad (rd_s n ad T m) n) (ps_lt hl (rd_lt hl h m) n) e
        show m + 1 ≤ pop n (ps ad (rd_s n ad T m) n)
        omega
theorem pop_full {n a : Nat} (ha : a < 2 ^ n) (h : n ≤ pop n a) {b : Nat} (hb : b < 2 ^ n) : sub b a := by
  intro i hi
  have h1 : pop n a = n := Nat.le_antisymm (pop_le n a) h
  exact (fb_ct_all.mp h1) i (bit_lt hb hi)
theorem rd_closed {n : Nat} {ad : Nat → Nat → Nat} (hl : ∀ k a, a < 2 ^ n → ad k a < 2 ^ n) {T : Nat} (h : T < 2 ^ n) {m : Nat} (hm : n ≤ m) : closed n ad (rd_s n ad T m) := by
  apply ps_fix
  rcases rd_fix hl h m with q | q
  · exact q
  · exact sub_eq (pop_full (rd_lt hl h m) (by omega) (ps_lt hl (rd_lt hl h m) n)) (ps_sub _ _ _)
/-- two closures of which each contains the other's start and is closed under the other's rule -/
theorem rd_same {n : Nat} {ad ad' : Nat → Nat → Nat} (hm : mono ad) (hm' : mono ad') {T T' m m' : Nat} (h1 : closed n ad (rd_s n ad' T' m')) (h2 : sub T (rd_s n ad' T' m')) (h3 : closed n ad' (rd_s n ad T m)) (h4 : sub T' (rd_s n ad T m)) : rd_s n ad T m = rd_s n ad' T' m' :=
  sub_eq (rd_in hm h1 h2 m) (rd_in hm' h3 h4 m')
/-! standing -/
def adS (A : AB) (s k T : Nat) : Nat := if s.testBit k && !(A.be k &&& T == 0) then 2 ^ k else 0
def adS' (A : AB) (s k T : Nat) : Nat := if s.testBit k && (A.gr.testBit k || !(A.be k &&& T == 0)) then 2 ^ k else 0
def stand (A : AB) (s : Nat) : Nat := rd_s A.n (adS A s) (A.gr &&& s) A.n
theorem and_nz {a b : Nat} : (a &&& b == 0) = false ↔ ∃ i, a.testBit i = true ∧ b.testBit i = true := by
  constructor
  · intro h
    apply Classical.byContradiction
    intro q
    have : a &&& b = 0 := and_zero.mpr (fun i z => q ⟨i, z⟩)
    rw [this] at h
    cases h
  · rintro ⟨i, h⟩
    cases e : (a &&& b == 0)
    · rfl
    · exact absurd h (and_zero.mp (by simpa using e) i)
theorem nz_mono {a b c : Nat} (h : sub b c) (q : (a &&& b == 0) = false) : (a &&& c == 0) = false := by
  obtain ⟨i, h1, h2⟩ := and_nz.mp q
  exact and_nz.mpr ⟨i, h1, h i h2⟩
theorem adS_mono (A : AB) (s : Nat) : mono (adS A s) := by
  intro k a b h
  unfold adS
  cases h1 : s.testBit k
  · simp; exact sub_0 _
  · cases h2 : (A.be k &&& a == 0)
    · rw [nz_mono h h2]; exact sub_rf _
    · simp; exact sub_0 _
theorem adS'_mono (A : AB) (s : Nat) : mono (adS' A s) := by
  intro k a b h
  unfold adS'
  cases h1 : s.testBit k
  · simp; exact sub_0 _
  · cases h2 : A.gr.testBit k
    · cases h3 : (A.be k &&& a == 0)
      · rw [nz_mono h h3]; exact sub_rf _
      · simp; exact sub_0 _
    · simp; exact sub_rf _
theorem two_pow_sub {k b : Nat} (h : b.testBit k = true) : sub (2 ^ k) b := by
  intro i hi
  rw [Nat.testBit_two_pow] at hi
  have : k = i := by simpa using hi
  subst this
  exact h
theorem adS_lt (A : AB) {s n : Nat} (hs : s < 2 ^ n) : ∀ k a, a < 2 ^ n → adS A s k a < 2 ^ n := by
  intro k a _
  unfold adS
  split
  · rename_i h
    rw [Bool.and_eq_true] at h
    exact Nat.pow_lt_pow_right (by omega) (bit_lt hs h.1)
  · exact Nat.two_pow_pos n
theorem adS'_lt (A : AB) {s n : Nat} (hs : s < 2 ^ n) : ∀ k a, a < 2 ^ n → adS' A s k a < 2 ^ n := by
  intro k a _
  unfold adS'
  split
  · rename_i h
    rw [Bool.and_eq_true] at h
    exact Nat.pow_lt_pow_right (by omega) (bit_lt hs h.1)
  · exact Nat.two_pow_pos n
theorem stand_eq (A : AB) {s : Nat} (hs : s < 2 ^ A.n) : stand A s = rd_s A.n (adS' A s) 0 (A.n + 1) := by
  unfold stand
  have hg : A.gr &&& s < 2 ^ A.n := and_lt' _ hs
  have c1 := rd_closed (adS_lt A hs) hg (Nat.le_refl A.n)
  have c2 := rd_closed (adS'_lt A hs) (Nat.two_pow_pos A.n) (show A.n ≤ A.n + 1 by omega)
  refine rd_same (adS_mono A s) (adS'_mono A s) ?_ ?_ ?_ (sub_0 _)
  · intro k hk
    have h := c2 k hk
    refine sub_tr ?_ h
    generalize rd_s A.n (adS' A s) 0 (A.n + 1) = R
    unfold adS adS'
    cases s.testBit k
    · simp; exact sub_0 _
    · cases (A.be k &&& R == 0)
      · simp; exact sub_rf _
      · simp; exact sub_0 _
  · intro i hi
    rw [Nat.testBit_and, Bool.and_eq_true] at hi
    have hin := bit_lt hs hi.2
    have h := c2 i hin
    apply h
    unfold adS'
    rw [hi.1, hi.2]
    simp [Nat.testBit_two_pow]
  · intro k hk
    have h := c1 k hk
    have h5 : (A.gr &&& s).testBit k = true → (rd_s A.n (adS A s) (A.gr &&& s) A.n).testBit k = true := rd_sub _ _ _ _ k
    generalize rd_s A.n (adS A s) (A.gr &&& s) A.n = R at h h5 ⊢
    unfold adS'
    unfold adS at h
    cases h1 : s.testBit k
    · simp; exact sub_0 _
    · rw [h1] at h
      cases h2 : A.gr.testBit k
      · simpa using h
      · simp
        refine two_pow_sub (h5 ?_)
        rw [Nat.testBit_and, h1, h2]; rfl
theorem c_standing {M : Mem} {k : Nat} {A : AB} (h : RC M k A) (hA : okA A) {s g : Nat} (hg : 5000 < g) (hs : s < 2 ^ A.n) : fn_X5_standingOf g k (nI s) M = some (nI (stand A s)) := by
  have hn := hA.1
  have hs8 := lt256 hs hn
  unfold fn_X5_standingOf bv
  rw [h.2.2.2.2, N_and]
  have hg0 : A.gr &&& s < 2 ^ A.n := and_lt' _ hs
  have hR := fun i => rd_lt (adS_lt A hs) hg0 i
  refine lp_forb (fun i => (nI (rd_s A.n (adS A s) (A.gr &&& s) i), nI i)) A.n (nI (stand A s)) rfl (by omega) ?_ ?_ rfl
  · intro i hi
    simp only [bd_X5_standingOf_9, u2]
    rw [h.1, if_neg (nI_ge hi (by omega))]
    refine lp_forb (fun p => (nI (ps (adS A s) (rd_s A.n (adS A s) (A.gr &&& s) i) p), nI p)) A.n (nI (rd_s A.n (adS A s) (A.gr &&& s) (i + 1))) rfl (by omega) ?_ ?_ (by simp [u1, inc])
    · intro p hp
      have hT := lt256 (ps_lt (adS_lt A hs) (hR i) p) hn
      simp only [bd_X5_standingOf_20, u2]
      rw [h.1, if_neg (nI_ge hp (by omega)), has7 (by omega) (by omega), if_pos (inb_nI (by omega) (by omega)), ix_nI (by omega), h.2.2.2.1 p (by omega), N_and]
      have hb : A.be p &&& ps (adS A s) (rd_s A.n (adS A s) (A.gr &&& s) i) p < 2 ^ 31 := Nat.lt_trans (and_lt _ (hA.2.2.1 p)) (by decide)
      simp only [ps]
      generalize ps (adS A s) (rd_s A.n (adS A s) (A.gr &&& s) i) p = T at hb hT ⊢
      unfold adS
      cases h1 : s.testBit p
      · simp [inc]
      · by_cases e : A.be p &&& T = 0
        · rw [if_pos ((nI_z hb).mpr e)]; simp [e, inc]
        · rw [if_neg (fun q => e ((nI_z hb).mp q))]; simp [e, inc, bv]
          rw [N_sl (by omega), N_or]
    · simp only [bd_X5_standingOf_20, u2]
      rw [h.1, if_pos (Int32.le_refl _)]
      rfl
  · simp only [bd_X5_standingOf_9, u2]
    rw [h.1, if_pos (Int32.le_refl _)]
    rfl
theorem m_standing {M : Mem} {A : AB} (h : LC M A) (hA : okA A) {s g : Nat} (hg : 5000 < g) (hs : s < 2 ^ A.n) : fn_X8_standingOf g (nI s) M = some (nI (stand A s)) := by
  have hn := hA.1
  have hs8 := lt256 hs hn
  have h0 : M 62 (ix (0 : Int32)) = nI A.n := h.1
  unfold fn_X8_standingOf
  rw [stand_eq A hs]
  have hR := fun i => rd_lt (adS'_lt A hs) (Nat.two_pow_pos A.n) i
  refine lp_forb (fun i => (nI (rd_s A.n (adS' A s) 0 i), nI i)) (A.n + 1) (nI (rd_s A.n (adS' A s) 0 (A.n + 1))) rfl (by omega) ?_ ?_ rfl
  · intro i hi
    simp only [bd_X8_standingOf_4, u2]
    rw [h0, if_neg (show ¬ nI A.n < nI i from fun q => by have := (nI_ltI (by omega) (by omega)).mp q; omega)]
    refine lp_forb (fun p => (nI (ps (adS' A s) (rd_s A.n (adS' A s) 0 i) p), nI p)) A.n (nI (rd_s A.n (adS' A s) 0 (i + 1))) rfl (by omega) ?_ ?_ (by simp [u1, inc])
    · intro p hp
      have hT := lt256 (ps_lt (adS'_lt A hs) (hR i) p) hn
      simp only [bd_X8_standingOf_17, u2]
      rw [h0, if_neg (nI_ge hp (by omega)), has8 (by omega) (by omega), if_pos (inb_nI (by omega) (by omega)), if_pos (inb_nI (by omega) (by omega)), ix_nI (by omega), h.2.2.1 p (by omega), h.2.2.2 p (by omega), N_and]
      have hb : A.be p &&& ps (adS' A s) (rd_s A.n (adS' A s) 0 i) p < 2 ^ 31 := Nat.lt_trans (and_lt _ (hA.2.2.1 p)) (by decide)
      simp only [ps]
      generalize ps (adS' A s) (rd_s A.n (adS' A s) 0 i) p = T at hb hT ⊢
      unfold adS'
      have hsl := N_sl (show p < 31 by omega)
      cases h1 : s.testBit p
      · simp [inc, jn_X8_standingOf_67, jn_X8_standingOf_68, bv]
      · cases h2 : A.gr.testBit p
        · by_cases e : A.be p &&& T = 0
          · rw [if_pos ((nI_z hb).mpr e)]; simp [e, inc, jn_X8_standingOf_67, jn_X8_standingOf_68, bv]
          · rw [if_neg (fun q => e ((nI_z hb).mp q))]; simp [e, inc, jn_X8_standingOf_60, jn_X8_standingOf_68, bv, hsl, N_or]
        · simp [inc, jn_X8_standingOf_60, jn_X8_standingOf_68, bv, hsl, N_or]
    · simp only [bd_X8_standingOf_17, u2]
      rw [h0, if_pos (Int32.le_refl _)]
      rfl
  · simp only [bd_X8_standingOf_4, u2]
    rw [h0, if_pos ((nI_ltI (by omega) (by omega)).mpr (by omega))]
