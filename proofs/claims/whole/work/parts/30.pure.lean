/-! ===== pure: loops, numbers, bits ===== -/
theorem lp_zero {σ ρ : Type} (b : σ → Option (σ ⊕ ρ)) (s : σ) : lpN 0 b s = none := rfl
theorem lp_go {σ ρ : Type} {b : σ → Option (σ ⊕ ρ)} {s s' : σ} (h : b s = some (.inl s')) (n : Nat) : lpN (n + 1) b s = lpN n b s' := by
  show (match b s with | none => none | some (.inl s') => lpN n b s' | some (.inr r) => some r) = _
  rw [h]
theorem lp_stop {σ ρ : Type} {b : σ → Option (σ ⊕ ρ)} {s : σ} {r : ρ} (h : b s = some (.inr r)) (n : Nat) : lpN (n + 1) b s = some r := by
  show (match b s with | none => none | some (.inl s') => lpN n b s' | some (.inr r) => some r) = _
  rw [h]
/-- a loop whose states are known -/
theorem lp_for {σ ρ : Type} {b : σ → Option (σ ⊕ ρ)} (S : Nat → σ) (N : Nat) {r : ρ} (hs : ∀ k, k < N → b (S k) = some (.inl (S (k + 1)))) (he : b (S N) = some (.inr r)) {g : Nat} (hg : N < g) {s : σ} (h0 : s = S 0) : lpN g b s = some r := by
  have H : ∀ (m k g : Nat), k + m = N → m < g → lpN g b (S k) = some r := by
    intro m
    induction m with
    | zero =>
      intro k g hk hm
      obtain ⟨g, rfl⟩ : ∃ x, g = x + 1 := ⟨g - 1, by omega⟩
      have : k = N := by omega
      subst this
      exact lp_stop he g
    | succ m ih =>
      intro k g hk hm
      obtain ⟨g, rfl⟩ : ∃ x, g = x + 1 := ⟨g - 1, by omega⟩
      rw [lp_go (hs k (by omega))]
      exact ih (k + 1) g (by omega) (by omega)
  rw [h0]
  exact H N 0 g (by omega) hg
/-- a loop with an invariant by the number of its turns -/
theorem lp_inv {σ ρ : Type} {b : σ → Option (σ ⊕ ρ)} (I : Nat → σ → Prop) (Q : ρ → Prop) (N : Nat) (hs : ∀ k s, k < N → I k s → ∃ s', b s = some (.inl s') ∧ I (k + 1) s') (he : ∀ s, I N s → ∃ r, b s = some (.inr r) ∧ Q r) {g : Nat} (hg : N < g) {s : σ} (h0 : I 0 s) : ∃ r, lpN g b s = some r ∧ Q r := by
  have H : ∀ (m k g : Nat) (s : σ), k + m = N → m < g → I k s → ∃ r, lpN g b s = some r ∧ Q r := by
    intro m
    induction m with
    | zero =>
      intro k g s hk hm hI
      obtain ⟨g, rfl⟩ : ∃ x, g = x + 1 := ⟨g - 1, by omega⟩
      have : k = N := by omega
      subst this
      obtain ⟨r, h1, h2⟩ := he s hI
      exact ⟨r, lp_stop h1 g, h2⟩
    | succ m ih =>
      intro k g s hk hm hI
      obtain ⟨g, rfl⟩ : ∃ x, g = x + 1 := ⟨g - 1, by omega⟩
      obtain ⟨s', h1, h2⟩ := hs k s (by omega) hI
      rw [lp_go h1]
      exact ih (k + 1) g s' (by omega) (by omega) h2
  exact H N 0 g s (by omega) hg h0
/-- a loop with an invariant and a measure, which may end early -/
theorem lp_meas {σ ρ : Type} {b : σ → Option (σ ⊕ ρ)} (I : σ → Prop) (Q : ρ → Prop) (μ : σ → Nat) (hs : ∀ s, I s → (∃ s', b s = some (.inl s') ∧ I s' ∧ μ s' < μ s) ∨ ∃ r, b s = some (.inr r) ∧ Q r) : ∀ (g : Nat) (s : σ), μ s < g → I s → ∃ r, lpN g b s = some r ∧ Q r := by
  intro g
  induction g with
  | zero => intro s h; omega
  | succ g ih =>
    intro s hm hI
    rcases hs s hI with ⟨s', h1, h2, h3⟩ | ⟨r, h1, h2⟩
    · rw [lp_go h1]; exact ih s' (by omega) h2
    · exact ⟨r, lp_stop h1 g, h2⟩
/-- two loops side by side -/
theorem lp_two {σ ρ σ' ρ' : Type} {b : σ → Option (σ ⊕ ρ)} {b' : σ' → Option (σ' ⊕ ρ')} (I : σ → σ' → Prop) (Q : ρ → ρ' → Prop) (μ : σ → Nat) (hs : ∀ s s', I s s' → (∃ t t', b s = some (.inl t) ∧ b' s' = some (.inl t') ∧ I t t' ∧ μ t < μ s) ∨ ∃ r r', b s = some (.inr r) ∧ b' s' = some (.inr r') ∧ Q r r') : ∀ (g : Nat) (s : σ) (s' : σ'), μ s < g → I s s' → ∃ r r', lpN g b s = some r ∧ lpN g b' s' = some r' ∧ Q r r' := by
  intro g
  induction g with
  | zero => intro s s' h; omega
  | succ g ih =>
    intro s s' hm hI
    rcases hs s s' hI with ⟨t, t', h1, h1', h2, h3⟩ | ⟨r, r', h1, h1', h2⟩
    · rw [lp_go h1, lp_go h1']; exact ih t t' (by omega) h2
    · exact ⟨r, r', lp_stop h1 g, lp_stop h1' g, h2⟩
/-! numbers -/
theorem ix_nI {a : Nat} (h : a < 2 ^ 31) : ix (nI a) = a := nI_clamp h
theorem inb_nI {a n : Nat} (h : a < n) (hn : n ≤ 5000) : inb (nI a) n := vp_in_nI h (by omega)
theorem L_lit (n : Nat) : (OfNat.ofNat n : Int32) = nI n := fa_lit n
theorem rm_nI {a d : Nat} (ha : a < 2 ^ 31) (h0 : 0 < d) (hd : d < 2 ^ 31) : rm (nI a) (nI d) = nI (a % d) := pk_rem ha h0 hd
theorem m1_ne (a : Nat) (h : a < 2 ^ 31) : nI a ≠ -1 := by
  intro e
  have := nI_toInt h
  rw [e] at this
  have h2 : (-1 : Int32).toInt = -1 := by decide
  omega
theorem m9_ne (a : Nat) (h : a < 2 ^ 31) : nI a ≠ -9 := by
  intro e
  have := nI_toInt h
  rw [e] at this
  have h2 : (-9 : Int32).toInt = -9 := by decide
  omega
theorem nI_nn {a : Nat} (h : a < 2 ^ 31) : ¬ nI a < 0 := nI_pos h
/-- an int that is not negative and less than a bound is a number -/
theorem nI_ex {x : Int32} {n : Nat} (hn : n < 2 ^ 31) (h0 : ¬ x < 0) (h1 : ¬ nI n ≤ x) : ∃ j, j < n ∧ x = nI j := by
  rcases pk_ix x hn with h | h | h
  · exact absurd h h0
  · exact absurd h h1
  · exact h
/-! what a piece's cell holds: the class one less than the reference -/
def oI (a : Nat) : Int32 := nI a - 1
theorem oI_0 : oI 0 = -1 := by decide
theorem oI_s (q : Nat) : oI (q + 1) = nI q := nI_pred q
theorem oI_m1 {a : Nat} (h : a < 2 ^ 31) : oI a = -1 ↔ a = 0 := by
  cases a with
  | zero => simp [oI_0]
  | succ q => rw [oI_s]; exact ⟨fun e => absurd e (m1_ne q (by omega)), fun e => by omega⟩
theorem oI_eq {a q : Nat} (h : a < 2 ^ 31) (hq : q < 2 ^ 31) : oI a = nI q ↔ a = q + 1 := by
  cases a with
  | zero => rw [oI_0]; exact ⟨fun e => absurd e.symm (m1_ne q hq), fun e => by omega⟩
  | succ p => rw [oI_s, nI_eq (by omega) hq]; omega
theorem oI_add (a : Nat) : oI a + 1 = nI a := by
  cases a with
  | zero => decide
  | succ q => rw [oI_s, nI_1]
theorem oI_lt0 {a : Nat} (h : a < 2 ^ 31) : oI a < 0 ↔ a = 0 := by
  cases a with
  | zero => rw [oI_0]; exact ⟨fun _ => rfl, fun _ => by decide⟩
  | succ q => rw [oI_s]; exact ⟨fun e => absurd e (nI_nn (by omega)), fun e => by omega⟩
theorem oI_ge0 {a : Nat} (h : a < 2 ^ 31) : 0 ≤ oI a ↔ a ≠ 0 := by
  cases a with
  | zero => rw [oI_0]; exact ⟨fun e => absurd e (by decide), fun e => absurd rfl e⟩
  | succ q => rw [oI_s]; exact ⟨fun _ => by omega, fun _ => nI_pos' (by omega)⟩
/-! bits -/
theorem bt_nI {a i : Nat} (hi : i < 32) : bt (nI a) i = a.testBit i := by
  show (BitVec.ofNat 32 a).getLsbD i = _
  rw [BitVec.getLsbD_ofNat]
  simp [hi]
theorem N_or (a b : Nat) : nI a ||| nI b = nI (a ||| b) := fa_or a b
theorem N_and (a b : Nat) : nI a &&& nI b = nI (a &&& b) := fa_and a b
theorem N_xor (a b : Nat) : nI a ^^^ nI b = nI (a ^^^ b) := fb_xorI a b
/-- a without b -/
def dif (a b : Nat) : Nat := a ^^^ (a &&& b)
theorem dif_bit (a b i : Nat) : (dif a b).testBit i = (a.testBit i && !b.testBit i) := by
  unfold dif
  rw [Nat.testBit_xor, Nat.testBit_and]
  cases a.testBit i <;> cases b.testBit i <;> rfl
theorem N_dif (a b : Nat) : nI a &&& (nI b ^^^ (-1)) = nI (dif a b) := by
  apply b_ext
  intro i hi
  rw [b_and, b_xor, b_m1 i hi, bt_nI hi, bt_nI hi, bt_nI hi, dif_bit]
  cases a.testBit i <;> cases b.testBit i <;> rfl
theorem N_sl0 : ∀ p, p < 31 → sl 1 (nI p) = nI (2 ^ p) := by decide +kernel
theorem N_sl {p : Nat} (h : p < 31) : sl 1 (nI p) = nI (2 ^ p) := N_sl0 p h
theorem N_sr {a p : Nat} (h : a < 2 ^ 31) (hp : p < 32) : sr (nI a) (nI p) = nI (a / 2 ^ p) := pk_shrN h _ p (s_l p hp)
theorem div_mod_bit (a p : Nat) : a / 2 ^ p % 2 = if a.testBit p then 1 else 0 := by
  rw [Nat.testBit_eq_decide_div_mod_eq]
  by_cases h : a / 2 ^ p % 2 = 1
  · simp [h]
  · have : a / 2 ^ p % 2 = 0 := by omega
    simp [this]
theorem N_bit {a p : Nat} (h : a < 2 ^ 31) (hp : p < 32) : sr (nI a) (nI p) &&& 1 = if a.testBit p then 1 else 0 := by
  rw [N_sr h hp]
  show nI _ &&& nI 1 = _
  rw [N_and, Nat.and_one_is_mod, div_mod_bit]
  split <;> rfl
theorem has7 {a p : Nat} (h : a < 2 ^ 31) (hp : p < 32) : fn_X7_has (nI a) (nI p) = if a.testBit p then 1 else 0 := by
  unfold fn_X7_has
  rw [N_bit h hp]
  cases a.testBit p <;> rfl
theorem has8 {a p : Nat} (h : a < 2 ^ 31) (hp : p < 32) : fn_X8_has (nI a) (nI p) = if a.testBit p then 1 else 0 := by
  unfold fn_X8_has
  rw [N_bit h hp]
  cases a.testBit p <;> rfl
theorem ite01 {b : Bool} : ((if b then (1 : Int32) else 0) = 0) ↔ b = false := by cases b <;> simp
theorem in8 {x a b : Nat} (hx : x < 2 ^ 31) (ha : a < 2 ^ 31) (hb : b < 2 ^ 31) : fn_X8_in (nI x) (nI a) (nI b) = if a ≤ x ∧ x ≤ b then 1 else 0 := by
  unfold fn_X8_in
  simp only [nI_ltI hx ha, nI_ltI hb hx]
  by_cases h : x < a
  · rw [if_pos h, if_neg (by omega)]
  · rw [if_neg h]
    by_cases h2 : b < x
    · rw [if_pos h2, if_neg (by omega)]
    · rw [if_neg h2, if_pos (by omega)]
/-! bit masks from a property -/
def msk (f : Nat → Bool) : Nat → Nat
  | 0 => 0
  | m + 1 => msk f m ||| (if f m then 2 ^ m else 0)
theorem msk_bit (f : Nat → Bool) : ∀ (m i : Nat), (msk f m).testBit i = (decide (i < m) && f i)
  | 0, i => by simp [msk]
  | m + 1, i => by
    rw [msk, Nat.testBit_or, msk_bit f m i]
    by_cases h : i = m
    · subst h
      cases hf : f i <;> simp [hf]
    · have h2 : (if f m = true then 2 ^ m else 0).testBit i = false := by
        cases f m
        · simp
        · simp only [if_true]; rw [Nat.testBit_two_pow]; simp; omega
      rw [h2]
      by_cases h3 : i < m
      · simp [h3, show i < m + 1 by omega]
      · simp [h3, show ¬ i < m + 1 by omega]
theorem msk_lt (f : Nat → Bool) (m : Nat) : msk f m < 2 ^ m := by
  apply Nat.lt_pow_two_of_testBit
  intro i hi
  rw [msk_bit, decide_eq_false (by omega)]
  rfl
theorem bits_eq {a b m : Nat} (ha : a < 2 ^ m) (hb : b < 2 ^ m) (h : ∀ i, i < m → a.testBit i = b.testBit i) : a = b := by
  apply Nat.eq_of_testBit_eq
  intro i
  by_cases hi : i < m
  · exact h i hi
  · rw [Nat.testBit_lt_two_pow (Nat.lt_of_lt_of_le ha (Nat.pow_le_pow_right (by omega) (by omega))), Nat.testBit_lt_two_pow (Nat.lt_of_lt_of_le hb (Nat.pow_le_pow_right (by omega) (by omega)))]
theorem and_zero {a b : Nat} : a &&& b = 0 ↔ ∀ i, ¬ (a.testBit i = true ∧ b.testBit i = true) := by
  constructor
  · intro h i ⟨h1, h2⟩
    have := congrArg (fun z => z.testBit i) h
    simp [Nat.testBit_and, h1, h2] at this
  · intro h
    apply Nat.eq_of_testBit_eq
    intro i
    have := h i
    rw [Nat.testBit_and, Nat.zero_testBit]
    cases h1 : a.testBit i <;> cases h2 : b.testBit i <;> simp_all
theorem nI_z {a : Nat} (h : a < 2 ^ 31) : nI a = 0 ↔ a = 0 := by rw [← nI_0, nI_eq h (by decide)]
theorem lt256 {a n : Nat} (h : a < 2 ^ n) (hn : n ≤ 8) : a < 256 := Nat.lt_of_lt_of_le h (show 2 ^ n ≤ 2 ^ 8 from Nat.pow_le_pow_right (by decide) hn)
/-! memory -/
theorem st_at (M : Mem) (k j : Nat) (v : Int32) : st M k j v k = upd (M k) j v := by unfold st; rw [if_pos rfl]
theorem st_ne (M : Mem) {k a : Nat} (j : Nat) (v : Int32) (h : a ≠ k) : st M k j v a = M a := by unfold st; rw [if_neg h]
theorem stf_at (M : Mem) (k : Nat) (f : Nat → Int32) : stf M k f k = f := by unfold stf; rw [if_pos rfl]
theorem stf_ne (M : Mem) {k a : Nat} (f : Nat → Int32) (h : a ≠ k) : stf M k f a = M a := by unfold stf; rw [if_neg h]
theorem st_eq (M : Mem) (k j : Nat) (v : Int32) : st M k j v = stf M k (upd (M k) j v) := rfl
theorem stf_stf (M : Mem) (k : Nat) (f h : Nat → Int32) : stf (stf M k f) k h = stf M k h := by
  funext a
  unfold stf
  by_cases e : a = k
  · simp [e]
  · simp [e]
theorem stf_self (M : Mem) (k : Nat) : stf M k (M k) = M := by
  funext a
  unfold stf
  by_cases e : a = k
  · simp [e]
  · simp [e]
theorem upd_at (f : Nat → Int32) (j : Nat) (v : Int32) : upd f j v j = v := by unfold upd; rw [if_pos rfl]
theorem upd_ne (f : Nat → Int32) {j i : Nat} (v : Int32) (h : i ≠ j) : upd f j v i = f i := by unfold upd; rw [if_neg h]
/-- all but some cells are as before -/
def eqx (L : List Nat) (M M' : Mem) : Prop := ∀ a, a ∉ L → M' a = M a
theorem eqx_rf (L : List Nat) (M : Mem) : eqx L M M := fun _ _ => rfl
theorem eqx_tr {L : List Nat} {M M1 M2 : Mem} (h : eqx L M M1) (h2 : eqx L M1 M2) : eqx L M M2 := fun a ha => (h2 a ha).trans (h a ha)
theorem eqx_mono {L L2 : List Nat} {M M1 : Mem} (h : eqx L M M1) (hs : ∀ a, a ∈ L → a ∈ L2) : eqx L2 M M1 := fun a ha => h a (fun q => ha (hs a q))
theorem eqx_st {L : List Nat} {M M1 : Mem} (h : eqx L M M1) {k : Nat} (hk : k ∈ L) (j : Nat) (v : Int32) : eqx L M (st M1 k j v) := by
  intro a ha
  have hne : a ≠ k := by intro e; subst e; exact ha hk
  rw [st_ne _ _ _ hne]
  exact h a ha
theorem lp_forb {σ ρ α : Type} {b : σ → Option (σ ⊕ ρ)} (S : Nat → σ) (N : Nat) (r : ρ) {g : Nat} {s : σ} {f : ρ → Option α} {t : Option α} (h0 : s = S 0) (hg : N < g) (hs : ∀ k, k < N → b (S k) = some (.inl (S (k + 1)))) (he : b (S N) = some (.inr r)) (hf : f r = t) : (lpN g b s).bind f = t := by
  rw [lp_for S N hs he hg h0]
  exact hf
